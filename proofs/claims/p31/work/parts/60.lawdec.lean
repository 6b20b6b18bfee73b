noncomputable section
def lgL_law_1 : List (Nat × Instr × Nat) := [(0, .new 7, 3), (3, .dup, 1), (4, .invokespecial 9, 3), (7, .astore_n 1, 1), (8, .new 10, 3), (11, .dup, 1), (12, .invokespecial 12, 3), (15, .astore_n 2, 1), (16, .iconst 0, 1), (17, .istore_n 3, 1)]
theorem dgL_law_1 : ∀ q ∈ lgL_law_1, decode cL_law q.1 = .ok (q.2.1, q.2.2) := by decide +kernel
theorem dL_law_0 : decode cL_law 0 = .ok (.new 7, 3) := dall dgL_law_1 0 rfl
theorem dL_law_3 : decode cL_law 3 = .ok (.dup, 1) := dall dgL_law_1 1 rfl
theorem dL_law_4 : decode cL_law 4 = .ok (.invokespecial 9, 3) := dall dgL_law_1 2 rfl
theorem dL_law_7 : decode cL_law 7 = .ok (.astore_n 1, 1) := dall dgL_law_1 3 rfl
theorem dL_law_8 : decode cL_law 8 = .ok (.new 10, 3) := dall dgL_law_1 4 rfl
theorem dL_law_11 : decode cL_law 11 = .ok (.dup, 1) := dall dgL_law_1 5 rfl
theorem dL_law_12 : decode cL_law 12 = .ok (.invokespecial 12, 3) := dall dgL_law_1 6 rfl
theorem dL_law_15 : decode cL_law 15 = .ok (.astore_n 2, 1) := dall dgL_law_1 7 rfl
theorem dL_law_16 : decode cL_law 16 = .ok (.iconst 0, 1) := dall dgL_law_1 8 rfl
theorem dL_law_17 : decode cL_law 17 = .ok (.istore_n 3, 1) := dall dgL_law_1 9 rfl
def lgL_law_2 : List (Nat × Instr × Nat) := [(18, .iload_n 3, 1), (19, .aload_n 0, 1), (20, .arraylength, 1), (21, .iconst 5, 1), (22, .isub, 1), (23, .if_icmp .gt 1048, 3), (26, .aload_n 0, 1), (27, .iload_n 3, 1), (28, .iaload, 1), (29, .bipush 31, 2)]
theorem dgL_law_2 : ∀ q ∈ lgL_law_2, decode cL_law q.1 = .ok (q.2.1, q.2.2) := by decide +kernel
theorem dL_law_18 : decode cL_law 18 = .ok (.iload_n 3, 1) := dall dgL_law_2 0 rfl
theorem dL_law_19 : decode cL_law 19 = .ok (.aload_n 0, 1) := dall dgL_law_2 1 rfl
theorem dL_law_20 : decode cL_law 20 = .ok (.arraylength, 1) := dall dgL_law_2 2 rfl
theorem dL_law_21 : decode cL_law 21 = .ok (.iconst 5, 1) := dall dgL_law_2 3 rfl
theorem dL_law_22 : decode cL_law 22 = .ok (.isub, 1) := dall dgL_law_2 4 rfl
theorem dL_law_23 : decode cL_law 23 = .ok (.if_icmp .gt 1048, 3) := dall dgL_law_2 5 rfl
theorem dL_law_26 : decode cL_law 26 = .ok (.aload_n 0, 1) := dall dgL_law_2 6 rfl
theorem dL_law_27 : decode cL_law 27 = .ok (.iload_n 3, 1) := dall dgL_law_2 7 rfl
theorem dL_law_28 : decode cL_law 28 = .ok (.iaload, 1) := dall dgL_law_2 8 rfl
theorem dL_law_29 : decode cL_law 29 = .ok (.bipush 31, 2) := dall dgL_law_2 9 rfl
def lgL_law_3 : List (Nat × Instr × Nat) := [(31, .iand, 1), (32, .tableswitch 1033 0 30 #[140, 203, 216, 229, 252, 305, 328, 371, 384, 407, 440, 463, 496, 529, 552, 575, 608, 641, 674, 707, 730, 763, 806, 819, 832, 865, 898, 941, 964, 997, 1020], 140), (172, .aload_n 1, 1), (173, .aload_n 0, 1), (174, .iload_n 3, 1), (175, .iconst 1, 1), (176, .iadd, 1), (177, .iaload, 1), (178, .i2l, 1), (179, .bipush 32, 2)]
theorem dgL_law_3 : ∀ q ∈ lgL_law_3, decode cL_law q.1 = .ok (q.2.1, q.2.2) := by decide +kernel
theorem dL_law_31 : decode cL_law 31 = .ok (.iand, 1) := dall dgL_law_3 0 rfl
theorem dL_law_32 : decode cL_law 32 = .ok (.tableswitch 1033 0 30 #[140, 203, 216, 229, 252, 305, 328, 371, 384, 407, 440, 463, 496, 529, 552, 575, 608, 641, 674, 707, 730, 763, 806, 819, 832, 865, 898, 941, 964, 997, 1020], 140) := dall dgL_law_3 1 rfl
theorem dL_law_172 : decode cL_law 172 = .ok (.aload_n 1, 1) := dall dgL_law_3 2 rfl
theorem dL_law_173 : decode cL_law 173 = .ok (.aload_n 0, 1) := dall dgL_law_3 3 rfl
theorem dL_law_174 : decode cL_law 174 = .ok (.iload_n 3, 1) := dall dgL_law_3 4 rfl
theorem dL_law_175 : decode cL_law 175 = .ok (.iconst 1, 1) := dall dgL_law_3 5 rfl
theorem dL_law_176 : decode cL_law 176 = .ok (.iadd, 1) := dall dgL_law_3 6 rfl
theorem dL_law_177 : decode cL_law 177 = .ok (.iaload, 1) := dall dgL_law_3 7 rfl
theorem dL_law_178 : decode cL_law 178 = .ok (.i2l, 1) := dall dgL_law_3 8 rfl
theorem dL_law_179 : decode cL_law 179 = .ok (.bipush 32, 2) := dall dgL_law_3 9 rfl
def lgL_law_4 : List (Nat × Instr × Nat) := [(181, .lshl, 1), (182, .aload_n 0, 1), (183, .iload_n 3, 1), (184, .iconst 2, 1), (185, .iadd, 1), (186, .iaload, 1), (187, .i2l, 1), (188, .ldc2_w 13, 3), (191, .land, 1), (192, .lor, 1)]
theorem dgL_law_4 : ∀ q ∈ lgL_law_4, decode cL_law q.1 = .ok (q.2.1, q.2.2) := by decide +kernel
theorem dL_law_181 : decode cL_law 181 = .ok (.lshl, 1) := dall dgL_law_4 0 rfl
theorem dL_law_182 : decode cL_law 182 = .ok (.aload_n 0, 1) := dall dgL_law_4 1 rfl
theorem dL_law_183 : decode cL_law 183 = .ok (.iload_n 3, 1) := dall dgL_law_4 2 rfl
theorem dL_law_184 : decode cL_law 184 = .ok (.iconst 2, 1) := dall dgL_law_4 3 rfl
theorem dL_law_185 : decode cL_law 185 = .ok (.iadd, 1) := dall dgL_law_4 4 rfl
theorem dL_law_186 : decode cL_law 186 = .ok (.iaload, 1) := dall dgL_law_4 5 rfl
theorem dL_law_187 : decode cL_law 187 = .ok (.i2l, 1) := dall dgL_law_4 6 rfl
theorem dL_law_188 : decode cL_law 188 = .ok (.ldc2_w 13, 3) := dall dgL_law_4 7 rfl
theorem dL_law_191 : decode cL_law 191 = .ok (.land, 1) := dall dgL_law_4 8 rfl
theorem dL_law_192 : decode cL_law 192 = .ok (.lor, 1) := dall dgL_law_4 9 rfl
def lgL_law_5 : List (Nat × Instr × Nat) := [(193, .aload_n 0, 1), (194, .iload_n 3, 1), (195, .iconst 3, 1), (196, .iadd, 1), (197, .iaload, 1), (198, .invokevirtual 15, 3), (201, .pop, 1), (202, .aload_n 2, 1), (203, .aload_n 0, 1), (204, .iload_n 3, 1)]
theorem dgL_law_5 : ∀ q ∈ lgL_law_5, decode cL_law q.1 = .ok (q.2.1, q.2.2) := by decide +kernel
theorem dL_law_193 : decode cL_law 193 = .ok (.aload_n 0, 1) := dall dgL_law_5 0 rfl
theorem dL_law_194 : decode cL_law 194 = .ok (.iload_n 3, 1) := dall dgL_law_5 1 rfl
theorem dL_law_195 : decode cL_law 195 = .ok (.iconst 3, 1) := dall dgL_law_5 2 rfl
theorem dL_law_196 : decode cL_law 196 = .ok (.iadd, 1) := dall dgL_law_5 3 rfl
theorem dL_law_197 : decode cL_law 197 = .ok (.iaload, 1) := dall dgL_law_5 4 rfl
theorem dL_law_198 : decode cL_law 198 = .ok (.invokevirtual 15, 3) := dall dgL_law_5 5 rfl
theorem dL_law_201 : decode cL_law 201 = .ok (.pop, 1) := dall dgL_law_5 6 rfl
theorem dL_law_202 : decode cL_law 202 = .ok (.aload_n 2, 1) := dall dgL_law_5 7 rfl
theorem dL_law_203 : decode cL_law 203 = .ok (.aload_n 0, 1) := dall dgL_law_5 8 rfl
theorem dL_law_204 : decode cL_law 204 = .ok (.iload_n 3, 1) := dall dgL_law_5 9 rfl
def lgL_law_6 : List (Nat × Instr × Nat) := [(205, .iconst 1, 1), (206, .iadd, 1), (207, .iaload, 1), (208, .i2l, 1), (209, .bipush 32, 2), (211, .lshl, 1), (212, .aload_n 0, 1), (213, .iload_n 3, 1), (214, .iconst 2, 1), (215, .iadd, 1)]
theorem dgL_law_6 : ∀ q ∈ lgL_law_6, decode cL_law q.1 = .ok (q.2.1, q.2.2) := by decide +kernel
theorem dL_law_205 : decode cL_law 205 = .ok (.iconst 1, 1) := dall dgL_law_6 0 rfl
theorem dL_law_206 : decode cL_law 206 = .ok (.iadd, 1) := dall dgL_law_6 1 rfl
theorem dL_law_207 : decode cL_law 207 = .ok (.iaload, 1) := dall dgL_law_6 2 rfl
theorem dL_law_208 : decode cL_law 208 = .ok (.i2l, 1) := dall dgL_law_6 3 rfl
theorem dL_law_209 : decode cL_law 209 = .ok (.bipush 32, 2) := dall dgL_law_6 4 rfl
theorem dL_law_211 : decode cL_law 211 = .ok (.lshl, 1) := dall dgL_law_6 5 rfl
theorem dL_law_212 : decode cL_law 212 = .ok (.aload_n 0, 1) := dall dgL_law_6 6 rfl
theorem dL_law_213 : decode cL_law 213 = .ok (.iload_n 3, 1) := dall dgL_law_6 7 rfl
theorem dL_law_214 : decode cL_law 214 = .ok (.iconst 2, 1) := dall dgL_law_6 8 rfl
theorem dL_law_215 : decode cL_law 215 = .ok (.iadd, 1) := dall dgL_law_6 9 rfl
def lgL_law_7 : List (Nat × Instr × Nat) := [(216, .iaload, 1), (217, .i2l, 1), (218, .ldc2_w 13, 3), (221, .land, 1), (222, .lor, 1), (223, .aload_n 0, 1), (224, .iload_n 3, 1), (225, .iconst 3, 1), (226, .iadd, 1), (227, .iaload, 1)]
theorem dgL_law_7 : ∀ q ∈ lgL_law_7, decode cL_law q.1 = .ok (q.2.1, q.2.2) := by decide +kernel
theorem dL_law_216 : decode cL_law 216 = .ok (.iaload, 1) := dall dgL_law_7 0 rfl
theorem dL_law_217 : decode cL_law 217 = .ok (.i2l, 1) := dall dgL_law_7 1 rfl
theorem dL_law_218 : decode cL_law 218 = .ok (.ldc2_w 13, 3) := dall dgL_law_7 2 rfl
theorem dL_law_221 : decode cL_law 221 = .ok (.land, 1) := dall dgL_law_7 3 rfl
theorem dL_law_222 : decode cL_law 222 = .ok (.lor, 1) := dall dgL_law_7 4 rfl
theorem dL_law_223 : decode cL_law 223 = .ok (.aload_n 0, 1) := dall dgL_law_7 5 rfl
theorem dL_law_224 : decode cL_law 224 = .ok (.iload_n 3, 1) := dall dgL_law_7 6 rfl
theorem dL_law_225 : decode cL_law 225 = .ok (.iconst 3, 1) := dall dgL_law_7 7 rfl
theorem dL_law_226 : decode cL_law 226 = .ok (.iadd, 1) := dall dgL_law_7 8 rfl
theorem dL_law_227 : decode cL_law 227 = .ok (.iaload, 1) := dall dgL_law_7 9 rfl
def lgL_law_8 : List (Nat × Instr × Nat) := [(228, .invokevirtual 19, 3), (231, .pop, 1), (232, .goto 833, 3), (235, .aload_n 1, 1), (236, .invokevirtual 20, 3), (239, .pop, 1), (240, .aload_n 2, 1), (241, .invokevirtual 24, 3), (244, .pop, 1), (245, .goto 820, 3)]
theorem dgL_law_8 : ∀ q ∈ lgL_law_8, decode cL_law q.1 = .ok (q.2.1, q.2.2) := by decide +kernel
theorem dL_law_228 : decode cL_law 228 = .ok (.invokevirtual 19, 3) := dall dgL_law_8 0 rfl
theorem dL_law_231 : decode cL_law 231 = .ok (.pop, 1) := dall dgL_law_8 1 rfl
theorem dL_law_232 : decode cL_law 232 = .ok (.goto 833, 3) := dall dgL_law_8 2 rfl
theorem dL_law_235 : decode cL_law 235 = .ok (.aload_n 1, 1) := dall dgL_law_8 3 rfl
theorem dL_law_236 : decode cL_law 236 = .ok (.invokevirtual 20, 3) := dall dgL_law_8 4 rfl
theorem dL_law_239 : decode cL_law 239 = .ok (.pop, 1) := dall dgL_law_8 5 rfl
theorem dL_law_240 : decode cL_law 240 = .ok (.aload_n 2, 1) := dall dgL_law_8 6 rfl
theorem dL_law_241 : decode cL_law 241 = .ok (.invokevirtual 24, 3) := dall dgL_law_8 7 rfl
theorem dL_law_244 : decode cL_law 244 = .ok (.pop, 1) := dall dgL_law_8 8 rfl
theorem dL_law_245 : decode cL_law 245 = .ok (.goto 820, 3) := dall dgL_law_8 9 rfl
def lgL_law_9 : List (Nat × Instr × Nat) := [(248, .aload_n 1, 1), (249, .invokevirtual 25, 3), (252, .pop, 1), (253, .aload_n 2, 1), (254, .invokevirtual 28, 3), (257, .pop, 1), (258, .goto 807, 3), (261, .aload_n 1, 1), (262, .aload_n 0, 1), (263, .iload_n 3, 1)]
theorem dgL_law_9 : ∀ q ∈ lgL_law_9, decode cL_law q.1 = .ok (q.2.1, q.2.2) := by decide +kernel
theorem dL_law_248 : decode cL_law 248 = .ok (.aload_n 1, 1) := dall dgL_law_9 0 rfl
theorem dL_law_249 : decode cL_law 249 = .ok (.invokevirtual 25, 3) := dall dgL_law_9 1 rfl
theorem dL_law_252 : decode cL_law 252 = .ok (.pop, 1) := dall dgL_law_9 2 rfl
theorem dL_law_253 : decode cL_law 253 = .ok (.aload_n 2, 1) := dall dgL_law_9 3 rfl
theorem dL_law_254 : decode cL_law 254 = .ok (.invokevirtual 28, 3) := dall dgL_law_9 4 rfl
theorem dL_law_257 : decode cL_law 257 = .ok (.pop, 1) := dall dgL_law_9 5 rfl
theorem dL_law_258 : decode cL_law 258 = .ok (.goto 807, 3) := dall dgL_law_9 6 rfl
theorem dL_law_261 : decode cL_law 261 = .ok (.aload_n 1, 1) := dall dgL_law_9 7 rfl
theorem dL_law_262 : decode cL_law 262 = .ok (.aload_n 0, 1) := dall dgL_law_9 8 rfl
theorem dL_law_263 : decode cL_law 263 = .ok (.iload_n 3, 1) := dall dgL_law_9 9 rfl
def lgL_law_10 : List (Nat × Instr × Nat) := [(264, .iconst 1, 1), (265, .iadd, 1), (266, .iaload, 1), (267, .invokevirtual 29, 3), (270, .pop, 1), (271, .aload_n 2, 1), (272, .aload_n 0, 1), (273, .iload_n 3, 1), (274, .iconst 1, 1), (275, .iadd, 1)]
theorem dgL_law_10 : ∀ q ∈ lgL_law_10, decode cL_law q.1 = .ok (q.2.1, q.2.2) := by decide +kernel
theorem dL_law_264 : decode cL_law 264 = .ok (.iconst 1, 1) := dall dgL_law_10 0 rfl
theorem dL_law_265 : decode cL_law 265 = .ok (.iadd, 1) := dall dgL_law_10 1 rfl
theorem dL_law_266 : decode cL_law 266 = .ok (.iaload, 1) := dall dgL_law_10 2 rfl
theorem dL_law_267 : decode cL_law 267 = .ok (.invokevirtual 29, 3) := dall dgL_law_10 3 rfl
theorem dL_law_270 : decode cL_law 270 = .ok (.pop, 1) := dall dgL_law_10 4 rfl
theorem dL_law_271 : decode cL_law 271 = .ok (.aload_n 2, 1) := dall dgL_law_10 5 rfl
theorem dL_law_272 : decode cL_law 272 = .ok (.aload_n 0, 1) := dall dgL_law_10 6 rfl
theorem dL_law_273 : decode cL_law 273 = .ok (.iload_n 3, 1) := dall dgL_law_10 7 rfl
theorem dL_law_274 : decode cL_law 274 = .ok (.iconst 1, 1) := dall dgL_law_10 8 rfl
theorem dL_law_275 : decode cL_law 275 = .ok (.iadd, 1) := dall dgL_law_10 9 rfl
def lgL_law_11 : List (Nat × Instr × Nat) := [(276, .iaload, 1), (277, .invokevirtual 33, 3), (280, .pop, 1), (281, .goto 784, 3), (284, .aload_n 1, 1), (285, .aload_n 0, 1), (286, .iload_n 3, 1), (287, .iconst 1, 1), (288, .iadd, 1), (289, .iaload, 1)]
theorem dgL_law_11 : ∀ q ∈ lgL_law_11, decode cL_law q.1 = .ok (q.2.1, q.2.2) := by decide +kernel
theorem dL_law_276 : decode cL_law 276 = .ok (.iaload, 1) := dall dgL_law_11 0 rfl
theorem dL_law_277 : decode cL_law 277 = .ok (.invokevirtual 33, 3) := dall dgL_law_11 1 rfl
theorem dL_law_280 : decode cL_law 280 = .ok (.pop, 1) := dall dgL_law_11 2 rfl
theorem dL_law_281 : decode cL_law 281 = .ok (.goto 784, 3) := dall dgL_law_11 3 rfl
theorem dL_law_284 : decode cL_law 284 = .ok (.aload_n 1, 1) := dall dgL_law_11 4 rfl
theorem dL_law_285 : decode cL_law 285 = .ok (.aload_n 0, 1) := dall dgL_law_11 5 rfl
theorem dL_law_286 : decode cL_law 286 = .ok (.iload_n 3, 1) := dall dgL_law_11 6 rfl
theorem dL_law_287 : decode cL_law 287 = .ok (.iconst 1, 1) := dall dgL_law_11 7 rfl
theorem dL_law_288 : decode cL_law 288 = .ok (.iadd, 1) := dall dgL_law_11 8 rfl
theorem dL_law_289 : decode cL_law 289 = .ok (.iaload, 1) := dall dgL_law_11 9 rfl
def lgL_law_12 : List (Nat × Instr × Nat) := [(290, .aload_n 0, 1), (291, .iload_n 3, 1), (292, .iconst 2, 1), (293, .iadd, 1), (294, .iaload, 1), (295, .aload_n 0, 1), (296, .iload_n 3, 1), (297, .iconst 3, 1), (298, .iadd, 1), (299, .iaload, 1)]
theorem dgL_law_12 : ∀ q ∈ lgL_law_12, decode cL_law q.1 = .ok (q.2.1, q.2.2) := by decide +kernel
theorem dL_law_290 : decode cL_law 290 = .ok (.aload_n 0, 1) := dall dgL_law_12 0 rfl
theorem dL_law_291 : decode cL_law 291 = .ok (.iload_n 3, 1) := dall dgL_law_12 1 rfl
theorem dL_law_292 : decode cL_law 292 = .ok (.iconst 2, 1) := dall dgL_law_12 2 rfl
theorem dL_law_293 : decode cL_law 293 = .ok (.iadd, 1) := dall dgL_law_12 3 rfl
theorem dL_law_294 : decode cL_law 294 = .ok (.iaload, 1) := dall dgL_law_12 4 rfl
theorem dL_law_295 : decode cL_law 295 = .ok (.aload_n 0, 1) := dall dgL_law_12 5 rfl
theorem dL_law_296 : decode cL_law 296 = .ok (.iload_n 3, 1) := dall dgL_law_12 6 rfl
theorem dL_law_297 : decode cL_law 297 = .ok (.iconst 3, 1) := dall dgL_law_12 7 rfl
theorem dL_law_298 : decode cL_law 298 = .ok (.iadd, 1) := dall dgL_law_12 8 rfl
theorem dL_law_299 : decode cL_law 299 = .ok (.iaload, 1) := dall dgL_law_12 9 rfl
def lgL_law_13 : List (Nat × Instr × Nat) := [(300, .aload_n 0, 1), (301, .iload_n 3, 1), (302, .iconst 4, 1), (303, .iadd, 1), (304, .iaload, 1), (305, .invokevirtual 34, 3), (308, .pop, 1), (309, .aload_n 2, 1), (310, .aload_n 0, 1), (311, .iload_n 3, 1)]
theorem dgL_law_13 : ∀ q ∈ lgL_law_13, decode cL_law q.1 = .ok (q.2.1, q.2.2) := by decide +kernel
theorem dL_law_300 : decode cL_law 300 = .ok (.aload_n 0, 1) := dall dgL_law_13 0 rfl
theorem dL_law_301 : decode cL_law 301 = .ok (.iload_n 3, 1) := dall dgL_law_13 1 rfl
theorem dL_law_302 : decode cL_law 302 = .ok (.iconst 4, 1) := dall dgL_law_13 2 rfl
theorem dL_law_303 : decode cL_law 303 = .ok (.iadd, 1) := dall dgL_law_13 3 rfl
theorem dL_law_304 : decode cL_law 304 = .ok (.iaload, 1) := dall dgL_law_13 4 rfl
theorem dL_law_305 : decode cL_law 305 = .ok (.invokevirtual 34, 3) := dall dgL_law_13 5 rfl
theorem dL_law_308 : decode cL_law 308 = .ok (.pop, 1) := dall dgL_law_13 6 rfl
theorem dL_law_309 : decode cL_law 309 = .ok (.aload_n 2, 1) := dall dgL_law_13 7 rfl
theorem dL_law_310 : decode cL_law 310 = .ok (.aload_n 0, 1) := dall dgL_law_13 8 rfl
theorem dL_law_311 : decode cL_law 311 = .ok (.iload_n 3, 1) := dall dgL_law_13 9 rfl
def lgL_law_14 : List (Nat × Instr × Nat) := [(312, .iconst 1, 1), (313, .iadd, 1), (314, .iaload, 1), (315, .aload_n 0, 1), (316, .iload_n 3, 1), (317, .iconst 2, 1), (318, .iadd, 1), (319, .iaload, 1), (320, .aload_n 0, 1), (321, .iload_n 3, 1)]
theorem dgL_law_14 : ∀ q ∈ lgL_law_14, decode cL_law q.1 = .ok (q.2.1, q.2.2) := by decide +kernel
theorem dL_law_312 : decode cL_law 312 = .ok (.iconst 1, 1) := dall dgL_law_14 0 rfl
theorem dL_law_313 : decode cL_law 313 = .ok (.iadd, 1) := dall dgL_law_14 1 rfl
theorem dL_law_314 : decode cL_law 314 = .ok (.iaload, 1) := dall dgL_law_14 2 rfl
theorem dL_law_315 : decode cL_law 315 = .ok (.aload_n 0, 1) := dall dgL_law_14 3 rfl
theorem dL_law_316 : decode cL_law 316 = .ok (.iload_n 3, 1) := dall dgL_law_14 4 rfl
theorem dL_law_317 : decode cL_law 317 = .ok (.iconst 2, 1) := dall dgL_law_14 5 rfl
theorem dL_law_318 : decode cL_law 318 = .ok (.iadd, 1) := dall dgL_law_14 6 rfl
theorem dL_law_319 : decode cL_law 319 = .ok (.iaload, 1) := dall dgL_law_14 7 rfl
theorem dL_law_320 : decode cL_law 320 = .ok (.aload_n 0, 1) := dall dgL_law_14 8 rfl
theorem dL_law_321 : decode cL_law 321 = .ok (.iload_n 3, 1) := dall dgL_law_14 9 rfl
def lgL_law_15 : List (Nat × Instr × Nat) := [(322, .iconst 3, 1), (323, .iadd, 1), (324, .iaload, 1), (325, .aload_n 0, 1), (326, .iload_n 3, 1), (327, .iconst 4, 1), (328, .iadd, 1), (329, .iaload, 1), (330, .invokevirtual 38, 3), (333, .pop, 1)]
theorem dgL_law_15 : ∀ q ∈ lgL_law_15, decode cL_law q.1 = .ok (q.2.1, q.2.2) := by decide +kernel
theorem dL_law_322 : decode cL_law 322 = .ok (.iconst 3, 1) := dall dgL_law_15 0 rfl
theorem dL_law_323 : decode cL_law 323 = .ok (.iadd, 1) := dall dgL_law_15 1 rfl
theorem dL_law_324 : decode cL_law 324 = .ok (.iaload, 1) := dall dgL_law_15 2 rfl
theorem dL_law_325 : decode cL_law 325 = .ok (.aload_n 0, 1) := dall dgL_law_15 3 rfl
theorem dL_law_326 : decode cL_law 326 = .ok (.iload_n 3, 1) := dall dgL_law_15 4 rfl
theorem dL_law_327 : decode cL_law 327 = .ok (.iconst 4, 1) := dall dgL_law_15 5 rfl
theorem dL_law_328 : decode cL_law 328 = .ok (.iadd, 1) := dall dgL_law_15 6 rfl
theorem dL_law_329 : decode cL_law 329 = .ok (.iaload, 1) := dall dgL_law_15 7 rfl
theorem dL_law_330 : decode cL_law 330 = .ok (.invokevirtual 38, 3) := dall dgL_law_15 8 rfl
theorem dL_law_333 : decode cL_law 333 = .ok (.pop, 1) := dall dgL_law_15 9 rfl
def lgL_law_16 : List (Nat × Instr × Nat) := [(334, .goto 731, 3), (337, .aload_n 1, 1), (338, .aload_n 0, 1), (339, .iload_n 3, 1), (340, .iconst 1, 1), (341, .iadd, 1), (342, .iaload, 1), (343, .invokevirtual 39, 3), (346, .pop, 1), (347, .aload_n 2, 1)]
theorem dgL_law_16 : ∀ q ∈ lgL_law_16, decode cL_law q.1 = .ok (q.2.1, q.2.2) := by decide +kernel
theorem dL_law_334 : decode cL_law 334 = .ok (.goto 731, 3) := dall dgL_law_16 0 rfl
theorem dL_law_337 : decode cL_law 337 = .ok (.aload_n 1, 1) := dall dgL_law_16 1 rfl
theorem dL_law_338 : decode cL_law 338 = .ok (.aload_n 0, 1) := dall dgL_law_16 2 rfl
theorem dL_law_339 : decode cL_law 339 = .ok (.iload_n 3, 1) := dall dgL_law_16 3 rfl
theorem dL_law_340 : decode cL_law 340 = .ok (.iconst 1, 1) := dall dgL_law_16 4 rfl
theorem dL_law_341 : decode cL_law 341 = .ok (.iadd, 1) := dall dgL_law_16 5 rfl
theorem dL_law_342 : decode cL_law 342 = .ok (.iaload, 1) := dall dgL_law_16 6 rfl
theorem dL_law_343 : decode cL_law 343 = .ok (.invokevirtual 39, 3) := dall dgL_law_16 7 rfl
theorem dL_law_346 : decode cL_law 346 = .ok (.pop, 1) := dall dgL_law_16 8 rfl
theorem dL_law_347 : decode cL_law 347 = .ok (.aload_n 2, 1) := dall dgL_law_16 9 rfl
def lgL_law_17 : List (Nat × Instr × Nat) := [(348, .aload_n 0, 1), (349, .iload_n 3, 1), (350, .iconst 1, 1), (351, .iadd, 1), (352, .iaload, 1), (353, .invokevirtual 42, 3), (356, .pop, 1), (357, .goto 708, 3), (360, .aload_n 1, 1), (361, .aload_n 0, 1)]
theorem dgL_law_17 : ∀ q ∈ lgL_law_17, decode cL_law q.1 = .ok (q.2.1, q.2.2) := by decide +kernel
theorem dL_law_348 : decode cL_law 348 = .ok (.aload_n 0, 1) := dall dgL_law_17 0 rfl
theorem dL_law_349 : decode cL_law 349 = .ok (.iload_n 3, 1) := dall dgL_law_17 1 rfl
theorem dL_law_350 : decode cL_law 350 = .ok (.iconst 1, 1) := dall dgL_law_17 2 rfl
theorem dL_law_351 : decode cL_law 351 = .ok (.iadd, 1) := dall dgL_law_17 3 rfl
theorem dL_law_352 : decode cL_law 352 = .ok (.iaload, 1) := dall dgL_law_17 4 rfl
theorem dL_law_353 : decode cL_law 353 = .ok (.invokevirtual 42, 3) := dall dgL_law_17 5 rfl
theorem dL_law_356 : decode cL_law 356 = .ok (.pop, 1) := dall dgL_law_17 6 rfl
theorem dL_law_357 : decode cL_law 357 = .ok (.goto 708, 3) := dall dgL_law_17 7 rfl
theorem dL_law_360 : decode cL_law 360 = .ok (.aload_n 1, 1) := dall dgL_law_17 8 rfl
theorem dL_law_361 : decode cL_law 361 = .ok (.aload_n 0, 1) := dall dgL_law_17 9 rfl
def lgL_law_18 : List (Nat × Instr × Nat) := [(362, .iload_n 3, 1), (363, .iconst 1, 1), (364, .iadd, 1), (365, .iaload, 1), (366, .aload_n 0, 1), (367, .iload_n 3, 1), (368, .iconst 2, 1), (369, .iadd, 1), (370, .iaload, 1), (371, .aload_n 0, 1)]
theorem dgL_law_18 : ∀ q ∈ lgL_law_18, decode cL_law q.1 = .ok (q.2.1, q.2.2) := by decide +kernel
theorem dL_law_362 : decode cL_law 362 = .ok (.iload_n 3, 1) := dall dgL_law_18 0 rfl
theorem dL_law_363 : decode cL_law 363 = .ok (.iconst 1, 1) := dall dgL_law_18 1 rfl
theorem dL_law_364 : decode cL_law 364 = .ok (.iadd, 1) := dall dgL_law_18 2 rfl
theorem dL_law_365 : decode cL_law 365 = .ok (.iaload, 1) := dall dgL_law_18 3 rfl
theorem dL_law_366 : decode cL_law 366 = .ok (.aload_n 0, 1) := dall dgL_law_18 4 rfl
theorem dL_law_367 : decode cL_law 367 = .ok (.iload_n 3, 1) := dall dgL_law_18 5 rfl
theorem dL_law_368 : decode cL_law 368 = .ok (.iconst 2, 1) := dall dgL_law_18 6 rfl
theorem dL_law_369 : decode cL_law 369 = .ok (.iadd, 1) := dall dgL_law_18 7 rfl
theorem dL_law_370 : decode cL_law 370 = .ok (.iaload, 1) := dall dgL_law_18 8 rfl
theorem dL_law_371 : decode cL_law 371 = .ok (.aload_n 0, 1) := dall dgL_law_18 9 rfl
def lgL_law_19 : List (Nat × Instr × Nat) := [(372, .iload_n 3, 1), (373, .iconst 3, 1), (374, .iadd, 1), (375, .iaload, 1), (376, .invokevirtual 43, 3), (379, .pop, 1), (380, .aload_n 2, 1), (381, .aload_n 0, 1), (382, .iload_n 3, 1), (383, .iconst 1, 1)]
theorem dgL_law_19 : ∀ q ∈ lgL_law_19, decode cL_law q.1 = .ok (q.2.1, q.2.2) := by decide +kernel
theorem dL_law_372 : decode cL_law 372 = .ok (.iload_n 3, 1) := dall dgL_law_19 0 rfl
theorem dL_law_373 : decode cL_law 373 = .ok (.iconst 3, 1) := dall dgL_law_19 1 rfl
theorem dL_law_374 : decode cL_law 374 = .ok (.iadd, 1) := dall dgL_law_19 2 rfl
theorem dL_law_375 : decode cL_law 375 = .ok (.iaload, 1) := dall dgL_law_19 3 rfl
theorem dL_law_376 : decode cL_law 376 = .ok (.invokevirtual 43, 3) := dall dgL_law_19 4 rfl
theorem dL_law_379 : decode cL_law 379 = .ok (.pop, 1) := dall dgL_law_19 5 rfl
theorem dL_law_380 : decode cL_law 380 = .ok (.aload_n 2, 1) := dall dgL_law_19 6 rfl
theorem dL_law_381 : decode cL_law 381 = .ok (.aload_n 0, 1) := dall dgL_law_19 7 rfl
theorem dL_law_382 : decode cL_law 382 = .ok (.iload_n 3, 1) := dall dgL_law_19 8 rfl
theorem dL_law_383 : decode cL_law 383 = .ok (.iconst 1, 1) := dall dgL_law_19 9 rfl
def lgL_law_20 : List (Nat × Instr × Nat) := [(384, .iadd, 1), (385, .iaload, 1), (386, .aload_n 0, 1), (387, .iload_n 3, 1), (388, .iconst 2, 1), (389, .iadd, 1), (390, .iaload, 1), (391, .aload_n 0, 1), (392, .iload_n 3, 1), (393, .iconst 3, 1)]
theorem dgL_law_20 : ∀ q ∈ lgL_law_20, decode cL_law q.1 = .ok (q.2.1, q.2.2) := by decide +kernel
theorem dL_law_384 : decode cL_law 384 = .ok (.iadd, 1) := dall dgL_law_20 0 rfl
theorem dL_law_385 : decode cL_law 385 = .ok (.iaload, 1) := dall dgL_law_20 1 rfl
theorem dL_law_386 : decode cL_law 386 = .ok (.aload_n 0, 1) := dall dgL_law_20 2 rfl
theorem dL_law_387 : decode cL_law 387 = .ok (.iload_n 3, 1) := dall dgL_law_20 3 rfl
theorem dL_law_388 : decode cL_law 388 = .ok (.iconst 2, 1) := dall dgL_law_20 4 rfl
theorem dL_law_389 : decode cL_law 389 = .ok (.iadd, 1) := dall dgL_law_20 5 rfl
theorem dL_law_390 : decode cL_law 390 = .ok (.iaload, 1) := dall dgL_law_20 6 rfl
theorem dL_law_391 : decode cL_law 391 = .ok (.aload_n 0, 1) := dall dgL_law_20 7 rfl
theorem dL_law_392 : decode cL_law 392 = .ok (.iload_n 3, 1) := dall dgL_law_20 8 rfl
theorem dL_law_393 : decode cL_law 393 = .ok (.iconst 3, 1) := dall dgL_law_20 9 rfl
def lgL_law_21 : List (Nat × Instr × Nat) := [(394, .iadd, 1), (395, .iaload, 1), (396, .invokevirtual 47, 3), (399, .pop, 1), (400, .goto 665, 3), (403, .aload_n 1, 1), (404, .invokevirtual 48, 3), (407, .pop, 1), (408, .aload_n 2, 1), (409, .invokevirtual 51, 3)]
theorem dgL_law_21 : ∀ q ∈ lgL_law_21, decode cL_law q.1 = .ok (q.2.1, q.2.2) := by decide +kernel
theorem dL_law_394 : decode cL_law 394 = .ok (.iadd, 1) := dall dgL_law_21 0 rfl
theorem dL_law_395 : decode cL_law 395 = .ok (.iaload, 1) := dall dgL_law_21 1 rfl
theorem dL_law_396 : decode cL_law 396 = .ok (.invokevirtual 47, 3) := dall dgL_law_21 2 rfl
theorem dL_law_399 : decode cL_law 399 = .ok (.pop, 1) := dall dgL_law_21 3 rfl
theorem dL_law_400 : decode cL_law 400 = .ok (.goto 665, 3) := dall dgL_law_21 4 rfl
theorem dL_law_403 : decode cL_law 403 = .ok (.aload_n 1, 1) := dall dgL_law_21 5 rfl
theorem dL_law_404 : decode cL_law 404 = .ok (.invokevirtual 48, 3) := dall dgL_law_21 6 rfl
theorem dL_law_407 : decode cL_law 407 = .ok (.pop, 1) := dall dgL_law_21 7 rfl
theorem dL_law_408 : decode cL_law 408 = .ok (.aload_n 2, 1) := dall dgL_law_21 8 rfl
theorem dL_law_409 : decode cL_law 409 = .ok (.invokevirtual 51, 3) := dall dgL_law_21 9 rfl
def lgL_law_22 : List (Nat × Instr × Nat) := [(412, .pop, 1), (413, .goto 652, 3), (416, .aload_n 1, 1), (417, .aload_n 0, 1), (418, .iload_n 3, 1), (419, .iconst 1, 1), (420, .iadd, 1), (421, .iaload, 1), (422, .invokevirtual 52, 3), (425, .pop, 1)]
theorem dgL_law_22 : ∀ q ∈ lgL_law_22, decode cL_law q.1 = .ok (q.2.1, q.2.2) := by decide +kernel
theorem dL_law_412 : decode cL_law 412 = .ok (.pop, 1) := dall dgL_law_22 0 rfl
theorem dL_law_413 : decode cL_law 413 = .ok (.goto 652, 3) := dall dgL_law_22 1 rfl
theorem dL_law_416 : decode cL_law 416 = .ok (.aload_n 1, 1) := dall dgL_law_22 2 rfl
theorem dL_law_417 : decode cL_law 417 = .ok (.aload_n 0, 1) := dall dgL_law_22 3 rfl
theorem dL_law_418 : decode cL_law 418 = .ok (.iload_n 3, 1) := dall dgL_law_22 4 rfl
theorem dL_law_419 : decode cL_law 419 = .ok (.iconst 1, 1) := dall dgL_law_22 5 rfl
theorem dL_law_420 : decode cL_law 420 = .ok (.iadd, 1) := dall dgL_law_22 6 rfl
theorem dL_law_421 : decode cL_law 421 = .ok (.iaload, 1) := dall dgL_law_22 7 rfl
theorem dL_law_422 : decode cL_law 422 = .ok (.invokevirtual 52, 3) := dall dgL_law_22 8 rfl
theorem dL_law_425 : decode cL_law 425 = .ok (.pop, 1) := dall dgL_law_22 9 rfl
def lgL_law_23 : List (Nat × Instr × Nat) := [(426, .aload_n 2, 1), (427, .aload_n 0, 1), (428, .iload_n 3, 1), (429, .iconst 1, 1), (430, .iadd, 1), (431, .iaload, 1), (432, .invokevirtual 55, 3), (435, .pop, 1), (436, .goto 629, 3), (439, .aload_n 1, 1)]
theorem dgL_law_23 : ∀ q ∈ lgL_law_23, decode cL_law q.1 = .ok (q.2.1, q.2.2) := by decide +kernel
theorem dL_law_426 : decode cL_law 426 = .ok (.aload_n 2, 1) := dall dgL_law_23 0 rfl
theorem dL_law_427 : decode cL_law 427 = .ok (.aload_n 0, 1) := dall dgL_law_23 1 rfl
theorem dL_law_428 : decode cL_law 428 = .ok (.iload_n 3, 1) := dall dgL_law_23 2 rfl
theorem dL_law_429 : decode cL_law 429 = .ok (.iconst 1, 1) := dall dgL_law_23 3 rfl
theorem dL_law_430 : decode cL_law 430 = .ok (.iadd, 1) := dall dgL_law_23 4 rfl
theorem dL_law_431 : decode cL_law 431 = .ok (.iaload, 1) := dall dgL_law_23 5 rfl
theorem dL_law_432 : decode cL_law 432 = .ok (.invokevirtual 55, 3) := dall dgL_law_23 6 rfl
theorem dL_law_435 : decode cL_law 435 = .ok (.pop, 1) := dall dgL_law_23 7 rfl
theorem dL_law_436 : decode cL_law 436 = .ok (.goto 629, 3) := dall dgL_law_23 8 rfl
theorem dL_law_439 : decode cL_law 439 = .ok (.aload_n 1, 1) := dall dgL_law_23 9 rfl
def lgL_law_24 : List (Nat × Instr × Nat) := [(440, .aload_n 0, 1), (441, .iload_n 3, 1), (442, .iconst 1, 1), (443, .iadd, 1), (444, .iaload, 1), (445, .aload_n 0, 1), (446, .iload_n 3, 1), (447, .iconst 2, 1), (448, .iadd, 1), (449, .iaload, 1)]
theorem dgL_law_24 : ∀ q ∈ lgL_law_24, decode cL_law q.1 = .ok (q.2.1, q.2.2) := by decide +kernel
theorem dL_law_440 : decode cL_law 440 = .ok (.aload_n 0, 1) := dall dgL_law_24 0 rfl
theorem dL_law_441 : decode cL_law 441 = .ok (.iload_n 3, 1) := dall dgL_law_24 1 rfl
theorem dL_law_442 : decode cL_law 442 = .ok (.iconst 1, 1) := dall dgL_law_24 2 rfl
theorem dL_law_443 : decode cL_law 443 = .ok (.iadd, 1) := dall dgL_law_24 3 rfl
theorem dL_law_444 : decode cL_law 444 = .ok (.iaload, 1) := dall dgL_law_24 4 rfl
theorem dL_law_445 : decode cL_law 445 = .ok (.aload_n 0, 1) := dall dgL_law_24 5 rfl
theorem dL_law_446 : decode cL_law 446 = .ok (.iload_n 3, 1) := dall dgL_law_24 6 rfl
theorem dL_law_447 : decode cL_law 447 = .ok (.iconst 2, 1) := dall dgL_law_24 7 rfl
theorem dL_law_448 : decode cL_law 448 = .ok (.iadd, 1) := dall dgL_law_24 8 rfl
theorem dL_law_449 : decode cL_law 449 = .ok (.iaload, 1) := dall dgL_law_24 9 rfl
def lgL_law_25 : List (Nat × Instr × Nat) := [(450, .invokevirtual 56, 3), (453, .pop, 1), (454, .aload_n 2, 1), (455, .aload_n 0, 1), (456, .iload_n 3, 1), (457, .iconst 1, 1), (458, .iadd, 1), (459, .iaload, 1), (460, .aload_n 0, 1), (461, .iload_n 3, 1)]
theorem dgL_law_25 : ∀ q ∈ lgL_law_25, decode cL_law q.1 = .ok (q.2.1, q.2.2) := by decide +kernel
theorem dL_law_450 : decode cL_law 450 = .ok (.invokevirtual 56, 3) := dall dgL_law_25 0 rfl
theorem dL_law_453 : decode cL_law 453 = .ok (.pop, 1) := dall dgL_law_25 1 rfl
theorem dL_law_454 : decode cL_law 454 = .ok (.aload_n 2, 1) := dall dgL_law_25 2 rfl
theorem dL_law_455 : decode cL_law 455 = .ok (.aload_n 0, 1) := dall dgL_law_25 3 rfl
theorem dL_law_456 : decode cL_law 456 = .ok (.iload_n 3, 1) := dall dgL_law_25 4 rfl
theorem dL_law_457 : decode cL_law 457 = .ok (.iconst 1, 1) := dall dgL_law_25 5 rfl
theorem dL_law_458 : decode cL_law 458 = .ok (.iadd, 1) := dall dgL_law_25 6 rfl
theorem dL_law_459 : decode cL_law 459 = .ok (.iaload, 1) := dall dgL_law_25 7 rfl
theorem dL_law_460 : decode cL_law 460 = .ok (.aload_n 0, 1) := dall dgL_law_25 8 rfl
theorem dL_law_461 : decode cL_law 461 = .ok (.iload_n 3, 1) := dall dgL_law_25 9 rfl
def lgL_law_26 : List (Nat × Instr × Nat) := [(462, .iconst 2, 1), (463, .iadd, 1), (464, .iaload, 1), (465, .invokevirtual 60, 3), (468, .pop, 1), (469, .goto 596, 3), (472, .aload_n 1, 1), (473, .aload_n 0, 1), (474, .iload_n 3, 1), (475, .iconst 1, 1)]
theorem dgL_law_26 : ∀ q ∈ lgL_law_26, decode cL_law q.1 = .ok (q.2.1, q.2.2) := by decide +kernel
theorem dL_law_462 : decode cL_law 462 = .ok (.iconst 2, 1) := dall dgL_law_26 0 rfl
theorem dL_law_463 : decode cL_law 463 = .ok (.iadd, 1) := dall dgL_law_26 1 rfl
theorem dL_law_464 : decode cL_law 464 = .ok (.iaload, 1) := dall dgL_law_26 2 rfl
theorem dL_law_465 : decode cL_law 465 = .ok (.invokevirtual 60, 3) := dall dgL_law_26 3 rfl
theorem dL_law_468 : decode cL_law 468 = .ok (.pop, 1) := dall dgL_law_26 4 rfl
theorem dL_law_469 : decode cL_law 469 = .ok (.goto 596, 3) := dall dgL_law_26 5 rfl
theorem dL_law_472 : decode cL_law 472 = .ok (.aload_n 1, 1) := dall dgL_law_26 6 rfl
theorem dL_law_473 : decode cL_law 473 = .ok (.aload_n 0, 1) := dall dgL_law_26 7 rfl
theorem dL_law_474 : decode cL_law 474 = .ok (.iload_n 3, 1) := dall dgL_law_26 8 rfl
theorem dL_law_475 : decode cL_law 475 = .ok (.iconst 1, 1) := dall dgL_law_26 9 rfl
def lgL_law_27 : List (Nat × Instr × Nat) := [(476, .iadd, 1), (477, .iaload, 1), (478, .invokevirtual 61, 3), (481, .pop, 1), (482, .aload_n 2, 1), (483, .aload_n 0, 1), (484, .iload_n 3, 1), (485, .iconst 1, 1), (486, .iadd, 1), (487, .iaload, 1)]
theorem dgL_law_27 : ∀ q ∈ lgL_law_27, decode cL_law q.1 = .ok (q.2.1, q.2.2) := by decide +kernel
theorem dL_law_476 : decode cL_law 476 = .ok (.iadd, 1) := dall dgL_law_27 0 rfl
theorem dL_law_477 : decode cL_law 477 = .ok (.iaload, 1) := dall dgL_law_27 1 rfl
theorem dL_law_478 : decode cL_law 478 = .ok (.invokevirtual 61, 3) := dall dgL_law_27 2 rfl
theorem dL_law_481 : decode cL_law 481 = .ok (.pop, 1) := dall dgL_law_27 3 rfl
theorem dL_law_482 : decode cL_law 482 = .ok (.aload_n 2, 1) := dall dgL_law_27 4 rfl
theorem dL_law_483 : decode cL_law 483 = .ok (.aload_n 0, 1) := dall dgL_law_27 5 rfl
theorem dL_law_484 : decode cL_law 484 = .ok (.iload_n 3, 1) := dall dgL_law_27 6 rfl
theorem dL_law_485 : decode cL_law 485 = .ok (.iconst 1, 1) := dall dgL_law_27 7 rfl
theorem dL_law_486 : decode cL_law 486 = .ok (.iadd, 1) := dall dgL_law_27 8 rfl
theorem dL_law_487 : decode cL_law 487 = .ok (.iaload, 1) := dall dgL_law_27 9 rfl
def lgL_law_28 : List (Nat × Instr × Nat) := [(488, .invokevirtual 64, 3), (491, .pop, 1), (492, .goto 573, 3), (495, .aload_n 1, 1), (496, .aload_n 0, 1), (497, .iload_n 3, 1), (498, .iconst 1, 1), (499, .iadd, 1), (500, .iaload, 1), (501, .aload_n 0, 1)]
theorem dgL_law_28 : ∀ q ∈ lgL_law_28, decode cL_law q.1 = .ok (q.2.1, q.2.2) := by decide +kernel
theorem dL_law_488 : decode cL_law 488 = .ok (.invokevirtual 64, 3) := dall dgL_law_28 0 rfl
theorem dL_law_491 : decode cL_law 491 = .ok (.pop, 1) := dall dgL_law_28 1 rfl
theorem dL_law_492 : decode cL_law 492 = .ok (.goto 573, 3) := dall dgL_law_28 2 rfl
theorem dL_law_495 : decode cL_law 495 = .ok (.aload_n 1, 1) := dall dgL_law_28 3 rfl
theorem dL_law_496 : decode cL_law 496 = .ok (.aload_n 0, 1) := dall dgL_law_28 4 rfl
theorem dL_law_497 : decode cL_law 497 = .ok (.iload_n 3, 1) := dall dgL_law_28 5 rfl
theorem dL_law_498 : decode cL_law 498 = .ok (.iconst 1, 1) := dall dgL_law_28 6 rfl
theorem dL_law_499 : decode cL_law 499 = .ok (.iadd, 1) := dall dgL_law_28 7 rfl
theorem dL_law_500 : decode cL_law 500 = .ok (.iaload, 1) := dall dgL_law_28 8 rfl
theorem dL_law_501 : decode cL_law 501 = .ok (.aload_n 0, 1) := dall dgL_law_28 9 rfl
def lgL_law_29 : List (Nat × Instr × Nat) := [(502, .iload_n 3, 1), (503, .iconst 2, 1), (504, .iadd, 1), (505, .iaload, 1), (506, .invokevirtual 65, 3), (509, .pop, 1), (510, .aload_n 2, 1), (511, .aload_n 0, 1), (512, .iload_n 3, 1), (513, .iconst 1, 1)]
theorem dgL_law_29 : ∀ q ∈ lgL_law_29, decode cL_law q.1 = .ok (q.2.1, q.2.2) := by decide +kernel
theorem dL_law_502 : decode cL_law 502 = .ok (.iload_n 3, 1) := dall dgL_law_29 0 rfl
theorem dL_law_503 : decode cL_law 503 = .ok (.iconst 2, 1) := dall dgL_law_29 1 rfl
theorem dL_law_504 : decode cL_law 504 = .ok (.iadd, 1) := dall dgL_law_29 2 rfl
theorem dL_law_505 : decode cL_law 505 = .ok (.iaload, 1) := dall dgL_law_29 3 rfl
theorem dL_law_506 : decode cL_law 506 = .ok (.invokevirtual 65, 3) := dall dgL_law_29 4 rfl
theorem dL_law_509 : decode cL_law 509 = .ok (.pop, 1) := dall dgL_law_29 5 rfl
theorem dL_law_510 : decode cL_law 510 = .ok (.aload_n 2, 1) := dall dgL_law_29 6 rfl
theorem dL_law_511 : decode cL_law 511 = .ok (.aload_n 0, 1) := dall dgL_law_29 7 rfl
theorem dL_law_512 : decode cL_law 512 = .ok (.iload_n 3, 1) := dall dgL_law_29 8 rfl
theorem dL_law_513 : decode cL_law 513 = .ok (.iconst 1, 1) := dall dgL_law_29 9 rfl
def lgL_law_30 : List (Nat × Instr × Nat) := [(514, .iadd, 1), (515, .iaload, 1), (516, .aload_n 0, 1), (517, .iload_n 3, 1), (518, .iconst 2, 1), (519, .iadd, 1), (520, .iaload, 1), (521, .invokevirtual 68, 3), (524, .pop, 1), (525, .goto 540, 3)]
theorem dgL_law_30 : ∀ q ∈ lgL_law_30, decode cL_law q.1 = .ok (q.2.1, q.2.2) := by decide +kernel
theorem dL_law_514 : decode cL_law 514 = .ok (.iadd, 1) := dall dgL_law_30 0 rfl
theorem dL_law_515 : decode cL_law 515 = .ok (.iaload, 1) := dall dgL_law_30 1 rfl
theorem dL_law_516 : decode cL_law 516 = .ok (.aload_n 0, 1) := dall dgL_law_30 2 rfl
theorem dL_law_517 : decode cL_law 517 = .ok (.iload_n 3, 1) := dall dgL_law_30 3 rfl
theorem dL_law_518 : decode cL_law 518 = .ok (.iconst 2, 1) := dall dgL_law_30 4 rfl
theorem dL_law_519 : decode cL_law 519 = .ok (.iadd, 1) := dall dgL_law_30 5 rfl
theorem dL_law_520 : decode cL_law 520 = .ok (.iaload, 1) := dall dgL_law_30 6 rfl
theorem dL_law_521 : decode cL_law 521 = .ok (.invokevirtual 68, 3) := dall dgL_law_30 7 rfl
theorem dL_law_524 : decode cL_law 524 = .ok (.pop, 1) := dall dgL_law_30 8 rfl
theorem dL_law_525 : decode cL_law 525 = .ok (.goto 540, 3) := dall dgL_law_30 9 rfl
def lgL_law_31 : List (Nat × Instr × Nat) := [(528, .aload_n 1, 1), (529, .aload_n 0, 1), (530, .iload_n 3, 1), (531, .iconst 1, 1), (532, .iadd, 1), (533, .iaload, 1), (534, .aload_n 0, 1), (535, .iload_n 3, 1), (536, .iconst 2, 1), (537, .iadd, 1)]
theorem dgL_law_31 : ∀ q ∈ lgL_law_31, decode cL_law q.1 = .ok (q.2.1, q.2.2) := by decide +kernel
theorem dL_law_528 : decode cL_law 528 = .ok (.aload_n 1, 1) := dall dgL_law_31 0 rfl
theorem dL_law_529 : decode cL_law 529 = .ok (.aload_n 0, 1) := dall dgL_law_31 1 rfl
theorem dL_law_530 : decode cL_law 530 = .ok (.iload_n 3, 1) := dall dgL_law_31 2 rfl
theorem dL_law_531 : decode cL_law 531 = .ok (.iconst 1, 1) := dall dgL_law_31 3 rfl
theorem dL_law_532 : decode cL_law 532 = .ok (.iadd, 1) := dall dgL_law_31 4 rfl
theorem dL_law_533 : decode cL_law 533 = .ok (.iaload, 1) := dall dgL_law_31 5 rfl
theorem dL_law_534 : decode cL_law 534 = .ok (.aload_n 0, 1) := dall dgL_law_31 6 rfl
theorem dL_law_535 : decode cL_law 535 = .ok (.iload_n 3, 1) := dall dgL_law_31 7 rfl
theorem dL_law_536 : decode cL_law 536 = .ok (.iconst 2, 1) := dall dgL_law_31 8 rfl
theorem dL_law_537 : decode cL_law 537 = .ok (.iadd, 1) := dall dgL_law_31 9 rfl
def lgL_law_32 : List (Nat × Instr × Nat) := [(538, .iaload, 1), (539, .invokevirtual 69, 3), (542, .pop, 1), (543, .aload_n 2, 1), (544, .aload_n 0, 1), (545, .iload_n 3, 1), (546, .iconst 1, 1), (547, .iadd, 1), (548, .iaload, 1), (549, .aload_n 0, 1)]
theorem dgL_law_32 : ∀ q ∈ lgL_law_32, decode cL_law q.1 = .ok (q.2.1, q.2.2) := by decide +kernel
theorem dL_law_538 : decode cL_law 538 = .ok (.iaload, 1) := dall dgL_law_32 0 rfl
theorem dL_law_539 : decode cL_law 539 = .ok (.invokevirtual 69, 3) := dall dgL_law_32 1 rfl
theorem dL_law_542 : decode cL_law 542 = .ok (.pop, 1) := dall dgL_law_32 2 rfl
theorem dL_law_543 : decode cL_law 543 = .ok (.aload_n 2, 1) := dall dgL_law_32 3 rfl
theorem dL_law_544 : decode cL_law 544 = .ok (.aload_n 0, 1) := dall dgL_law_32 4 rfl
theorem dL_law_545 : decode cL_law 545 = .ok (.iload_n 3, 1) := dall dgL_law_32 5 rfl
theorem dL_law_546 : decode cL_law 546 = .ok (.iconst 1, 1) := dall dgL_law_32 6 rfl
theorem dL_law_547 : decode cL_law 547 = .ok (.iadd, 1) := dall dgL_law_32 7 rfl
theorem dL_law_548 : decode cL_law 548 = .ok (.iaload, 1) := dall dgL_law_32 8 rfl
theorem dL_law_549 : decode cL_law 549 = .ok (.aload_n 0, 1) := dall dgL_law_32 9 rfl
def lgL_law_33 : List (Nat × Instr × Nat) := [(550, .iload_n 3, 1), (551, .iconst 2, 1), (552, .iadd, 1), (553, .iaload, 1), (554, .invokevirtual 72, 3), (557, .pop, 1), (558, .goto 507, 3), (561, .aload_n 1, 1), (562, .aload_n 0, 1), (563, .iload_n 3, 1)]
theorem dgL_law_33 : ∀ q ∈ lgL_law_33, decode cL_law q.1 = .ok (q.2.1, q.2.2) := by decide +kernel
theorem dL_law_550 : decode cL_law 550 = .ok (.iload_n 3, 1) := dall dgL_law_33 0 rfl
theorem dL_law_551 : decode cL_law 551 = .ok (.iconst 2, 1) := dall dgL_law_33 1 rfl
theorem dL_law_552 : decode cL_law 552 = .ok (.iadd, 1) := dall dgL_law_33 2 rfl
theorem dL_law_553 : decode cL_law 553 = .ok (.iaload, 1) := dall dgL_law_33 3 rfl
theorem dL_law_554 : decode cL_law 554 = .ok (.invokevirtual 72, 3) := dall dgL_law_33 4 rfl
theorem dL_law_557 : decode cL_law 557 = .ok (.pop, 1) := dall dgL_law_33 5 rfl
theorem dL_law_558 : decode cL_law 558 = .ok (.goto 507, 3) := dall dgL_law_33 6 rfl
theorem dL_law_561 : decode cL_law 561 = .ok (.aload_n 1, 1) := dall dgL_law_33 7 rfl
theorem dL_law_562 : decode cL_law 562 = .ok (.aload_n 0, 1) := dall dgL_law_33 8 rfl
theorem dL_law_563 : decode cL_law 563 = .ok (.iload_n 3, 1) := dall dgL_law_33 9 rfl
def lgL_law_34 : List (Nat × Instr × Nat) := [(564, .iconst 1, 1), (565, .iadd, 1), (566, .iaload, 1), (567, .invokevirtual 73, 3), (570, .pop, 1), (571, .aload_n 2, 1), (572, .aload_n 0, 1), (573, .iload_n 3, 1), (574, .iconst 1, 1), (575, .iadd, 1)]
theorem dgL_law_34 : ∀ q ∈ lgL_law_34, decode cL_law q.1 = .ok (q.2.1, q.2.2) := by decide +kernel
theorem dL_law_564 : decode cL_law 564 = .ok (.iconst 1, 1) := dall dgL_law_34 0 rfl
theorem dL_law_565 : decode cL_law 565 = .ok (.iadd, 1) := dall dgL_law_34 1 rfl
theorem dL_law_566 : decode cL_law 566 = .ok (.iaload, 1) := dall dgL_law_34 2 rfl
theorem dL_law_567 : decode cL_law 567 = .ok (.invokevirtual 73, 3) := dall dgL_law_34 3 rfl
theorem dL_law_570 : decode cL_law 570 = .ok (.pop, 1) := dall dgL_law_34 4 rfl
theorem dL_law_571 : decode cL_law 571 = .ok (.aload_n 2, 1) := dall dgL_law_34 5 rfl
theorem dL_law_572 : decode cL_law 572 = .ok (.aload_n 0, 1) := dall dgL_law_34 6 rfl
theorem dL_law_573 : decode cL_law 573 = .ok (.iload_n 3, 1) := dall dgL_law_34 7 rfl
theorem dL_law_574 : decode cL_law 574 = .ok (.iconst 1, 1) := dall dgL_law_34 8 rfl
theorem dL_law_575 : decode cL_law 575 = .ok (.iadd, 1) := dall dgL_law_34 9 rfl
def lgL_law_35 : List (Nat × Instr × Nat) := [(576, .iaload, 1), (577, .invokevirtual 76, 3), (580, .pop, 1), (581, .goto 484, 3), (584, .aload_n 1, 1), (585, .aload_n 0, 1), (586, .iload_n 3, 1), (587, .iconst 1, 1), (588, .iadd, 1), (589, .iaload, 1)]
theorem dgL_law_35 : ∀ q ∈ lgL_law_35, decode cL_law q.1 = .ok (q.2.1, q.2.2) := by decide +kernel
theorem dL_law_576 : decode cL_law 576 = .ok (.iaload, 1) := dall dgL_law_35 0 rfl
theorem dL_law_577 : decode cL_law 577 = .ok (.invokevirtual 76, 3) := dall dgL_law_35 1 rfl
theorem dL_law_580 : decode cL_law 580 = .ok (.pop, 1) := dall dgL_law_35 2 rfl
theorem dL_law_581 : decode cL_law 581 = .ok (.goto 484, 3) := dall dgL_law_35 3 rfl
theorem dL_law_584 : decode cL_law 584 = .ok (.aload_n 1, 1) := dall dgL_law_35 4 rfl
theorem dL_law_585 : decode cL_law 585 = .ok (.aload_n 0, 1) := dall dgL_law_35 5 rfl
theorem dL_law_586 : decode cL_law 586 = .ok (.iload_n 3, 1) := dall dgL_law_35 6 rfl
theorem dL_law_587 : decode cL_law 587 = .ok (.iconst 1, 1) := dall dgL_law_35 7 rfl
theorem dL_law_588 : decode cL_law 588 = .ok (.iadd, 1) := dall dgL_law_35 8 rfl
theorem dL_law_589 : decode cL_law 589 = .ok (.iaload, 1) := dall dgL_law_35 9 rfl
def lgL_law_36 : List (Nat × Instr × Nat) := [(590, .invokevirtual 77, 3), (593, .pop, 1), (594, .aload_n 2, 1), (595, .aload_n 0, 1), (596, .iload_n 3, 1), (597, .iconst 1, 1), (598, .iadd, 1), (599, .iaload, 1), (600, .invokevirtual 80, 3), (603, .pop, 1)]
theorem dgL_law_36 : ∀ q ∈ lgL_law_36, decode cL_law q.1 = .ok (q.2.1, q.2.2) := by decide +kernel
theorem dL_law_590 : decode cL_law 590 = .ok (.invokevirtual 77, 3) := dall dgL_law_36 0 rfl
theorem dL_law_593 : decode cL_law 593 = .ok (.pop, 1) := dall dgL_law_36 1 rfl
theorem dL_law_594 : decode cL_law 594 = .ok (.aload_n 2, 1) := dall dgL_law_36 2 rfl
theorem dL_law_595 : decode cL_law 595 = .ok (.aload_n 0, 1) := dall dgL_law_36 3 rfl
theorem dL_law_596 : decode cL_law 596 = .ok (.iload_n 3, 1) := dall dgL_law_36 4 rfl
theorem dL_law_597 : decode cL_law 597 = .ok (.iconst 1, 1) := dall dgL_law_36 5 rfl
theorem dL_law_598 : decode cL_law 598 = .ok (.iadd, 1) := dall dgL_law_36 6 rfl
theorem dL_law_599 : decode cL_law 599 = .ok (.iaload, 1) := dall dgL_law_36 7 rfl
theorem dL_law_600 : decode cL_law 600 = .ok (.invokevirtual 80, 3) := dall dgL_law_36 8 rfl
theorem dL_law_603 : decode cL_law 603 = .ok (.pop, 1) := dall dgL_law_36 9 rfl
def lgL_law_37 : List (Nat × Instr × Nat) := [(604, .goto 461, 3), (607, .aload_n 1, 1), (608, .aload_n 0, 1), (609, .iload_n 3, 1), (610, .iconst 1, 1), (611, .iadd, 1), (612, .iaload, 1), (613, .aload_n 0, 1), (614, .iload_n 3, 1), (615, .iconst 2, 1)]
theorem dgL_law_37 : ∀ q ∈ lgL_law_37, decode cL_law q.1 = .ok (q.2.1, q.2.2) := by decide +kernel
theorem dL_law_604 : decode cL_law 604 = .ok (.goto 461, 3) := dall dgL_law_37 0 rfl
theorem dL_law_607 : decode cL_law 607 = .ok (.aload_n 1, 1) := dall dgL_law_37 1 rfl
theorem dL_law_608 : decode cL_law 608 = .ok (.aload_n 0, 1) := dall dgL_law_37 2 rfl
theorem dL_law_609 : decode cL_law 609 = .ok (.iload_n 3, 1) := dall dgL_law_37 3 rfl
theorem dL_law_610 : decode cL_law 610 = .ok (.iconst 1, 1) := dall dgL_law_37 4 rfl
theorem dL_law_611 : decode cL_law 611 = .ok (.iadd, 1) := dall dgL_law_37 5 rfl
theorem dL_law_612 : decode cL_law 612 = .ok (.iaload, 1) := dall dgL_law_37 6 rfl
theorem dL_law_613 : decode cL_law 613 = .ok (.aload_n 0, 1) := dall dgL_law_37 7 rfl
theorem dL_law_614 : decode cL_law 614 = .ok (.iload_n 3, 1) := dall dgL_law_37 8 rfl
theorem dL_law_615 : decode cL_law 615 = .ok (.iconst 2, 1) := dall dgL_law_37 9 rfl
def lgL_law_38 : List (Nat × Instr × Nat) := [(616, .iadd, 1), (617, .iaload, 1), (618, .invokevirtual 81, 3), (621, .pop, 1), (622, .aload_n 2, 1), (623, .aload_n 0, 1), (624, .iload_n 3, 1), (625, .iconst 1, 1), (626, .iadd, 1), (627, .iaload, 1)]
theorem dgL_law_38 : ∀ q ∈ lgL_law_38, decode cL_law q.1 = .ok (q.2.1, q.2.2) := by decide +kernel
theorem dL_law_616 : decode cL_law 616 = .ok (.iadd, 1) := dall dgL_law_38 0 rfl
theorem dL_law_617 : decode cL_law 617 = .ok (.iaload, 1) := dall dgL_law_38 1 rfl
theorem dL_law_618 : decode cL_law 618 = .ok (.invokevirtual 81, 3) := dall dgL_law_38 2 rfl
theorem dL_law_621 : decode cL_law 621 = .ok (.pop, 1) := dall dgL_law_38 3 rfl
theorem dL_law_622 : decode cL_law 622 = .ok (.aload_n 2, 1) := dall dgL_law_38 4 rfl
theorem dL_law_623 : decode cL_law 623 = .ok (.aload_n 0, 1) := dall dgL_law_38 5 rfl
theorem dL_law_624 : decode cL_law 624 = .ok (.iload_n 3, 1) := dall dgL_law_38 6 rfl
theorem dL_law_625 : decode cL_law 625 = .ok (.iconst 1, 1) := dall dgL_law_38 7 rfl
theorem dL_law_626 : decode cL_law 626 = .ok (.iadd, 1) := dall dgL_law_38 8 rfl
theorem dL_law_627 : decode cL_law 627 = .ok (.iaload, 1) := dall dgL_law_38 9 rfl
def lgL_law_39 : List (Nat × Instr × Nat) := [(628, .aload_n 0, 1), (629, .iload_n 3, 1), (630, .iconst 2, 1), (631, .iadd, 1), (632, .iaload, 1), (633, .invokevirtual 84, 3), (636, .pop, 1), (637, .goto 428, 3), (640, .aload_n 1, 1), (641, .aload_n 0, 1)]
theorem dgL_law_39 : ∀ q ∈ lgL_law_39, decode cL_law q.1 = .ok (q.2.1, q.2.2) := by decide +kernel
theorem dL_law_628 : decode cL_law 628 = .ok (.aload_n 0, 1) := dall dgL_law_39 0 rfl
theorem dL_law_629 : decode cL_law 629 = .ok (.iload_n 3, 1) := dall dgL_law_39 1 rfl
theorem dL_law_630 : decode cL_law 630 = .ok (.iconst 2, 1) := dall dgL_law_39 2 rfl
theorem dL_law_631 : decode cL_law 631 = .ok (.iadd, 1) := dall dgL_law_39 3 rfl
theorem dL_law_632 : decode cL_law 632 = .ok (.iaload, 1) := dall dgL_law_39 4 rfl
theorem dL_law_633 : decode cL_law 633 = .ok (.invokevirtual 84, 3) := dall dgL_law_39 5 rfl
theorem dL_law_636 : decode cL_law 636 = .ok (.pop, 1) := dall dgL_law_39 6 rfl
theorem dL_law_637 : decode cL_law 637 = .ok (.goto 428, 3) := dall dgL_law_39 7 rfl
theorem dL_law_640 : decode cL_law 640 = .ok (.aload_n 1, 1) := dall dgL_law_39 8 rfl
theorem dL_law_641 : decode cL_law 641 = .ok (.aload_n 0, 1) := dall dgL_law_39 9 rfl
def lgL_law_40 : List (Nat × Instr × Nat) := [(642, .iload_n 3, 1), (643, .iconst 1, 1), (644, .iadd, 1), (645, .iaload, 1), (646, .aload_n 0, 1), (647, .iload_n 3, 1), (648, .iconst 2, 1), (649, .iadd, 1), (650, .iaload, 1), (651, .invokevirtual 85, 3)]
theorem dgL_law_40 : ∀ q ∈ lgL_law_40, decode cL_law q.1 = .ok (q.2.1, q.2.2) := by decide +kernel
theorem dL_law_642 : decode cL_law 642 = .ok (.iload_n 3, 1) := dall dgL_law_40 0 rfl
theorem dL_law_643 : decode cL_law 643 = .ok (.iconst 1, 1) := dall dgL_law_40 1 rfl
theorem dL_law_644 : decode cL_law 644 = .ok (.iadd, 1) := dall dgL_law_40 2 rfl
theorem dL_law_645 : decode cL_law 645 = .ok (.iaload, 1) := dall dgL_law_40 3 rfl
theorem dL_law_646 : decode cL_law 646 = .ok (.aload_n 0, 1) := dall dgL_law_40 4 rfl
theorem dL_law_647 : decode cL_law 647 = .ok (.iload_n 3, 1) := dall dgL_law_40 5 rfl
theorem dL_law_648 : decode cL_law 648 = .ok (.iconst 2, 1) := dall dgL_law_40 6 rfl
theorem dL_law_649 : decode cL_law 649 = .ok (.iadd, 1) := dall dgL_law_40 7 rfl
theorem dL_law_650 : decode cL_law 650 = .ok (.iaload, 1) := dall dgL_law_40 8 rfl
theorem dL_law_651 : decode cL_law 651 = .ok (.invokevirtual 85, 3) := dall dgL_law_40 9 rfl
def lgL_law_41 : List (Nat × Instr × Nat) := [(654, .pop, 1), (655, .aload_n 2, 1), (656, .aload_n 0, 1), (657, .iload_n 3, 1), (658, .iconst 1, 1), (659, .iadd, 1), (660, .iaload, 1), (661, .aload_n 0, 1), (662, .iload_n 3, 1), (663, .iconst 2, 1)]
theorem dgL_law_41 : ∀ q ∈ lgL_law_41, decode cL_law q.1 = .ok (q.2.1, q.2.2) := by decide +kernel
theorem dL_law_654 : decode cL_law 654 = .ok (.pop, 1) := dall dgL_law_41 0 rfl
theorem dL_law_655 : decode cL_law 655 = .ok (.aload_n 2, 1) := dall dgL_law_41 1 rfl
theorem dL_law_656 : decode cL_law 656 = .ok (.aload_n 0, 1) := dall dgL_law_41 2 rfl
theorem dL_law_657 : decode cL_law 657 = .ok (.iload_n 3, 1) := dall dgL_law_41 3 rfl
theorem dL_law_658 : decode cL_law 658 = .ok (.iconst 1, 1) := dall dgL_law_41 4 rfl
theorem dL_law_659 : decode cL_law 659 = .ok (.iadd, 1) := dall dgL_law_41 5 rfl
theorem dL_law_660 : decode cL_law 660 = .ok (.iaload, 1) := dall dgL_law_41 6 rfl
theorem dL_law_661 : decode cL_law 661 = .ok (.aload_n 0, 1) := dall dgL_law_41 7 rfl
theorem dL_law_662 : decode cL_law 662 = .ok (.iload_n 3, 1) := dall dgL_law_41 8 rfl
theorem dL_law_663 : decode cL_law 663 = .ok (.iconst 2, 1) := dall dgL_law_41 9 rfl
def lgL_law_42 : List (Nat × Instr × Nat) := [(664, .iadd, 1), (665, .iaload, 1), (666, .invokevirtual 88, 3), (669, .pop, 1), (670, .goto 395, 3), (673, .aload_n 1, 1), (674, .aload_n 0, 1), (675, .iload_n 3, 1), (676, .iconst 1, 1), (677, .iadd, 1)]
theorem dgL_law_42 : ∀ q ∈ lgL_law_42, decode cL_law q.1 = .ok (q.2.1, q.2.2) := by decide +kernel
theorem dL_law_664 : decode cL_law 664 = .ok (.iadd, 1) := dall dgL_law_42 0 rfl
theorem dL_law_665 : decode cL_law 665 = .ok (.iaload, 1) := dall dgL_law_42 1 rfl
theorem dL_law_666 : decode cL_law 666 = .ok (.invokevirtual 88, 3) := dall dgL_law_42 2 rfl
theorem dL_law_669 : decode cL_law 669 = .ok (.pop, 1) := dall dgL_law_42 3 rfl
theorem dL_law_670 : decode cL_law 670 = .ok (.goto 395, 3) := dall dgL_law_42 4 rfl
theorem dL_law_673 : decode cL_law 673 = .ok (.aload_n 1, 1) := dall dgL_law_42 5 rfl
theorem dL_law_674 : decode cL_law 674 = .ok (.aload_n 0, 1) := dall dgL_law_42 6 rfl
theorem dL_law_675 : decode cL_law 675 = .ok (.iload_n 3, 1) := dall dgL_law_42 7 rfl
theorem dL_law_676 : decode cL_law 676 = .ok (.iconst 1, 1) := dall dgL_law_42 8 rfl
theorem dL_law_677 : decode cL_law 677 = .ok (.iadd, 1) := dall dgL_law_42 9 rfl
def lgL_law_43 : List (Nat × Instr × Nat) := [(678, .iaload, 1), (679, .aload_n 0, 1), (680, .iload_n 3, 1), (681, .iconst 2, 1), (682, .iadd, 1), (683, .iaload, 1), (684, .invokevirtual 89, 3), (687, .pop, 1), (688, .aload_n 2, 1), (689, .aload_n 0, 1)]
theorem dgL_law_43 : ∀ q ∈ lgL_law_43, decode cL_law q.1 = .ok (q.2.1, q.2.2) := by decide +kernel
theorem dL_law_678 : decode cL_law 678 = .ok (.iaload, 1) := dall dgL_law_43 0 rfl
theorem dL_law_679 : decode cL_law 679 = .ok (.aload_n 0, 1) := dall dgL_law_43 1 rfl
theorem dL_law_680 : decode cL_law 680 = .ok (.iload_n 3, 1) := dall dgL_law_43 2 rfl
theorem dL_law_681 : decode cL_law 681 = .ok (.iconst 2, 1) := dall dgL_law_43 3 rfl
theorem dL_law_682 : decode cL_law 682 = .ok (.iadd, 1) := dall dgL_law_43 4 rfl
theorem dL_law_683 : decode cL_law 683 = .ok (.iaload, 1) := dall dgL_law_43 5 rfl
theorem dL_law_684 : decode cL_law 684 = .ok (.invokevirtual 89, 3) := dall dgL_law_43 6 rfl
theorem dL_law_687 : decode cL_law 687 = .ok (.pop, 1) := dall dgL_law_43 7 rfl
theorem dL_law_688 : decode cL_law 688 = .ok (.aload_n 2, 1) := dall dgL_law_43 8 rfl
theorem dL_law_689 : decode cL_law 689 = .ok (.aload_n 0, 1) := dall dgL_law_43 9 rfl
def lgL_law_44 : List (Nat × Instr × Nat) := [(690, .iload_n 3, 1), (691, .iconst 1, 1), (692, .iadd, 1), (693, .iaload, 1), (694, .aload_n 0, 1), (695, .iload_n 3, 1), (696, .iconst 2, 1), (697, .iadd, 1), (698, .iaload, 1), (699, .invokevirtual 92, 3)]
theorem dgL_law_44 : ∀ q ∈ lgL_law_44, decode cL_law q.1 = .ok (q.2.1, q.2.2) := by decide +kernel
theorem dL_law_690 : decode cL_law 690 = .ok (.iload_n 3, 1) := dall dgL_law_44 0 rfl
theorem dL_law_691 : decode cL_law 691 = .ok (.iconst 1, 1) := dall dgL_law_44 1 rfl
theorem dL_law_692 : decode cL_law 692 = .ok (.iadd, 1) := dall dgL_law_44 2 rfl
theorem dL_law_693 : decode cL_law 693 = .ok (.iaload, 1) := dall dgL_law_44 3 rfl
theorem dL_law_694 : decode cL_law 694 = .ok (.aload_n 0, 1) := dall dgL_law_44 4 rfl
theorem dL_law_695 : decode cL_law 695 = .ok (.iload_n 3, 1) := dall dgL_law_44 5 rfl
theorem dL_law_696 : decode cL_law 696 = .ok (.iconst 2, 1) := dall dgL_law_44 6 rfl
theorem dL_law_697 : decode cL_law 697 = .ok (.iadd, 1) := dall dgL_law_44 7 rfl
theorem dL_law_698 : decode cL_law 698 = .ok (.iaload, 1) := dall dgL_law_44 8 rfl
theorem dL_law_699 : decode cL_law 699 = .ok (.invokevirtual 92, 3) := dall dgL_law_44 9 rfl
def lgL_law_45 : List (Nat × Instr × Nat) := [(702, .pop, 1), (703, .goto 362, 3), (706, .aload_n 1, 1), (707, .aload_n 0, 1), (708, .iload_n 3, 1), (709, .iconst 1, 1), (710, .iadd, 1), (711, .iaload, 1), (712, .aload_n 0, 1), (713, .iload_n 3, 1)]
theorem dgL_law_45 : ∀ q ∈ lgL_law_45, decode cL_law q.1 = .ok (q.2.1, q.2.2) := by decide +kernel
theorem dL_law_702 : decode cL_law 702 = .ok (.pop, 1) := dall dgL_law_45 0 rfl
theorem dL_law_703 : decode cL_law 703 = .ok (.goto 362, 3) := dall dgL_law_45 1 rfl
theorem dL_law_706 : decode cL_law 706 = .ok (.aload_n 1, 1) := dall dgL_law_45 2 rfl
theorem dL_law_707 : decode cL_law 707 = .ok (.aload_n 0, 1) := dall dgL_law_45 3 rfl
theorem dL_law_708 : decode cL_law 708 = .ok (.iload_n 3, 1) := dall dgL_law_45 4 rfl
theorem dL_law_709 : decode cL_law 709 = .ok (.iconst 1, 1) := dall dgL_law_45 5 rfl
theorem dL_law_710 : decode cL_law 710 = .ok (.iadd, 1) := dall dgL_law_45 6 rfl
theorem dL_law_711 : decode cL_law 711 = .ok (.iaload, 1) := dall dgL_law_45 7 rfl
theorem dL_law_712 : decode cL_law 712 = .ok (.aload_n 0, 1) := dall dgL_law_45 8 rfl
theorem dL_law_713 : decode cL_law 713 = .ok (.iload_n 3, 1) := dall dgL_law_45 9 rfl
def lgL_law_46 : List (Nat × Instr × Nat) := [(714, .iconst 2, 1), (715, .iadd, 1), (716, .iaload, 1), (717, .invokevirtual 93, 3), (720, .pop, 1), (721, .aload_n 2, 1), (722, .aload_n 0, 1), (723, .iload_n 3, 1), (724, .iconst 1, 1), (725, .iadd, 1)]
theorem dgL_law_46 : ∀ q ∈ lgL_law_46, decode cL_law q.1 = .ok (q.2.1, q.2.2) := by decide +kernel
theorem dL_law_714 : decode cL_law 714 = .ok (.iconst 2, 1) := dall dgL_law_46 0 rfl
theorem dL_law_715 : decode cL_law 715 = .ok (.iadd, 1) := dall dgL_law_46 1 rfl
theorem dL_law_716 : decode cL_law 716 = .ok (.iaload, 1) := dall dgL_law_46 2 rfl
theorem dL_law_717 : decode cL_law 717 = .ok (.invokevirtual 93, 3) := dall dgL_law_46 3 rfl
theorem dL_law_720 : decode cL_law 720 = .ok (.pop, 1) := dall dgL_law_46 4 rfl
theorem dL_law_721 : decode cL_law 721 = .ok (.aload_n 2, 1) := dall dgL_law_46 5 rfl
theorem dL_law_722 : decode cL_law 722 = .ok (.aload_n 0, 1) := dall dgL_law_46 6 rfl
theorem dL_law_723 : decode cL_law 723 = .ok (.iload_n 3, 1) := dall dgL_law_46 7 rfl
theorem dL_law_724 : decode cL_law 724 = .ok (.iconst 1, 1) := dall dgL_law_46 8 rfl
theorem dL_law_725 : decode cL_law 725 = .ok (.iadd, 1) := dall dgL_law_46 9 rfl
def lgL_law_47 : List (Nat × Instr × Nat) := [(726, .iaload, 1), (727, .aload_n 0, 1), (728, .iload_n 3, 1), (729, .iconst 2, 1), (730, .iadd, 1), (731, .iaload, 1), (732, .invokevirtual 96, 3), (735, .pop, 1), (736, .goto 329, 3), (739, .aload_n 1, 1)]
theorem dgL_law_47 : ∀ q ∈ lgL_law_47, decode cL_law q.1 = .ok (q.2.1, q.2.2) := by decide +kernel
theorem dL_law_726 : decode cL_law 726 = .ok (.iaload, 1) := dall dgL_law_47 0 rfl
theorem dL_law_727 : decode cL_law 727 = .ok (.aload_n 0, 1) := dall dgL_law_47 1 rfl
theorem dL_law_728 : decode cL_law 728 = .ok (.iload_n 3, 1) := dall dgL_law_47 2 rfl
theorem dL_law_729 : decode cL_law 729 = .ok (.iconst 2, 1) := dall dgL_law_47 3 rfl
theorem dL_law_730 : decode cL_law 730 = .ok (.iadd, 1) := dall dgL_law_47 4 rfl
theorem dL_law_731 : decode cL_law 731 = .ok (.iaload, 1) := dall dgL_law_47 5 rfl
theorem dL_law_732 : decode cL_law 732 = .ok (.invokevirtual 96, 3) := dall dgL_law_47 6 rfl
theorem dL_law_735 : decode cL_law 735 = .ok (.pop, 1) := dall dgL_law_47 7 rfl
theorem dL_law_736 : decode cL_law 736 = .ok (.goto 329, 3) := dall dgL_law_47 8 rfl
theorem dL_law_739 : decode cL_law 739 = .ok (.aload_n 1, 1) := dall dgL_law_47 9 rfl
def lgL_law_48 : List (Nat × Instr × Nat) := [(740, .aload_n 0, 1), (741, .iload_n 3, 1), (742, .iconst 1, 1), (743, .iadd, 1), (744, .iaload, 1), (745, .invokevirtual 97, 3), (748, .pop, 1), (749, .aload_n 2, 1), (750, .aload_n 0, 1), (751, .iload_n 3, 1)]
theorem dgL_law_48 : ∀ q ∈ lgL_law_48, decode cL_law q.1 = .ok (q.2.1, q.2.2) := by decide +kernel
theorem dL_law_740 : decode cL_law 740 = .ok (.aload_n 0, 1) := dall dgL_law_48 0 rfl
theorem dL_law_741 : decode cL_law 741 = .ok (.iload_n 3, 1) := dall dgL_law_48 1 rfl
theorem dL_law_742 : decode cL_law 742 = .ok (.iconst 1, 1) := dall dgL_law_48 2 rfl
theorem dL_law_743 : decode cL_law 743 = .ok (.iadd, 1) := dall dgL_law_48 3 rfl
theorem dL_law_744 : decode cL_law 744 = .ok (.iaload, 1) := dall dgL_law_48 4 rfl
theorem dL_law_745 : decode cL_law 745 = .ok (.invokevirtual 97, 3) := dall dgL_law_48 5 rfl
theorem dL_law_748 : decode cL_law 748 = .ok (.pop, 1) := dall dgL_law_48 6 rfl
theorem dL_law_749 : decode cL_law 749 = .ok (.aload_n 2, 1) := dall dgL_law_48 7 rfl
theorem dL_law_750 : decode cL_law 750 = .ok (.aload_n 0, 1) := dall dgL_law_48 8 rfl
theorem dL_law_751 : decode cL_law 751 = .ok (.iload_n 3, 1) := dall dgL_law_48 9 rfl
def lgL_law_49 : List (Nat × Instr × Nat) := [(752, .iconst 1, 1), (753, .iadd, 1), (754, .iaload, 1), (755, .invokevirtual 100, 3), (758, .pop, 1), (759, .goto 306, 3), (762, .aload_n 1, 1), (763, .aload_n 0, 1), (764, .iload_n 3, 1), (765, .iconst 1, 1)]
theorem dgL_law_49 : ∀ q ∈ lgL_law_49, decode cL_law q.1 = .ok (q.2.1, q.2.2) := by decide +kernel
theorem dL_law_752 : decode cL_law 752 = .ok (.iconst 1, 1) := dall dgL_law_49 0 rfl
theorem dL_law_753 : decode cL_law 753 = .ok (.iadd, 1) := dall dgL_law_49 1 rfl
theorem dL_law_754 : decode cL_law 754 = .ok (.iaload, 1) := dall dgL_law_49 2 rfl
theorem dL_law_755 : decode cL_law 755 = .ok (.invokevirtual 100, 3) := dall dgL_law_49 3 rfl
theorem dL_law_758 : decode cL_law 758 = .ok (.pop, 1) := dall dgL_law_49 4 rfl
theorem dL_law_759 : decode cL_law 759 = .ok (.goto 306, 3) := dall dgL_law_49 5 rfl
theorem dL_law_762 : decode cL_law 762 = .ok (.aload_n 1, 1) := dall dgL_law_49 6 rfl
theorem dL_law_763 : decode cL_law 763 = .ok (.aload_n 0, 1) := dall dgL_law_49 7 rfl
theorem dL_law_764 : decode cL_law 764 = .ok (.iload_n 3, 1) := dall dgL_law_49 8 rfl
theorem dL_law_765 : decode cL_law 765 = .ok (.iconst 1, 1) := dall dgL_law_49 9 rfl
def lgL_law_50 : List (Nat × Instr × Nat) := [(766, .iadd, 1), (767, .iaload, 1), (768, .aload_n 0, 1), (769, .iload_n 3, 1), (770, .iconst 2, 1), (771, .iadd, 1), (772, .iaload, 1), (773, .invokevirtual 101, 3), (776, .pop, 1), (777, .aload_n 2, 1)]
theorem dgL_law_50 : ∀ q ∈ lgL_law_50, decode cL_law q.1 = .ok (q.2.1, q.2.2) := by decide +kernel
theorem dL_law_766 : decode cL_law 766 = .ok (.iadd, 1) := dall dgL_law_50 0 rfl
theorem dL_law_767 : decode cL_law 767 = .ok (.iaload, 1) := dall dgL_law_50 1 rfl
theorem dL_law_768 : decode cL_law 768 = .ok (.aload_n 0, 1) := dall dgL_law_50 2 rfl
theorem dL_law_769 : decode cL_law 769 = .ok (.iload_n 3, 1) := dall dgL_law_50 3 rfl
theorem dL_law_770 : decode cL_law 770 = .ok (.iconst 2, 1) := dall dgL_law_50 4 rfl
theorem dL_law_771 : decode cL_law 771 = .ok (.iadd, 1) := dall dgL_law_50 5 rfl
theorem dL_law_772 : decode cL_law 772 = .ok (.iaload, 1) := dall dgL_law_50 6 rfl
theorem dL_law_773 : decode cL_law 773 = .ok (.invokevirtual 101, 3) := dall dgL_law_50 7 rfl
theorem dL_law_776 : decode cL_law 776 = .ok (.pop, 1) := dall dgL_law_50 8 rfl
theorem dL_law_777 : decode cL_law 777 = .ok (.aload_n 2, 1) := dall dgL_law_50 9 rfl
def lgL_law_51 : List (Nat × Instr × Nat) := [(778, .aload_n 0, 1), (779, .iload_n 3, 1), (780, .iconst 1, 1), (781, .iadd, 1), (782, .iaload, 1), (783, .aload_n 0, 1), (784, .iload_n 3, 1), (785, .iconst 2, 1), (786, .iadd, 1), (787, .iaload, 1)]
theorem dgL_law_51 : ∀ q ∈ lgL_law_51, decode cL_law q.1 = .ok (q.2.1, q.2.2) := by decide +kernel
theorem dL_law_778 : decode cL_law 778 = .ok (.aload_n 0, 1) := dall dgL_law_51 0 rfl
theorem dL_law_779 : decode cL_law 779 = .ok (.iload_n 3, 1) := dall dgL_law_51 1 rfl
theorem dL_law_780 : decode cL_law 780 = .ok (.iconst 1, 1) := dall dgL_law_51 2 rfl
theorem dL_law_781 : decode cL_law 781 = .ok (.iadd, 1) := dall dgL_law_51 3 rfl
theorem dL_law_782 : decode cL_law 782 = .ok (.iaload, 1) := dall dgL_law_51 4 rfl
theorem dL_law_783 : decode cL_law 783 = .ok (.aload_n 0, 1) := dall dgL_law_51 5 rfl
theorem dL_law_784 : decode cL_law 784 = .ok (.iload_n 3, 1) := dall dgL_law_51 6 rfl
theorem dL_law_785 : decode cL_law 785 = .ok (.iconst 2, 1) := dall dgL_law_51 7 rfl
theorem dL_law_786 : decode cL_law 786 = .ok (.iadd, 1) := dall dgL_law_51 8 rfl
theorem dL_law_787 : decode cL_law 787 = .ok (.iaload, 1) := dall dgL_law_51 9 rfl
def lgL_law_52 : List (Nat × Instr × Nat) := [(788, .invokevirtual 104, 3), (791, .pop, 1), (792, .goto 273, 3), (795, .aload_n 1, 1), (796, .aload_n 0, 1), (797, .iload_n 3, 1), (798, .iconst 1, 1), (799, .iadd, 1), (800, .iaload, 1), (801, .aload_n 0, 1)]
theorem dgL_law_52 : ∀ q ∈ lgL_law_52, decode cL_law q.1 = .ok (q.2.1, q.2.2) := by decide +kernel
theorem dL_law_788 : decode cL_law 788 = .ok (.invokevirtual 104, 3) := dall dgL_law_52 0 rfl
theorem dL_law_791 : decode cL_law 791 = .ok (.pop, 1) := dall dgL_law_52 1 rfl
theorem dL_law_792 : decode cL_law 792 = .ok (.goto 273, 3) := dall dgL_law_52 2 rfl
theorem dL_law_795 : decode cL_law 795 = .ok (.aload_n 1, 1) := dall dgL_law_52 3 rfl
theorem dL_law_796 : decode cL_law 796 = .ok (.aload_n 0, 1) := dall dgL_law_52 4 rfl
theorem dL_law_797 : decode cL_law 797 = .ok (.iload_n 3, 1) := dall dgL_law_52 5 rfl
theorem dL_law_798 : decode cL_law 798 = .ok (.iconst 1, 1) := dall dgL_law_52 6 rfl
theorem dL_law_799 : decode cL_law 799 = .ok (.iadd, 1) := dall dgL_law_52 7 rfl
theorem dL_law_800 : decode cL_law 800 = .ok (.iaload, 1) := dall dgL_law_52 8 rfl
theorem dL_law_801 : decode cL_law 801 = .ok (.aload_n 0, 1) := dall dgL_law_52 9 rfl
def lgL_law_53 : List (Nat × Instr × Nat) := [(802, .iload_n 3, 1), (803, .iconst 2, 1), (804, .iadd, 1), (805, .iaload, 1), (806, .aload_n 0, 1), (807, .iload_n 3, 1), (808, .iconst 3, 1), (809, .iadd, 1), (810, .iaload, 1), (811, .invokevirtual 105, 3)]
theorem dgL_law_53 : ∀ q ∈ lgL_law_53, decode cL_law q.1 = .ok (q.2.1, q.2.2) := by decide +kernel
theorem dL_law_802 : decode cL_law 802 = .ok (.iload_n 3, 1) := dall dgL_law_53 0 rfl
theorem dL_law_803 : decode cL_law 803 = .ok (.iconst 2, 1) := dall dgL_law_53 1 rfl
theorem dL_law_804 : decode cL_law 804 = .ok (.iadd, 1) := dall dgL_law_53 2 rfl
theorem dL_law_805 : decode cL_law 805 = .ok (.iaload, 1) := dall dgL_law_53 3 rfl
theorem dL_law_806 : decode cL_law 806 = .ok (.aload_n 0, 1) := dall dgL_law_53 4 rfl
theorem dL_law_807 : decode cL_law 807 = .ok (.iload_n 3, 1) := dall dgL_law_53 5 rfl
theorem dL_law_808 : decode cL_law 808 = .ok (.iconst 3, 1) := dall dgL_law_53 6 rfl
theorem dL_law_809 : decode cL_law 809 = .ok (.iadd, 1) := dall dgL_law_53 7 rfl
theorem dL_law_810 : decode cL_law 810 = .ok (.iaload, 1) := dall dgL_law_53 8 rfl
theorem dL_law_811 : decode cL_law 811 = .ok (.invokevirtual 105, 3) := dall dgL_law_53 9 rfl
def lgL_law_54 : List (Nat × Instr × Nat) := [(814, .pop, 1), (815, .aload_n 2, 1), (816, .aload_n 0, 1), (817, .iload_n 3, 1), (818, .iconst 1, 1), (819, .iadd, 1), (820, .iaload, 1), (821, .aload_n 0, 1), (822, .iload_n 3, 1), (823, .iconst 2, 1)]
theorem dgL_law_54 : ∀ q ∈ lgL_law_54, decode cL_law q.1 = .ok (q.2.1, q.2.2) := by decide +kernel
theorem dL_law_814 : decode cL_law 814 = .ok (.pop, 1) := dall dgL_law_54 0 rfl
theorem dL_law_815 : decode cL_law 815 = .ok (.aload_n 2, 1) := dall dgL_law_54 1 rfl
theorem dL_law_816 : decode cL_law 816 = .ok (.aload_n 0, 1) := dall dgL_law_54 2 rfl
theorem dL_law_817 : decode cL_law 817 = .ok (.iload_n 3, 1) := dall dgL_law_54 3 rfl
theorem dL_law_818 : decode cL_law 818 = .ok (.iconst 1, 1) := dall dgL_law_54 4 rfl
theorem dL_law_819 : decode cL_law 819 = .ok (.iadd, 1) := dall dgL_law_54 5 rfl
theorem dL_law_820 : decode cL_law 820 = .ok (.iaload, 1) := dall dgL_law_54 6 rfl
theorem dL_law_821 : decode cL_law 821 = .ok (.aload_n 0, 1) := dall dgL_law_54 7 rfl
theorem dL_law_822 : decode cL_law 822 = .ok (.iload_n 3, 1) := dall dgL_law_54 8 rfl
theorem dL_law_823 : decode cL_law 823 = .ok (.iconst 2, 1) := dall dgL_law_54 9 rfl
def lgL_law_55 : List (Nat × Instr × Nat) := [(824, .iadd, 1), (825, .iaload, 1), (826, .aload_n 0, 1), (827, .iload_n 3, 1), (828, .iconst 3, 1), (829, .iadd, 1), (830, .iaload, 1), (831, .invokevirtual 108, 3), (834, .pop, 1), (835, .goto 230, 3)]
theorem dgL_law_55 : ∀ q ∈ lgL_law_55, decode cL_law q.1 = .ok (q.2.1, q.2.2) := by decide +kernel
theorem dL_law_824 : decode cL_law 824 = .ok (.iadd, 1) := dall dgL_law_55 0 rfl
theorem dL_law_825 : decode cL_law 825 = .ok (.iaload, 1) := dall dgL_law_55 1 rfl
theorem dL_law_826 : decode cL_law 826 = .ok (.aload_n 0, 1) := dall dgL_law_55 2 rfl
theorem dL_law_827 : decode cL_law 827 = .ok (.iload_n 3, 1) := dall dgL_law_55 3 rfl
theorem dL_law_828 : decode cL_law 828 = .ok (.iconst 3, 1) := dall dgL_law_55 4 rfl
theorem dL_law_829 : decode cL_law 829 = .ok (.iadd, 1) := dall dgL_law_55 5 rfl
theorem dL_law_830 : decode cL_law 830 = .ok (.iaload, 1) := dall dgL_law_55 6 rfl
theorem dL_law_831 : decode cL_law 831 = .ok (.invokevirtual 108, 3) := dall dgL_law_55 7 rfl
theorem dL_law_834 : decode cL_law 834 = .ok (.pop, 1) := dall dgL_law_55 8 rfl
theorem dL_law_835 : decode cL_law 835 = .ok (.goto 230, 3) := dall dgL_law_55 9 rfl
def lgL_law_56 : List (Nat × Instr × Nat) := [(838, .aload_n 1, 1), (839, .invokevirtual 109, 3), (842, .pop, 1), (843, .aload_n 2, 1), (844, .invokevirtual 112, 3), (847, .pop, 1), (848, .goto 217, 3), (851, .aload_n 1, 1), (852, .invokevirtual 113, 3), (855, .pop, 1)]
theorem dgL_law_56 : ∀ q ∈ lgL_law_56, decode cL_law q.1 = .ok (q.2.1, q.2.2) := by decide +kernel
theorem dL_law_838 : decode cL_law 838 = .ok (.aload_n 1, 1) := dall dgL_law_56 0 rfl
theorem dL_law_839 : decode cL_law 839 = .ok (.invokevirtual 109, 3) := dall dgL_law_56 1 rfl
theorem dL_law_842 : decode cL_law 842 = .ok (.pop, 1) := dall dgL_law_56 2 rfl
theorem dL_law_843 : decode cL_law 843 = .ok (.aload_n 2, 1) := dall dgL_law_56 3 rfl
theorem dL_law_844 : decode cL_law 844 = .ok (.invokevirtual 112, 3) := dall dgL_law_56 4 rfl
theorem dL_law_847 : decode cL_law 847 = .ok (.pop, 1) := dall dgL_law_56 5 rfl
theorem dL_law_848 : decode cL_law 848 = .ok (.goto 217, 3) := dall dgL_law_56 6 rfl
theorem dL_law_851 : decode cL_law 851 = .ok (.aload_n 1, 1) := dall dgL_law_56 7 rfl
theorem dL_law_852 : decode cL_law 852 = .ok (.invokevirtual 113, 3) := dall dgL_law_56 8 rfl
theorem dL_law_855 : decode cL_law 855 = .ok (.pop, 1) := dall dgL_law_56 9 rfl
def lgL_law_57 : List (Nat × Instr × Nat) := [(856, .aload_n 2, 1), (857, .invokevirtual 116, 3), (860, .pop, 1), (861, .goto 204, 3), (864, .aload_n 1, 1), (865, .aload_n 0, 1), (866, .iload_n 3, 1), (867, .iconst 1, 1), (868, .iadd, 1), (869, .iaload, 1)]
theorem dgL_law_57 : ∀ q ∈ lgL_law_57, decode cL_law q.1 = .ok (q.2.1, q.2.2) := by decide +kernel
theorem dL_law_856 : decode cL_law 856 = .ok (.aload_n 2, 1) := dall dgL_law_57 0 rfl
theorem dL_law_857 : decode cL_law 857 = .ok (.invokevirtual 116, 3) := dall dgL_law_57 1 rfl
theorem dL_law_860 : decode cL_law 860 = .ok (.pop, 1) := dall dgL_law_57 2 rfl
theorem dL_law_861 : decode cL_law 861 = .ok (.goto 204, 3) := dall dgL_law_57 3 rfl
theorem dL_law_864 : decode cL_law 864 = .ok (.aload_n 1, 1) := dall dgL_law_57 4 rfl
theorem dL_law_865 : decode cL_law 865 = .ok (.aload_n 0, 1) := dall dgL_law_57 5 rfl
theorem dL_law_866 : decode cL_law 866 = .ok (.iload_n 3, 1) := dall dgL_law_57 6 rfl
theorem dL_law_867 : decode cL_law 867 = .ok (.iconst 1, 1) := dall dgL_law_57 7 rfl
theorem dL_law_868 : decode cL_law 868 = .ok (.iadd, 1) := dall dgL_law_57 8 rfl
theorem dL_law_869 : decode cL_law 869 = .ok (.iaload, 1) := dall dgL_law_57 9 rfl
def lgL_law_58 : List (Nat × Instr × Nat) := [(870, .aload_n 0, 1), (871, .iload_n 3, 1), (872, .iconst 2, 1), (873, .iadd, 1), (874, .iaload, 1), (875, .invokevirtual 117, 3), (878, .pop, 1), (879, .aload_n 2, 1), (880, .aload_n 0, 1), (881, .iload_n 3, 1)]
theorem dgL_law_58 : ∀ q ∈ lgL_law_58, decode cL_law q.1 = .ok (q.2.1, q.2.2) := by decide +kernel
theorem dL_law_870 : decode cL_law 870 = .ok (.aload_n 0, 1) := dall dgL_law_58 0 rfl
theorem dL_law_871 : decode cL_law 871 = .ok (.iload_n 3, 1) := dall dgL_law_58 1 rfl
theorem dL_law_872 : decode cL_law 872 = .ok (.iconst 2, 1) := dall dgL_law_58 2 rfl
theorem dL_law_873 : decode cL_law 873 = .ok (.iadd, 1) := dall dgL_law_58 3 rfl
theorem dL_law_874 : decode cL_law 874 = .ok (.iaload, 1) := dall dgL_law_58 4 rfl
theorem dL_law_875 : decode cL_law 875 = .ok (.invokevirtual 117, 3) := dall dgL_law_58 5 rfl
theorem dL_law_878 : decode cL_law 878 = .ok (.pop, 1) := dall dgL_law_58 6 rfl
theorem dL_law_879 : decode cL_law 879 = .ok (.aload_n 2, 1) := dall dgL_law_58 7 rfl
theorem dL_law_880 : decode cL_law 880 = .ok (.aload_n 0, 1) := dall dgL_law_58 8 rfl
theorem dL_law_881 : decode cL_law 881 = .ok (.iload_n 3, 1) := dall dgL_law_58 9 rfl
def lgL_law_59 : List (Nat × Instr × Nat) := [(882, .iconst 1, 1), (883, .iadd, 1), (884, .iaload, 1), (885, .aload_n 0, 1), (886, .iload_n 3, 1), (887, .iconst 2, 1), (888, .iadd, 1), (889, .iaload, 1), (890, .invokevirtual 120, 3), (893, .pop, 1)]
theorem dgL_law_59 : ∀ q ∈ lgL_law_59, decode cL_law q.1 = .ok (q.2.1, q.2.2) := by decide +kernel
theorem dL_law_882 : decode cL_law 882 = .ok (.iconst 1, 1) := dall dgL_law_59 0 rfl
theorem dL_law_883 : decode cL_law 883 = .ok (.iadd, 1) := dall dgL_law_59 1 rfl
theorem dL_law_884 : decode cL_law 884 = .ok (.iaload, 1) := dall dgL_law_59 2 rfl
theorem dL_law_885 : decode cL_law 885 = .ok (.aload_n 0, 1) := dall dgL_law_59 3 rfl
theorem dL_law_886 : decode cL_law 886 = .ok (.iload_n 3, 1) := dall dgL_law_59 4 rfl
theorem dL_law_887 : decode cL_law 887 = .ok (.iconst 2, 1) := dall dgL_law_59 5 rfl
theorem dL_law_888 : decode cL_law 888 = .ok (.iadd, 1) := dall dgL_law_59 6 rfl
theorem dL_law_889 : decode cL_law 889 = .ok (.iaload, 1) := dall dgL_law_59 7 rfl
theorem dL_law_890 : decode cL_law 890 = .ok (.invokevirtual 120, 3) := dall dgL_law_59 8 rfl
theorem dL_law_893 : decode cL_law 893 = .ok (.pop, 1) := dall dgL_law_59 9 rfl
def lgL_law_60 : List (Nat × Instr × Nat) := [(894, .goto 171, 3), (897, .aload_n 1, 1), (898, .aload_n 0, 1), (899, .iload_n 3, 1), (900, .iconst 1, 1), (901, .iadd, 1), (902, .iaload, 1), (903, .aload_n 0, 1), (904, .iload_n 3, 1), (905, .iconst 2, 1)]
theorem dgL_law_60 : ∀ q ∈ lgL_law_60, decode cL_law q.1 = .ok (q.2.1, q.2.2) := by decide +kernel
theorem dL_law_894 : decode cL_law 894 = .ok (.goto 171, 3) := dall dgL_law_60 0 rfl
theorem dL_law_897 : decode cL_law 897 = .ok (.aload_n 1, 1) := dall dgL_law_60 1 rfl
theorem dL_law_898 : decode cL_law 898 = .ok (.aload_n 0, 1) := dall dgL_law_60 2 rfl
theorem dL_law_899 : decode cL_law 899 = .ok (.iload_n 3, 1) := dall dgL_law_60 3 rfl
theorem dL_law_900 : decode cL_law 900 = .ok (.iconst 1, 1) := dall dgL_law_60 4 rfl
theorem dL_law_901 : decode cL_law 901 = .ok (.iadd, 1) := dall dgL_law_60 5 rfl
theorem dL_law_902 : decode cL_law 902 = .ok (.iaload, 1) := dall dgL_law_60 6 rfl
theorem dL_law_903 : decode cL_law 903 = .ok (.aload_n 0, 1) := dall dgL_law_60 7 rfl
theorem dL_law_904 : decode cL_law 904 = .ok (.iload_n 3, 1) := dall dgL_law_60 8 rfl
theorem dL_law_905 : decode cL_law 905 = .ok (.iconst 2, 1) := dall dgL_law_60 9 rfl
def lgL_law_61 : List (Nat × Instr × Nat) := [(906, .iadd, 1), (907, .iaload, 1), (908, .invokevirtual 121, 3), (911, .pop, 1), (912, .aload_n 2, 1), (913, .aload_n 0, 1), (914, .iload_n 3, 1), (915, .iconst 1, 1), (916, .iadd, 1), (917, .iaload, 1)]
theorem dgL_law_61 : ∀ q ∈ lgL_law_61, decode cL_law q.1 = .ok (q.2.1, q.2.2) := by decide +kernel
theorem dL_law_906 : decode cL_law 906 = .ok (.iadd, 1) := dall dgL_law_61 0 rfl
theorem dL_law_907 : decode cL_law 907 = .ok (.iaload, 1) := dall dgL_law_61 1 rfl
theorem dL_law_908 : decode cL_law 908 = .ok (.invokevirtual 121, 3) := dall dgL_law_61 2 rfl
theorem dL_law_911 : decode cL_law 911 = .ok (.pop, 1) := dall dgL_law_61 3 rfl
theorem dL_law_912 : decode cL_law 912 = .ok (.aload_n 2, 1) := dall dgL_law_61 4 rfl
theorem dL_law_913 : decode cL_law 913 = .ok (.aload_n 0, 1) := dall dgL_law_61 5 rfl
theorem dL_law_914 : decode cL_law 914 = .ok (.iload_n 3, 1) := dall dgL_law_61 6 rfl
theorem dL_law_915 : decode cL_law 915 = .ok (.iconst 1, 1) := dall dgL_law_61 7 rfl
theorem dL_law_916 : decode cL_law 916 = .ok (.iadd, 1) := dall dgL_law_61 8 rfl
theorem dL_law_917 : decode cL_law 917 = .ok (.iaload, 1) := dall dgL_law_61 9 rfl
def lgL_law_62 : List (Nat × Instr × Nat) := [(918, .aload_n 0, 1), (919, .iload_n 3, 1), (920, .iconst 2, 1), (921, .iadd, 1), (922, .iaload, 1), (923, .invokevirtual 124, 3), (926, .pop, 1), (927, .goto 138, 3), (930, .aload_n 1, 1), (931, .aload_n 0, 1)]
theorem dgL_law_62 : ∀ q ∈ lgL_law_62, decode cL_law q.1 = .ok (q.2.1, q.2.2) := by decide +kernel
theorem dL_law_918 : decode cL_law 918 = .ok (.aload_n 0, 1) := dall dgL_law_62 0 rfl
theorem dL_law_919 : decode cL_law 919 = .ok (.iload_n 3, 1) := dall dgL_law_62 1 rfl
theorem dL_law_920 : decode cL_law 920 = .ok (.iconst 2, 1) := dall dgL_law_62 2 rfl
theorem dL_law_921 : decode cL_law 921 = .ok (.iadd, 1) := dall dgL_law_62 3 rfl
theorem dL_law_922 : decode cL_law 922 = .ok (.iaload, 1) := dall dgL_law_62 4 rfl
theorem dL_law_923 : decode cL_law 923 = .ok (.invokevirtual 124, 3) := dall dgL_law_62 5 rfl
theorem dL_law_926 : decode cL_law 926 = .ok (.pop, 1) := dall dgL_law_62 6 rfl
theorem dL_law_927 : decode cL_law 927 = .ok (.goto 138, 3) := dall dgL_law_62 7 rfl
theorem dL_law_930 : decode cL_law 930 = .ok (.aload_n 1, 1) := dall dgL_law_62 8 rfl
theorem dL_law_931 : decode cL_law 931 = .ok (.aload_n 0, 1) := dall dgL_law_62 9 rfl
def lgL_law_63 : List (Nat × Instr × Nat) := [(932, .iload_n 3, 1), (933, .iconst 1, 1), (934, .iadd, 1), (935, .iaload, 1), (936, .aload_n 0, 1), (937, .iload_n 3, 1), (938, .iconst 2, 1), (939, .iadd, 1), (940, .iaload, 1), (941, .aload_n 0, 1)]
theorem dgL_law_63 : ∀ q ∈ lgL_law_63, decode cL_law q.1 = .ok (q.2.1, q.2.2) := by decide +kernel
theorem dL_law_932 : decode cL_law 932 = .ok (.iload_n 3, 1) := dall dgL_law_63 0 rfl
theorem dL_law_933 : decode cL_law 933 = .ok (.iconst 1, 1) := dall dgL_law_63 1 rfl
theorem dL_law_934 : decode cL_law 934 = .ok (.iadd, 1) := dall dgL_law_63 2 rfl
theorem dL_law_935 : decode cL_law 935 = .ok (.iaload, 1) := dall dgL_law_63 3 rfl
theorem dL_law_936 : decode cL_law 936 = .ok (.aload_n 0, 1) := dall dgL_law_63 4 rfl
theorem dL_law_937 : decode cL_law 937 = .ok (.iload_n 3, 1) := dall dgL_law_63 5 rfl
theorem dL_law_938 : decode cL_law 938 = .ok (.iconst 2, 1) := dall dgL_law_63 6 rfl
theorem dL_law_939 : decode cL_law 939 = .ok (.iadd, 1) := dall dgL_law_63 7 rfl
theorem dL_law_940 : decode cL_law 940 = .ok (.iaload, 1) := dall dgL_law_63 8 rfl
theorem dL_law_941 : decode cL_law 941 = .ok (.aload_n 0, 1) := dall dgL_law_63 9 rfl
def lgL_law_64 : List (Nat × Instr × Nat) := [(942, .iload_n 3, 1), (943, .iconst 3, 1), (944, .iadd, 1), (945, .iaload, 1), (946, .invokevirtual 125, 3), (949, .pop, 1), (950, .aload_n 2, 1), (951, .aload_n 0, 1), (952, .iload_n 3, 1), (953, .iconst 1, 1)]
theorem dgL_law_64 : ∀ q ∈ lgL_law_64, decode cL_law q.1 = .ok (q.2.1, q.2.2) := by decide +kernel
theorem dL_law_942 : decode cL_law 942 = .ok (.iload_n 3, 1) := dall dgL_law_64 0 rfl
theorem dL_law_943 : decode cL_law 943 = .ok (.iconst 3, 1) := dall dgL_law_64 1 rfl
theorem dL_law_944 : decode cL_law 944 = .ok (.iadd, 1) := dall dgL_law_64 2 rfl
theorem dL_law_945 : decode cL_law 945 = .ok (.iaload, 1) := dall dgL_law_64 3 rfl
theorem dL_law_946 : decode cL_law 946 = .ok (.invokevirtual 125, 3) := dall dgL_law_64 4 rfl
theorem dL_law_949 : decode cL_law 949 = .ok (.pop, 1) := dall dgL_law_64 5 rfl
theorem dL_law_950 : decode cL_law 950 = .ok (.aload_n 2, 1) := dall dgL_law_64 6 rfl
theorem dL_law_951 : decode cL_law 951 = .ok (.aload_n 0, 1) := dall dgL_law_64 7 rfl
theorem dL_law_952 : decode cL_law 952 = .ok (.iload_n 3, 1) := dall dgL_law_64 8 rfl
theorem dL_law_953 : decode cL_law 953 = .ok (.iconst 1, 1) := dall dgL_law_64 9 rfl
def lgL_law_65 : List (Nat × Instr × Nat) := [(954, .iadd, 1), (955, .iaload, 1), (956, .aload_n 0, 1), (957, .iload_n 3, 1), (958, .iconst 2, 1), (959, .iadd, 1), (960, .iaload, 1), (961, .aload_n 0, 1), (962, .iload_n 3, 1), (963, .iconst 3, 1)]
theorem dgL_law_65 : ∀ q ∈ lgL_law_65, decode cL_law q.1 = .ok (q.2.1, q.2.2) := by decide +kernel
theorem dL_law_954 : decode cL_law 954 = .ok (.iadd, 1) := dall dgL_law_65 0 rfl
theorem dL_law_955 : decode cL_law 955 = .ok (.iaload, 1) := dall dgL_law_65 1 rfl
theorem dL_law_956 : decode cL_law 956 = .ok (.aload_n 0, 1) := dall dgL_law_65 2 rfl
theorem dL_law_957 : decode cL_law 957 = .ok (.iload_n 3, 1) := dall dgL_law_65 3 rfl
theorem dL_law_958 : decode cL_law 958 = .ok (.iconst 2, 1) := dall dgL_law_65 4 rfl
theorem dL_law_959 : decode cL_law 959 = .ok (.iadd, 1) := dall dgL_law_65 5 rfl
theorem dL_law_960 : decode cL_law 960 = .ok (.iaload, 1) := dall dgL_law_65 6 rfl
theorem dL_law_961 : decode cL_law 961 = .ok (.aload_n 0, 1) := dall dgL_law_65 7 rfl
theorem dL_law_962 : decode cL_law 962 = .ok (.iload_n 3, 1) := dall dgL_law_65 8 rfl
theorem dL_law_963 : decode cL_law 963 = .ok (.iconst 3, 1) := dall dgL_law_65 9 rfl
def lgL_law_66 : List (Nat × Instr × Nat) := [(964, .iadd, 1), (965, .iaload, 1), (966, .invokevirtual 128, 3), (969, .pop, 1), (970, .goto 95, 3), (973, .aload_n 1, 1), (974, .aload_n 0, 1), (975, .iload_n 3, 1), (976, .iconst 1, 1), (977, .iadd, 1)]
theorem dgL_law_66 : ∀ q ∈ lgL_law_66, decode cL_law q.1 = .ok (q.2.1, q.2.2) := by decide +kernel
theorem dL_law_964 : decode cL_law 964 = .ok (.iadd, 1) := dall dgL_law_66 0 rfl
theorem dL_law_965 : decode cL_law 965 = .ok (.iaload, 1) := dall dgL_law_66 1 rfl
theorem dL_law_966 : decode cL_law 966 = .ok (.invokevirtual 128, 3) := dall dgL_law_66 2 rfl
theorem dL_law_969 : decode cL_law 969 = .ok (.pop, 1) := dall dgL_law_66 3 rfl
theorem dL_law_970 : decode cL_law 970 = .ok (.goto 95, 3) := dall dgL_law_66 4 rfl
theorem dL_law_973 : decode cL_law 973 = .ok (.aload_n 1, 1) := dall dgL_law_66 5 rfl
theorem dL_law_974 : decode cL_law 974 = .ok (.aload_n 0, 1) := dall dgL_law_66 6 rfl
theorem dL_law_975 : decode cL_law 975 = .ok (.iload_n 3, 1) := dall dgL_law_66 7 rfl
theorem dL_law_976 : decode cL_law 976 = .ok (.iconst 1, 1) := dall dgL_law_66 8 rfl
theorem dL_law_977 : decode cL_law 977 = .ok (.iadd, 1) := dall dgL_law_66 9 rfl
def lgL_law_67 : List (Nat × Instr × Nat) := [(978, .iaload, 1), (979, .invokevirtual 129, 3), (982, .pop, 1), (983, .aload_n 2, 1), (984, .aload_n 0, 1), (985, .iload_n 3, 1), (986, .iconst 1, 1), (987, .iadd, 1), (988, .iaload, 1), (989, .invokevirtual 132, 3)]
theorem dgL_law_67 : ∀ q ∈ lgL_law_67, decode cL_law q.1 = .ok (q.2.1, q.2.2) := by decide +kernel
theorem dL_law_978 : decode cL_law 978 = .ok (.iaload, 1) := dall dgL_law_67 0 rfl
theorem dL_law_979 : decode cL_law 979 = .ok (.invokevirtual 129, 3) := dall dgL_law_67 1 rfl
theorem dL_law_982 : decode cL_law 982 = .ok (.pop, 1) := dall dgL_law_67 2 rfl
theorem dL_law_983 : decode cL_law 983 = .ok (.aload_n 2, 1) := dall dgL_law_67 3 rfl
theorem dL_law_984 : decode cL_law 984 = .ok (.aload_n 0, 1) := dall dgL_law_67 4 rfl
theorem dL_law_985 : decode cL_law 985 = .ok (.iload_n 3, 1) := dall dgL_law_67 5 rfl
theorem dL_law_986 : decode cL_law 986 = .ok (.iconst 1, 1) := dall dgL_law_67 6 rfl
theorem dL_law_987 : decode cL_law 987 = .ok (.iadd, 1) := dall dgL_law_67 7 rfl
theorem dL_law_988 : decode cL_law 988 = .ok (.iaload, 1) := dall dgL_law_67 8 rfl
theorem dL_law_989 : decode cL_law 989 = .ok (.invokevirtual 132, 3) := dall dgL_law_67 9 rfl
def lgL_law_68 : List (Nat × Instr × Nat) := [(992, .pop, 1), (993, .goto 72, 3), (996, .aload_n 1, 1), (997, .aload_n 0, 1), (998, .iload_n 3, 1), (999, .iconst 1, 1), (1000, .iadd, 1), (1001, .iaload, 1), (1002, .aload_n 0, 1), (1003, .iload_n 3, 1)]
theorem dgL_law_68 : ∀ q ∈ lgL_law_68, decode cL_law q.1 = .ok (q.2.1, q.2.2) := by decide +kernel
theorem dL_law_992 : decode cL_law 992 = .ok (.pop, 1) := dall dgL_law_68 0 rfl
theorem dL_law_993 : decode cL_law 993 = .ok (.goto 72, 3) := dall dgL_law_68 1 rfl
theorem dL_law_996 : decode cL_law 996 = .ok (.aload_n 1, 1) := dall dgL_law_68 2 rfl
theorem dL_law_997 : decode cL_law 997 = .ok (.aload_n 0, 1) := dall dgL_law_68 3 rfl
theorem dL_law_998 : decode cL_law 998 = .ok (.iload_n 3, 1) := dall dgL_law_68 4 rfl
theorem dL_law_999 : decode cL_law 999 = .ok (.iconst 1, 1) := dall dgL_law_68 5 rfl
theorem dL_law_1000 : decode cL_law 1000 = .ok (.iadd, 1) := dall dgL_law_68 6 rfl
theorem dL_law_1001 : decode cL_law 1001 = .ok (.iaload, 1) := dall dgL_law_68 7 rfl
theorem dL_law_1002 : decode cL_law 1002 = .ok (.aload_n 0, 1) := dall dgL_law_68 8 rfl
theorem dL_law_1003 : decode cL_law 1003 = .ok (.iload_n 3, 1) := dall dgL_law_68 9 rfl
def lgL_law_69 : List (Nat × Instr × Nat) := [(1004, .iconst 2, 1), (1005, .iadd, 1), (1006, .iaload, 1), (1007, .invokevirtual 133, 3), (1010, .pop, 1), (1011, .aload_n 2, 1), (1012, .aload_n 0, 1), (1013, .iload_n 3, 1), (1014, .iconst 1, 1), (1015, .iadd, 1)]
theorem dgL_law_69 : ∀ q ∈ lgL_law_69, decode cL_law q.1 = .ok (q.2.1, q.2.2) := by decide +kernel
theorem dL_law_1004 : decode cL_law 1004 = .ok (.iconst 2, 1) := dall dgL_law_69 0 rfl
theorem dL_law_1005 : decode cL_law 1005 = .ok (.iadd, 1) := dall dgL_law_69 1 rfl
theorem dL_law_1006 : decode cL_law 1006 = .ok (.iaload, 1) := dall dgL_law_69 2 rfl
theorem dL_law_1007 : decode cL_law 1007 = .ok (.invokevirtual 133, 3) := dall dgL_law_69 3 rfl
theorem dL_law_1010 : decode cL_law 1010 = .ok (.pop, 1) := dall dgL_law_69 4 rfl
theorem dL_law_1011 : decode cL_law 1011 = .ok (.aload_n 2, 1) := dall dgL_law_69 5 rfl
theorem dL_law_1012 : decode cL_law 1012 = .ok (.aload_n 0, 1) := dall dgL_law_69 6 rfl
theorem dL_law_1013 : decode cL_law 1013 = .ok (.iload_n 3, 1) := dall dgL_law_69 7 rfl
theorem dL_law_1014 : decode cL_law 1014 = .ok (.iconst 1, 1) := dall dgL_law_69 8 rfl
theorem dL_law_1015 : decode cL_law 1015 = .ok (.iadd, 1) := dall dgL_law_69 9 rfl
def lgL_law_70 : List (Nat × Instr × Nat) := [(1016, .iaload, 1), (1017, .aload_n 0, 1), (1018, .iload_n 3, 1), (1019, .iconst 2, 1), (1020, .iadd, 1), (1021, .iaload, 1), (1022, .invokevirtual 136, 3), (1025, .pop, 1), (1026, .goto 39, 3), (1029, .aload_n 1, 1)]
theorem dgL_law_70 : ∀ q ∈ lgL_law_70, decode cL_law q.1 = .ok (q.2.1, q.2.2) := by decide +kernel
theorem dL_law_1016 : decode cL_law 1016 = .ok (.iaload, 1) := dall dgL_law_70 0 rfl
theorem dL_law_1017 : decode cL_law 1017 = .ok (.aload_n 0, 1) := dall dgL_law_70 1 rfl
theorem dL_law_1018 : decode cL_law 1018 = .ok (.iload_n 3, 1) := dall dgL_law_70 2 rfl
theorem dL_law_1019 : decode cL_law 1019 = .ok (.iconst 2, 1) := dall dgL_law_70 3 rfl
theorem dL_law_1020 : decode cL_law 1020 = .ok (.iadd, 1) := dall dgL_law_70 4 rfl
theorem dL_law_1021 : decode cL_law 1021 = .ok (.iaload, 1) := dall dgL_law_70 5 rfl
theorem dL_law_1022 : decode cL_law 1022 = .ok (.invokevirtual 136, 3) := dall dgL_law_70 6 rfl
theorem dL_law_1025 : decode cL_law 1025 = .ok (.pop, 1) := dall dgL_law_70 7 rfl
theorem dL_law_1026 : decode cL_law 1026 = .ok (.goto 39, 3) := dall dgL_law_70 8 rfl
theorem dL_law_1029 : decode cL_law 1029 = .ok (.aload_n 1, 1) := dall dgL_law_70 9 rfl
def lgL_law_71 : List (Nat × Instr × Nat) := [(1030, .aload_n 0, 1), (1031, .iload_n 3, 1), (1032, .iconst 1, 1), (1033, .iadd, 1), (1034, .iaload, 1), (1035, .invokevirtual 137, 3), (1038, .aload_n 2, 1), (1039, .aload_n 0, 1), (1040, .iload_n 3, 1), (1041, .iconst 1, 1)]
theorem dgL_law_71 : ∀ q ∈ lgL_law_71, decode cL_law q.1 = .ok (q.2.1, q.2.2) := by decide +kernel
theorem dL_law_1030 : decode cL_law 1030 = .ok (.aload_n 0, 1) := dall dgL_law_71 0 rfl
theorem dL_law_1031 : decode cL_law 1031 = .ok (.iload_n 3, 1) := dall dgL_law_71 1 rfl
theorem dL_law_1032 : decode cL_law 1032 = .ok (.iconst 1, 1) := dall dgL_law_71 2 rfl
theorem dL_law_1033 : decode cL_law 1033 = .ok (.iadd, 1) := dall dgL_law_71 3 rfl
theorem dL_law_1034 : decode cL_law 1034 = .ok (.iaload, 1) := dall dgL_law_71 4 rfl
theorem dL_law_1035 : decode cL_law 1035 = .ok (.invokevirtual 137, 3) := dall dgL_law_71 5 rfl
theorem dL_law_1038 : decode cL_law 1038 = .ok (.aload_n 2, 1) := dall dgL_law_71 6 rfl
theorem dL_law_1039 : decode cL_law 1039 = .ok (.aload_n 0, 1) := dall dgL_law_71 7 rfl
theorem dL_law_1040 : decode cL_law 1040 = .ok (.iload_n 3, 1) := dall dgL_law_71 8 rfl
theorem dL_law_1041 : decode cL_law 1041 = .ok (.iconst 1, 1) := dall dgL_law_71 9 rfl
def lgL_law_72 : List (Nat × Instr × Nat) := [(1042, .iadd, 1), (1043, .iaload, 1), (1044, .invokevirtual 140, 3), (1047, .if_icmp .eq 18, 3), (1050, .iconst 0, 1), (1051, .ireturn, 1), (1052, .aload_n 1, 1), (1053, .invokevirtual 141, 3), (1056, .pop2, 1), (1057, .aload_n 2, 1)]
theorem dgL_law_72 : ∀ q ∈ lgL_law_72, decode cL_law q.1 = .ok (q.2.1, q.2.2) := by decide +kernel
theorem dL_law_1042 : decode cL_law 1042 = .ok (.iadd, 1) := dall dgL_law_72 0 rfl
theorem dL_law_1043 : decode cL_law 1043 = .ok (.iaload, 1) := dall dgL_law_72 1 rfl
theorem dL_law_1044 : decode cL_law 1044 = .ok (.invokevirtual 140, 3) := dall dgL_law_72 2 rfl
theorem dL_law_1047 : decode cL_law 1047 = .ok (.if_icmp .eq 18, 3) := dall dgL_law_72 3 rfl
theorem dL_law_1050 : decode cL_law 1050 = .ok (.iconst 0, 1) := dall dgL_law_72 4 rfl
theorem dL_law_1051 : decode cL_law 1051 = .ok (.ireturn, 1) := dall dgL_law_72 5 rfl
theorem dL_law_1052 : decode cL_law 1052 = .ok (.aload_n 1, 1) := dall dgL_law_72 6 rfl
theorem dL_law_1053 : decode cL_law 1053 = .ok (.invokevirtual 141, 3) := dall dgL_law_72 7 rfl
theorem dL_law_1056 : decode cL_law 1056 = .ok (.pop2, 1) := dall dgL_law_72 8 rfl
theorem dL_law_1057 : decode cL_law 1057 = .ok (.aload_n 2, 1) := dall dgL_law_72 9 rfl
def lgL_law_73 : List (Nat × Instr × Nat) := [(1058, .invokevirtual 145, 3), (1061, .pop2, 1), (1062, .goto 3, 3), (1065, .iinc 3 5, 3), (1068, .goto (-1050), 3), (1071, .iconst 1, 1), (1072, .ireturn, 1)]
theorem dgL_law_73 : ∀ q ∈ lgL_law_73, decode cL_law q.1 = .ok (q.2.1, q.2.2) := by decide +kernel
theorem dL_law_1058 : decode cL_law 1058 = .ok (.invokevirtual 145, 3) := dall dgL_law_73 0 rfl
theorem dL_law_1061 : decode cL_law 1061 = .ok (.pop2, 1) := dall dgL_law_73 1 rfl
theorem dL_law_1062 : decode cL_law 1062 = .ok (.goto 3, 3) := dall dgL_law_73 2 rfl
theorem dL_law_1065 : decode cL_law 1065 = .ok (.iinc 3 5, 3) := dall dgL_law_73 3 rfl
theorem dL_law_1068 : decode cL_law 1068 = .ok (.goto (-1050), 3) := dall dgL_law_73 4 rfl
theorem dL_law_1071 : decode cL_law 1071 = .ok (.iconst 1, 1) := dall dgL_law_73 5 rfl
theorem dL_law_1072 : decode cL_law 1072 = .ok (.ireturn, 1) := dall dgL_law_73 6 rfl
end
