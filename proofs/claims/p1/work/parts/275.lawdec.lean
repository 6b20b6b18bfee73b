theorem dgL_law_1 : (decode cL_law 0 = .ok (.new 7, 3)) ∧ (decode cL_law 3 = .ok (.dup, 1)) ∧ (decode cL_law 4 = .ok (.invokespecial 9, 3)) ∧ (decode cL_law 7 = .ok (.astore_n 1, 1)) ∧ (decode cL_law 8 = .ok (.new 10, 3)) ∧ (decode cL_law 11 = .ok (.dup, 1)) ∧ (decode cL_law 12 = .ok (.invokespecial 12, 3)) ∧ (decode cL_law 15 = .ok (.astore_n 2, 1)) ∧ (decode cL_law 16 = .ok (.iconst 0, 1)) ∧ (decode cL_law 17 = .ok (.istore_n 3, 1)) ∧ (decode cL_law 18 = .ok (.iload_n 3, 1)) ∧ (decode cL_law 19 = .ok (.aload_n 0, 1)) ∧ (decode cL_law 20 = .ok (.arraylength, 1)) ∧ (decode cL_law 21 = .ok (.iconst 5, 1)) ∧ (decode cL_law 22 = .ok (.isub, 1)) ∧ (decode cL_law 23 = .ok (.if_icmp .gt 1049, 3)) ∧ (decode cL_law 26 = .ok (.aload_n 0, 1)) ∧ (decode cL_law 27 = .ok (.iload_n 3, 1)) ∧ (decode cL_law 28 = .ok (.iaload, 1)) ∧ (decode cL_law 29 = .ok (.bipush 31, 2)) ∧ (decode cL_law 31 = .ok (.iand, 1)) ∧ (decode cL_law 32 = .ok (.tableswitch 1034 0 30 #[140, 203, 216, 229, 252, 305, 328, 371, 384, 407, 440, 463, 496, 529, 552, 575, 608, 641, 674, 707, 730, 763, 806, 819, 832, 865, 898, 941, 964, 997, 1020], 140)) ∧ (decode cL_law 172 = .ok (.aload_n 1, 1)) ∧ (decode cL_law 173 = .ok (.aload_n 0, 1)) ∧ (decode cL_law 174 = .ok (.iload_n 3, 1)) ∧ (decode cL_law 175 = .ok (.iconst 1, 1)) ∧ (decode cL_law 176 = .ok (.iadd, 1)) ∧ (decode cL_law 177 = .ok (.iaload, 1)) ∧ (decode cL_law 178 = .ok (.i2l, 1)) ∧ (decode cL_law 179 = .ok (.bipush 32, 2)) ∧ (decode cL_law 181 = .ok (.lshl, 1)) ∧ (decode cL_law 182 = .ok (.aload_n 0, 1)) ∧ (decode cL_law 183 = .ok (.iload_n 3, 1)) ∧ (decode cL_law 184 = .ok (.iconst 2, 1)) ∧ (decode cL_law 185 = .ok (.iadd, 1)) ∧ (decode cL_law 186 = .ok (.iaload, 1)) ∧ (decode cL_law 187 = .ok (.i2l, 1)) ∧ (decode cL_law 188 = .ok (.ldc2_w 13, 3)) ∧ (decode cL_law 191 = .ok (.land, 1)) ∧ (decode cL_law 192 = .ok (.lor, 1)) ∧ (decode cL_law 193 = .ok (.aload_n 0, 1)) ∧ (decode cL_law 194 = .ok (.iload_n 3, 1)) ∧ (decode cL_law 195 = .ok (.iconst 3, 1)) ∧ (decode cL_law 196 = .ok (.iadd, 1)) ∧ (decode cL_law 197 = .ok (.iaload, 1)) ∧ (decode cL_law 198 = .ok (.invokevirtual 15, 3)) ∧ (decode cL_law 201 = .ok (.aload_n 2, 1)) ∧ (decode cL_law 202 = .ok (.aload_n 0, 1)) ∧ (decode cL_law 203 = .ok (.iload_n 3, 1)) ∧ (decode cL_law 204 = .ok (.iconst 1, 1)) := by decide +kernel
theorem dL_law_0 : decode cL_law 0 = .ok (.new 7, 3) := dgL_law_1.1
theorem dL_law_3 : decode cL_law 3 = .ok (.dup, 1) := dgL_law_1.2.1
theorem dL_law_4 : decode cL_law 4 = .ok (.invokespecial 9, 3) := dgL_law_1.2.2.1
theorem dL_law_7 : decode cL_law 7 = .ok (.astore_n 1, 1) := dgL_law_1.2.2.2.1
theorem dL_law_8 : decode cL_law 8 = .ok (.new 10, 3) := dgL_law_1.2.2.2.2.1
theorem dL_law_11 : decode cL_law 11 = .ok (.dup, 1) := dgL_law_1.2.2.2.2.2.1
theorem dL_law_12 : decode cL_law 12 = .ok (.invokespecial 12, 3) := dgL_law_1.2.2.2.2.2.2.1
theorem dL_law_15 : decode cL_law 15 = .ok (.astore_n 2, 1) := dgL_law_1.2.2.2.2.2.2.2.1
theorem dL_law_16 : decode cL_law 16 = .ok (.iconst 0, 1) := dgL_law_1.2.2.2.2.2.2.2.2.1
theorem dL_law_17 : decode cL_law 17 = .ok (.istore_n 3, 1) := dgL_law_1.2.2.2.2.2.2.2.2.2.1
theorem dL_law_18 : decode cL_law 18 = .ok (.iload_n 3, 1) := dgL_law_1.2.2.2.2.2.2.2.2.2.2.1
theorem dL_law_19 : decode cL_law 19 = .ok (.aload_n 0, 1) := dgL_law_1.2.2.2.2.2.2.2.2.2.2.2.1
theorem dL_law_20 : decode cL_law 20 = .ok (.arraylength, 1) := dgL_law_1.2.2.2.2.2.2.2.2.2.2.2.2.1
theorem dL_law_21 : decode cL_law 21 = .ok (.iconst 5, 1) := dgL_law_1.2.2.2.2.2.2.2.2.2.2.2.2.2.1
theorem dL_law_22 : decode cL_law 22 = .ok (.isub, 1) := dgL_law_1.2.2.2.2.2.2.2.2.2.2.2.2.2.2.1
theorem dL_law_23 : decode cL_law 23 = .ok (.if_icmp .gt 1049, 3) := dgL_law_1.2.2.2.2.2.2.2.2.2.2.2.2.2.2.2.1
theorem dL_law_26 : decode cL_law 26 = .ok (.aload_n 0, 1) := dgL_law_1.2.2.2.2.2.2.2.2.2.2.2.2.2.2.2.2.1
theorem dL_law_27 : decode cL_law 27 = .ok (.iload_n 3, 1) := dgL_law_1.2.2.2.2.2.2.2.2.2.2.2.2.2.2.2.2.2.1
theorem dL_law_28 : decode cL_law 28 = .ok (.iaload, 1) := dgL_law_1.2.2.2.2.2.2.2.2.2.2.2.2.2.2.2.2.2.2.1
theorem dL_law_29 : decode cL_law 29 = .ok (.bipush 31, 2) := dgL_law_1.2.2.2.2.2.2.2.2.2.2.2.2.2.2.2.2.2.2.2.1
theorem dL_law_31 : decode cL_law 31 = .ok (.iand, 1) := dgL_law_1.2.2.2.2.2.2.2.2.2.2.2.2.2.2.2.2.2.2.2.2.1
theorem dL_law_32 : decode cL_law 32 = .ok (.tableswitch 1034 0 30 #[140, 203, 216, 229, 252, 305, 328, 371, 384, 407, 440, 463, 496, 529, 552, 575, 608, 641, 674, 707, 730, 763, 806, 819, 832, 865, 898, 941, 964, 997, 1020], 140) := dgL_law_1.2.2.2.2.2.2.2.2.2.2.2.2.2.2.2.2.2.2.2.2.2.1
theorem dL_law_172 : decode cL_law 172 = .ok (.aload_n 1, 1) := dgL_law_1.2.2.2.2.2.2.2.2.2.2.2.2.2.2.2.2.2.2.2.2.2.2.1
theorem dL_law_173 : decode cL_law 173 = .ok (.aload_n 0, 1) := dgL_law_1.2.2.2.2.2.2.2.2.2.2.2.2.2.2.2.2.2.2.2.2.2.2.2.1
theorem dL_law_174 : decode cL_law 174 = .ok (.iload_n 3, 1) := dgL_law_1.2.2.2.2.2.2.2.2.2.2.2.2.2.2.2.2.2.2.2.2.2.2.2.2.1
theorem dL_law_175 : decode cL_law 175 = .ok (.iconst 1, 1) := dgL_law_1.2.2.2.2.2.2.2.2.2.2.2.2.2.2.2.2.2.2.2.2.2.2.2.2.2.1
theorem dL_law_176 : decode cL_law 176 = .ok (.iadd, 1) := dgL_law_1.2.2.2.2.2.2.2.2.2.2.2.2.2.2.2.2.2.2.2.2.2.2.2.2.2.2.1
theorem dL_law_177 : decode cL_law 177 = .ok (.iaload, 1) := dgL_law_1.2.2.2.2.2.2.2.2.2.2.2.2.2.2.2.2.2.2.2.2.2.2.2.2.2.2.2.1
theorem dL_law_178 : decode cL_law 178 = .ok (.i2l, 1) := dgL_law_1.2.2.2.2.2.2.2.2.2.2.2.2.2.2.2.2.2.2.2.2.2.2.2.2.2.2.2.2.1
theorem dL_law_179 : decode cL_law 179 = .ok (.bipush 32, 2) := dgL_law_1.2.2.2.2.2.2.2.2.2.2.2.2.2.2.2.2.2.2.2.2.2.2.2.2.2.2.2.2.2.1
theorem dL_law_181 : decode cL_law 181 = .ok (.lshl, 1) := dgL_law_1.2.2.2.2.2.2.2.2.2.2.2.2.2.2.2.2.2.2.2.2.2.2.2.2.2.2.2.2.2.2.1
theorem dL_law_182 : decode cL_law 182 = .ok (.aload_n 0, 1) := dgL_law_1.2.2.2.2.2.2.2.2.2.2.2.2.2.2.2.2.2.2.2.2.2.2.2.2.2.2.2.2.2.2.2.1
theorem dL_law_183 : decode cL_law 183 = .ok (.iload_n 3, 1) := dgL_law_1.2.2.2.2.2.2.2.2.2.2.2.2.2.2.2.2.2.2.2.2.2.2.2.2.2.2.2.2.2.2.2.2.1
theorem dL_law_184 : decode cL_law 184 = .ok (.iconst 2, 1) := dgL_law_1.2.2.2.2.2.2.2.2.2.2.2.2.2.2.2.2.2.2.2.2.2.2.2.2.2.2.2.2.2.2.2.2.2.1
theorem dL_law_185 : decode cL_law 185 = .ok (.iadd, 1) := dgL_law_1.2.2.2.2.2.2.2.2.2.2.2.2.2.2.2.2.2.2.2.2.2.2.2.2.2.2.2.2.2.2.2.2.2.2.1
theorem dL_law_186 : decode cL_law 186 = .ok (.iaload, 1) := dgL_law_1.2.2.2.2.2.2.2.2.2.2.2.2.2.2.2.2.2.2.2.2.2.2.2.2.2.2.2.2.2.2.2.2.2.2.2.1
theorem dL_law_187 : decode cL_law 187 = .ok (.i2l, 1) := dgL_law_1.2.2.2.2.2.2.2.2.2.2.2.2.2.2.2.2.2.2.2.2.2.2.2.2.2.2.2.2.2.2.2.2.2.2.2.2.1
theorem dL_law_188 : decode cL_law 188 = .ok (.ldc2_w 13, 3) := dgL_law_1.2.2.2.2.2.2.2.2.2.2.2.2.2.2.2.2.2.2.2.2.2.2.2.2.2.2.2.2.2.2.2.2.2.2.2.2.2.1
theorem dL_law_191 : decode cL_law 191 = .ok (.land, 1) := dgL_law_1.2.2.2.2.2.2.2.2.2.2.2.2.2.2.2.2.2.2.2.2.2.2.2.2.2.2.2.2.2.2.2.2.2.2.2.2.2.2.1
theorem dL_law_192 : decode cL_law 192 = .ok (.lor, 1) := dgL_law_1.2.2.2.2.2.2.2.2.2.2.2.2.2.2.2.2.2.2.2.2.2.2.2.2.2.2.2.2.2.2.2.2.2.2.2.2.2.2.2.1
theorem dL_law_193 : decode cL_law 193 = .ok (.aload_n 0, 1) := dgL_law_1.2.2.2.2.2.2.2.2.2.2.2.2.2.2.2.2.2.2.2.2.2.2.2.2.2.2.2.2.2.2.2.2.2.2.2.2.2.2.2.2.1
theorem dL_law_194 : decode cL_law 194 = .ok (.iload_n 3, 1) := dgL_law_1.2.2.2.2.2.2.2.2.2.2.2.2.2.2.2.2.2.2.2.2.2.2.2.2.2.2.2.2.2.2.2.2.2.2.2.2.2.2.2.2.2.1
theorem dL_law_195 : decode cL_law 195 = .ok (.iconst 3, 1) := dgL_law_1.2.2.2.2.2.2.2.2.2.2.2.2.2.2.2.2.2.2.2.2.2.2.2.2.2.2.2.2.2.2.2.2.2.2.2.2.2.2.2.2.2.2.1
theorem dL_law_196 : decode cL_law 196 = .ok (.iadd, 1) := dgL_law_1.2.2.2.2.2.2.2.2.2.2.2.2.2.2.2.2.2.2.2.2.2.2.2.2.2.2.2.2.2.2.2.2.2.2.2.2.2.2.2.2.2.2.2.1
theorem dL_law_197 : decode cL_law 197 = .ok (.iaload, 1) := dgL_law_1.2.2.2.2.2.2.2.2.2.2.2.2.2.2.2.2.2.2.2.2.2.2.2.2.2.2.2.2.2.2.2.2.2.2.2.2.2.2.2.2.2.2.2.2.1
theorem dL_law_198 : decode cL_law 198 = .ok (.invokevirtual 15, 3) := dgL_law_1.2.2.2.2.2.2.2.2.2.2.2.2.2.2.2.2.2.2.2.2.2.2.2.2.2.2.2.2.2.2.2.2.2.2.2.2.2.2.2.2.2.2.2.2.2.1
theorem dL_law_201 : decode cL_law 201 = .ok (.aload_n 2, 1) := dgL_law_1.2.2.2.2.2.2.2.2.2.2.2.2.2.2.2.2.2.2.2.2.2.2.2.2.2.2.2.2.2.2.2.2.2.2.2.2.2.2.2.2.2.2.2.2.2.2.1
theorem dL_law_202 : decode cL_law 202 = .ok (.aload_n 0, 1) := dgL_law_1.2.2.2.2.2.2.2.2.2.2.2.2.2.2.2.2.2.2.2.2.2.2.2.2.2.2.2.2.2.2.2.2.2.2.2.2.2.2.2.2.2.2.2.2.2.2.2.1
theorem dL_law_203 : decode cL_law 203 = .ok (.iload_n 3, 1) := dgL_law_1.2.2.2.2.2.2.2.2.2.2.2.2.2.2.2.2.2.2.2.2.2.2.2.2.2.2.2.2.2.2.2.2.2.2.2.2.2.2.2.2.2.2.2.2.2.2.2.2.1
theorem dL_law_204 : decode cL_law 204 = .ok (.iconst 1, 1) := dgL_law_1.2.2.2.2.2.2.2.2.2.2.2.2.2.2.2.2.2.2.2.2.2.2.2.2.2.2.2.2.2.2.2.2.2.2.2.2.2.2.2.2.2.2.2.2.2.2.2.2.2
theorem dgL_law_2 : (decode cL_law 205 = .ok (.iadd, 1)) ∧ (decode cL_law 206 = .ok (.iaload, 1)) ∧ (decode cL_law 207 = .ok (.i2l, 1)) ∧ (decode cL_law 208 = .ok (.bipush 32, 2)) ∧ (decode cL_law 210 = .ok (.lshl, 1)) ∧ (decode cL_law 211 = .ok (.aload_n 0, 1)) ∧ (decode cL_law 212 = .ok (.iload_n 3, 1)) ∧ (decode cL_law 213 = .ok (.iconst 2, 1)) ∧ (decode cL_law 214 = .ok (.iadd, 1)) ∧ (decode cL_law 215 = .ok (.iaload, 1)) ∧ (decode cL_law 216 = .ok (.i2l, 1)) ∧ (decode cL_law 217 = .ok (.ldc2_w 13, 3)) ∧ (decode cL_law 220 = .ok (.land, 1)) ∧ (decode cL_law 221 = .ok (.lor, 1)) ∧ (decode cL_law 222 = .ok (.aload_n 0, 1)) ∧ (decode cL_law 223 = .ok (.iload_n 3, 1)) ∧ (decode cL_law 224 = .ok (.iconst 3, 1)) ∧ (decode cL_law 225 = .ok (.iadd, 1)) ∧ (decode cL_law 226 = .ok (.iaload, 1)) ∧ (decode cL_law 227 = .ok (.invokevirtual 19, 3)) ∧ (decode cL_law 230 = .ok (.if_icmp .eq 836, 3)) ∧ (decode cL_law 235 = .ok (.aload_n 1, 1)) ∧ (decode cL_law 236 = .ok (.invokevirtual 20, 3)) ∧ (decode cL_law 239 = .ok (.aload_n 2, 1)) ∧ (decode cL_law 240 = .ok (.invokevirtual 24, 3)) ∧ (decode cL_law 243 = .ok (.if_icmp .eq 823, 3)) ∧ (decode cL_law 248 = .ok (.aload_n 1, 1)) ∧ (decode cL_law 249 = .ok (.invokevirtual 25, 3)) ∧ (decode cL_law 252 = .ok (.aload_n 2, 1)) ∧ (decode cL_law 253 = .ok (.invokevirtual 28, 3)) ∧ (decode cL_law 256 = .ok (.if_icmp .eq 810, 3)) ∧ (decode cL_law 261 = .ok (.aload_n 1, 1)) ∧ (decode cL_law 262 = .ok (.aload_n 0, 1)) ∧ (decode cL_law 263 = .ok (.iload_n 3, 1)) ∧ (decode cL_law 264 = .ok (.iconst 1, 1)) ∧ (decode cL_law 265 = .ok (.iadd, 1)) ∧ (decode cL_law 266 = .ok (.iaload, 1)) ∧ (decode cL_law 267 = .ok (.invokevirtual 29, 3)) ∧ (decode cL_law 270 = .ok (.aload_n 2, 1)) ∧ (decode cL_law 271 = .ok (.aload_n 0, 1)) ∧ (decode cL_law 272 = .ok (.iload_n 3, 1)) ∧ (decode cL_law 273 = .ok (.iconst 1, 1)) ∧ (decode cL_law 274 = .ok (.iadd, 1)) ∧ (decode cL_law 275 = .ok (.iaload, 1)) ∧ (decode cL_law 276 = .ok (.invokevirtual 33, 3)) ∧ (decode cL_law 279 = .ok (.if_icmp .eq 787, 3)) ∧ (decode cL_law 284 = .ok (.aload_n 1, 1)) ∧ (decode cL_law 285 = .ok (.aload_n 0, 1)) ∧ (decode cL_law 286 = .ok (.iload_n 3, 1)) ∧ (decode cL_law 287 = .ok (.iconst 1, 1)) := by decide +kernel
theorem dL_law_205 : decode cL_law 205 = .ok (.iadd, 1) := dgL_law_2.1
theorem dL_law_206 : decode cL_law 206 = .ok (.iaload, 1) := dgL_law_2.2.1
theorem dL_law_207 : decode cL_law 207 = .ok (.i2l, 1) := dgL_law_2.2.2.1
theorem dL_law_208 : decode cL_law 208 = .ok (.bipush 32, 2) := dgL_law_2.2.2.2.1
theorem dL_law_210 : decode cL_law 210 = .ok (.lshl, 1) := dgL_law_2.2.2.2.2.1
theorem dL_law_211 : decode cL_law 211 = .ok (.aload_n 0, 1) := dgL_law_2.2.2.2.2.2.1
theorem dL_law_212 : decode cL_law 212 = .ok (.iload_n 3, 1) := dgL_law_2.2.2.2.2.2.2.1
theorem dL_law_213 : decode cL_law 213 = .ok (.iconst 2, 1) := dgL_law_2.2.2.2.2.2.2.2.1
theorem dL_law_214 : decode cL_law 214 = .ok (.iadd, 1) := dgL_law_2.2.2.2.2.2.2.2.2.1
theorem dL_law_215 : decode cL_law 215 = .ok (.iaload, 1) := dgL_law_2.2.2.2.2.2.2.2.2.2.1
theorem dL_law_216 : decode cL_law 216 = .ok (.i2l, 1) := dgL_law_2.2.2.2.2.2.2.2.2.2.2.1
theorem dL_law_217 : decode cL_law 217 = .ok (.ldc2_w 13, 3) := dgL_law_2.2.2.2.2.2.2.2.2.2.2.2.1
theorem dL_law_220 : decode cL_law 220 = .ok (.land, 1) := dgL_law_2.2.2.2.2.2.2.2.2.2.2.2.2.1
theorem dL_law_221 : decode cL_law 221 = .ok (.lor, 1) := dgL_law_2.2.2.2.2.2.2.2.2.2.2.2.2.2.1
theorem dL_law_222 : decode cL_law 222 = .ok (.aload_n 0, 1) := dgL_law_2.2.2.2.2.2.2.2.2.2.2.2.2.2.2.1
theorem dL_law_223 : decode cL_law 223 = .ok (.iload_n 3, 1) := dgL_law_2.2.2.2.2.2.2.2.2.2.2.2.2.2.2.2.1
theorem dL_law_224 : decode cL_law 224 = .ok (.iconst 3, 1) := dgL_law_2.2.2.2.2.2.2.2.2.2.2.2.2.2.2.2.2.1
theorem dL_law_225 : decode cL_law 225 = .ok (.iadd, 1) := dgL_law_2.2.2.2.2.2.2.2.2.2.2.2.2.2.2.2.2.2.1
theorem dL_law_226 : decode cL_law 226 = .ok (.iaload, 1) := dgL_law_2.2.2.2.2.2.2.2.2.2.2.2.2.2.2.2.2.2.2.1
theorem dL_law_227 : decode cL_law 227 = .ok (.invokevirtual 19, 3) := dgL_law_2.2.2.2.2.2.2.2.2.2.2.2.2.2.2.2.2.2.2.2.1
theorem dL_law_230 : decode cL_law 230 = .ok (.if_icmp .eq 836, 3) := dgL_law_2.2.2.2.2.2.2.2.2.2.2.2.2.2.2.2.2.2.2.2.2.1
theorem dL_law_235 : decode cL_law 235 = .ok (.aload_n 1, 1) := dgL_law_2.2.2.2.2.2.2.2.2.2.2.2.2.2.2.2.2.2.2.2.2.2.1
theorem dL_law_236 : decode cL_law 236 = .ok (.invokevirtual 20, 3) := dgL_law_2.2.2.2.2.2.2.2.2.2.2.2.2.2.2.2.2.2.2.2.2.2.2.1
theorem dL_law_239 : decode cL_law 239 = .ok (.aload_n 2, 1) := dgL_law_2.2.2.2.2.2.2.2.2.2.2.2.2.2.2.2.2.2.2.2.2.2.2.2.1
theorem dL_law_240 : decode cL_law 240 = .ok (.invokevirtual 24, 3) := dgL_law_2.2.2.2.2.2.2.2.2.2.2.2.2.2.2.2.2.2.2.2.2.2.2.2.2.1
theorem dL_law_243 : decode cL_law 243 = .ok (.if_icmp .eq 823, 3) := dgL_law_2.2.2.2.2.2.2.2.2.2.2.2.2.2.2.2.2.2.2.2.2.2.2.2.2.2.1
theorem dL_law_248 : decode cL_law 248 = .ok (.aload_n 1, 1) := dgL_law_2.2.2.2.2.2.2.2.2.2.2.2.2.2.2.2.2.2.2.2.2.2.2.2.2.2.2.1
theorem dL_law_249 : decode cL_law 249 = .ok (.invokevirtual 25, 3) := dgL_law_2.2.2.2.2.2.2.2.2.2.2.2.2.2.2.2.2.2.2.2.2.2.2.2.2.2.2.2.1
theorem dL_law_252 : decode cL_law 252 = .ok (.aload_n 2, 1) := dgL_law_2.2.2.2.2.2.2.2.2.2.2.2.2.2.2.2.2.2.2.2.2.2.2.2.2.2.2.2.2.1
theorem dL_law_253 : decode cL_law 253 = .ok (.invokevirtual 28, 3) := dgL_law_2.2.2.2.2.2.2.2.2.2.2.2.2.2.2.2.2.2.2.2.2.2.2.2.2.2.2.2.2.2.1
theorem dL_law_256 : decode cL_law 256 = .ok (.if_icmp .eq 810, 3) := dgL_law_2.2.2.2.2.2.2.2.2.2.2.2.2.2.2.2.2.2.2.2.2.2.2.2.2.2.2.2.2.2.2.1
theorem dL_law_261 : decode cL_law 261 = .ok (.aload_n 1, 1) := dgL_law_2.2.2.2.2.2.2.2.2.2.2.2.2.2.2.2.2.2.2.2.2.2.2.2.2.2.2.2.2.2.2.2.1
theorem dL_law_262 : decode cL_law 262 = .ok (.aload_n 0, 1) := dgL_law_2.2.2.2.2.2.2.2.2.2.2.2.2.2.2.2.2.2.2.2.2.2.2.2.2.2.2.2.2.2.2.2.2.1
theorem dL_law_263 : decode cL_law 263 = .ok (.iload_n 3, 1) := dgL_law_2.2.2.2.2.2.2.2.2.2.2.2.2.2.2.2.2.2.2.2.2.2.2.2.2.2.2.2.2.2.2.2.2.2.1
theorem dL_law_264 : decode cL_law 264 = .ok (.iconst 1, 1) := dgL_law_2.2.2.2.2.2.2.2.2.2.2.2.2.2.2.2.2.2.2.2.2.2.2.2.2.2.2.2.2.2.2.2.2.2.2.1
theorem dL_law_265 : decode cL_law 265 = .ok (.iadd, 1) := dgL_law_2.2.2.2.2.2.2.2.2.2.2.2.2.2.2.2.2.2.2.2.2.2.2.2.2.2.2.2.2.2.2.2.2.2.2.2.1
theorem dL_law_266 : decode cL_law 266 = .ok (.iaload, 1) := dgL_law_2.2.2.2.2.2.2.2.2.2.2.2.2.2.2.2.2.2.2.2.2.2.2.2.2.2.2.2.2.2.2.2.2.2.2.2.2.1
theorem dL_law_267 : decode cL_law 267 = .ok (.invokevirtual 29, 3) := dgL_law_2.2.2.2.2.2.2.2.2.2.2.2.2.2.2.2.2.2.2.2.2.2.2.2.2.2.2.2.2.2.2.2.2.2.2.2.2.2.1
theorem dL_law_270 : decode cL_law 270 = .ok (.aload_n 2, 1) := dgL_law_2.2.2.2.2.2.2.2.2.2.2.2.2.2.2.2.2.2.2.2.2.2.2.2.2.2.2.2.2.2.2.2.2.2.2.2.2.2.2.1
theorem dL_law_271 : decode cL_law 271 = .ok (.aload_n 0, 1) := dgL_law_2.2.2.2.2.2.2.2.2.2.2.2.2.2.2.2.2.2.2.2.2.2.2.2.2.2.2.2.2.2.2.2.2.2.2.2.2.2.2.2.1
theorem dL_law_272 : decode cL_law 272 = .ok (.iload_n 3, 1) := dgL_law_2.2.2.2.2.2.2.2.2.2.2.2.2.2.2.2.2.2.2.2.2.2.2.2.2.2.2.2.2.2.2.2.2.2.2.2.2.2.2.2.2.1
theorem dL_law_273 : decode cL_law 273 = .ok (.iconst 1, 1) := dgL_law_2.2.2.2.2.2.2.2.2.2.2.2.2.2.2.2.2.2.2.2.2.2.2.2.2.2.2.2.2.2.2.2.2.2.2.2.2.2.2.2.2.2.1
theorem dL_law_274 : decode cL_law 274 = .ok (.iadd, 1) := dgL_law_2.2.2.2.2.2.2.2.2.2.2.2.2.2.2.2.2.2.2.2.2.2.2.2.2.2.2.2.2.2.2.2.2.2.2.2.2.2.2.2.2.2.2.1
theorem dL_law_275 : decode cL_law 275 = .ok (.iaload, 1) := dgL_law_2.2.2.2.2.2.2.2.2.2.2.2.2.2.2.2.2.2.2.2.2.2.2.2.2.2.2.2.2.2.2.2.2.2.2.2.2.2.2.2.2.2.2.2.1
theorem dL_law_276 : decode cL_law 276 = .ok (.invokevirtual 33, 3) := dgL_law_2.2.2.2.2.2.2.2.2.2.2.2.2.2.2.2.2.2.2.2.2.2.2.2.2.2.2.2.2.2.2.2.2.2.2.2.2.2.2.2.2.2.2.2.2.1
theorem dL_law_279 : decode cL_law 279 = .ok (.if_icmp .eq 787, 3) := dgL_law_2.2.2.2.2.2.2.2.2.2.2.2.2.2.2.2.2.2.2.2.2.2.2.2.2.2.2.2.2.2.2.2.2.2.2.2.2.2.2.2.2.2.2.2.2.2.1
theorem dL_law_284 : decode cL_law 284 = .ok (.aload_n 1, 1) := dgL_law_2.2.2.2.2.2.2.2.2.2.2.2.2.2.2.2.2.2.2.2.2.2.2.2.2.2.2.2.2.2.2.2.2.2.2.2.2.2.2.2.2.2.2.2.2.2.2.1
theorem dL_law_285 : decode cL_law 285 = .ok (.aload_n 0, 1) := dgL_law_2.2.2.2.2.2.2.2.2.2.2.2.2.2.2.2.2.2.2.2.2.2.2.2.2.2.2.2.2.2.2.2.2.2.2.2.2.2.2.2.2.2.2.2.2.2.2.2.1
theorem dL_law_286 : decode cL_law 286 = .ok (.iload_n 3, 1) := dgL_law_2.2.2.2.2.2.2.2.2.2.2.2.2.2.2.2.2.2.2.2.2.2.2.2.2.2.2.2.2.2.2.2.2.2.2.2.2.2.2.2.2.2.2.2.2.2.2.2.2.1
theorem dL_law_287 : decode cL_law 287 = .ok (.iconst 1, 1) := dgL_law_2.2.2.2.2.2.2.2.2.2.2.2.2.2.2.2.2.2.2.2.2.2.2.2.2.2.2.2.2.2.2.2.2.2.2.2.2.2.2.2.2.2.2.2.2.2.2.2.2.2
theorem dgL_law_3 : (decode cL_law 288 = .ok (.iadd, 1)) ∧ (decode cL_law 289 = .ok (.iaload, 1)) ∧ (decode cL_law 290 = .ok (.aload_n 0, 1)) ∧ (decode cL_law 291 = .ok (.iload_n 3, 1)) ∧ (decode cL_law 292 = .ok (.iconst 2, 1)) ∧ (decode cL_law 293 = .ok (.iadd, 1)) ∧ (decode cL_law 294 = .ok (.iaload, 1)) ∧ (decode cL_law 295 = .ok (.aload_n 0, 1)) ∧ (decode cL_law 296 = .ok (.iload_n 3, 1)) ∧ (decode cL_law 297 = .ok (.iconst 3, 1)) ∧ (decode cL_law 298 = .ok (.iadd, 1)) ∧ (decode cL_law 299 = .ok (.iaload, 1)) ∧ (decode cL_law 300 = .ok (.aload_n 0, 1)) ∧ (decode cL_law 301 = .ok (.iload_n 3, 1)) ∧ (decode cL_law 302 = .ok (.iconst 4, 1)) ∧ (decode cL_law 303 = .ok (.iadd, 1)) ∧ (decode cL_law 304 = .ok (.iaload, 1)) ∧ (decode cL_law 305 = .ok (.invokevirtual 34, 3)) ∧ (decode cL_law 308 = .ok (.aload_n 2, 1)) ∧ (decode cL_law 309 = .ok (.aload_n 0, 1)) ∧ (decode cL_law 310 = .ok (.iload_n 3, 1)) ∧ (decode cL_law 311 = .ok (.iconst 1, 1)) ∧ (decode cL_law 312 = .ok (.iadd, 1)) ∧ (decode cL_law 313 = .ok (.iaload, 1)) ∧ (decode cL_law 314 = .ok (.aload_n 0, 1)) ∧ (decode cL_law 315 = .ok (.iload_n 3, 1)) ∧ (decode cL_law 316 = .ok (.iconst 2, 1)) ∧ (decode cL_law 317 = .ok (.iadd, 1)) ∧ (decode cL_law 318 = .ok (.iaload, 1)) ∧ (decode cL_law 319 = .ok (.aload_n 0, 1)) ∧ (decode cL_law 320 = .ok (.iload_n 3, 1)) ∧ (decode cL_law 321 = .ok (.iconst 3, 1)) ∧ (decode cL_law 322 = .ok (.iadd, 1)) ∧ (decode cL_law 323 = .ok (.iaload, 1)) ∧ (decode cL_law 324 = .ok (.aload_n 0, 1)) ∧ (decode cL_law 325 = .ok (.iload_n 3, 1)) ∧ (decode cL_law 326 = .ok (.iconst 4, 1)) ∧ (decode cL_law 327 = .ok (.iadd, 1)) ∧ (decode cL_law 328 = .ok (.iaload, 1)) ∧ (decode cL_law 329 = .ok (.invokevirtual 38, 3)) ∧ (decode cL_law 332 = .ok (.if_icmp .eq 734, 3)) ∧ (decode cL_law 337 = .ok (.aload_n 1, 1)) ∧ (decode cL_law 338 = .ok (.aload_n 0, 1)) ∧ (decode cL_law 339 = .ok (.iload_n 3, 1)) ∧ (decode cL_law 340 = .ok (.iconst 1, 1)) ∧ (decode cL_law 341 = .ok (.iadd, 1)) ∧ (decode cL_law 342 = .ok (.iaload, 1)) ∧ (decode cL_law 343 = .ok (.invokevirtual 39, 3)) ∧ (decode cL_law 346 = .ok (.aload_n 2, 1)) ∧ (decode cL_law 347 = .ok (.aload_n 0, 1)) := by decide +kernel
theorem dL_law_288 : decode cL_law 288 = .ok (.iadd, 1) := dgL_law_3.1
theorem dL_law_289 : decode cL_law 289 = .ok (.iaload, 1) := dgL_law_3.2.1
theorem dL_law_290 : decode cL_law 290 = .ok (.aload_n 0, 1) := dgL_law_3.2.2.1
theorem dL_law_291 : decode cL_law 291 = .ok (.iload_n 3, 1) := dgL_law_3.2.2.2.1
theorem dL_law_292 : decode cL_law 292 = .ok (.iconst 2, 1) := dgL_law_3.2.2.2.2.1
theorem dL_law_293 : decode cL_law 293 = .ok (.iadd, 1) := dgL_law_3.2.2.2.2.2.1
theorem dL_law_294 : decode cL_law 294 = .ok (.iaload, 1) := dgL_law_3.2.2.2.2.2.2.1
theorem dL_law_295 : decode cL_law 295 = .ok (.aload_n 0, 1) := dgL_law_3.2.2.2.2.2.2.2.1
theorem dL_law_296 : decode cL_law 296 = .ok (.iload_n 3, 1) := dgL_law_3.2.2.2.2.2.2.2.2.1
theorem dL_law_297 : decode cL_law 297 = .ok (.iconst 3, 1) := dgL_law_3.2.2.2.2.2.2.2.2.2.1
theorem dL_law_298 : decode cL_law 298 = .ok (.iadd, 1) := dgL_law_3.2.2.2.2.2.2.2.2.2.2.1
theorem dL_law_299 : decode cL_law 299 = .ok (.iaload, 1) := dgL_law_3.2.2.2.2.2.2.2.2.2.2.2.1
theorem dL_law_300 : decode cL_law 300 = .ok (.aload_n 0, 1) := dgL_law_3.2.2.2.2.2.2.2.2.2.2.2.2.1
theorem dL_law_301 : decode cL_law 301 = .ok (.iload_n 3, 1) := dgL_law_3.2.2.2.2.2.2.2.2.2.2.2.2.2.1
theorem dL_law_302 : decode cL_law 302 = .ok (.iconst 4, 1) := dgL_law_3.2.2.2.2.2.2.2.2.2.2.2.2.2.2.1
theorem dL_law_303 : decode cL_law 303 = .ok (.iadd, 1) := dgL_law_3.2.2.2.2.2.2.2.2.2.2.2.2.2.2.2.1
theorem dL_law_304 : decode cL_law 304 = .ok (.iaload, 1) := dgL_law_3.2.2.2.2.2.2.2.2.2.2.2.2.2.2.2.2.1
theorem dL_law_305 : decode cL_law 305 = .ok (.invokevirtual 34, 3) := dgL_law_3.2.2.2.2.2.2.2.2.2.2.2.2.2.2.2.2.2.1
theorem dL_law_308 : decode cL_law 308 = .ok (.aload_n 2, 1) := dgL_law_3.2.2.2.2.2.2.2.2.2.2.2.2.2.2.2.2.2.2.1
theorem dL_law_309 : decode cL_law 309 = .ok (.aload_n 0, 1) := dgL_law_3.2.2.2.2.2.2.2.2.2.2.2.2.2.2.2.2.2.2.2.1
theorem dL_law_310 : decode cL_law 310 = .ok (.iload_n 3, 1) := dgL_law_3.2.2.2.2.2.2.2.2.2.2.2.2.2.2.2.2.2.2.2.2.1
theorem dL_law_311 : decode cL_law 311 = .ok (.iconst 1, 1) := dgL_law_3.2.2.2.2.2.2.2.2.2.2.2.2.2.2.2.2.2.2.2.2.2.1
theorem dL_law_312 : decode cL_law 312 = .ok (.iadd, 1) := dgL_law_3.2.2.2.2.2.2.2.2.2.2.2.2.2.2.2.2.2.2.2.2.2.2.1
theorem dL_law_313 : decode cL_law 313 = .ok (.iaload, 1) := dgL_law_3.2.2.2.2.2.2.2.2.2.2.2.2.2.2.2.2.2.2.2.2.2.2.2.1
theorem dL_law_314 : decode cL_law 314 = .ok (.aload_n 0, 1) := dgL_law_3.2.2.2.2.2.2.2.2.2.2.2.2.2.2.2.2.2.2.2.2.2.2.2.2.1
theorem dL_law_315 : decode cL_law 315 = .ok (.iload_n 3, 1) := dgL_law_3.2.2.2.2.2.2.2.2.2.2.2.2.2.2.2.2.2.2.2.2.2.2.2.2.2.1
theorem dL_law_316 : decode cL_law 316 = .ok (.iconst 2, 1) := dgL_law_3.2.2.2.2.2.2.2.2.2.2.2.2.2.2.2.2.2.2.2.2.2.2.2.2.2.2.1
theorem dL_law_317 : decode cL_law 317 = .ok (.iadd, 1) := dgL_law_3.2.2.2.2.2.2.2.2.2.2.2.2.2.2.2.2.2.2.2.2.2.2.2.2.2.2.2.1
theorem dL_law_318 : decode cL_law 318 = .ok (.iaload, 1) := dgL_law_3.2.2.2.2.2.2.2.2.2.2.2.2.2.2.2.2.2.2.2.2.2.2.2.2.2.2.2.2.1
theorem dL_law_319 : decode cL_law 319 = .ok (.aload_n 0, 1) := dgL_law_3.2.2.2.2.2.2.2.2.2.2.2.2.2.2.2.2.2.2.2.2.2.2.2.2.2.2.2.2.2.1
theorem dL_law_320 : decode cL_law 320 = .ok (.iload_n 3, 1) := dgL_law_3.2.2.2.2.2.2.2.2.2.2.2.2.2.2.2.2.2.2.2.2.2.2.2.2.2.2.2.2.2.2.1
theorem dL_law_321 : decode cL_law 321 = .ok (.iconst 3, 1) := dgL_law_3.2.2.2.2.2.2.2.2.2.2.2.2.2.2.2.2.2.2.2.2.2.2.2.2.2.2.2.2.2.2.2.1
theorem dL_law_322 : decode cL_law 322 = .ok (.iadd, 1) := dgL_law_3.2.2.2.2.2.2.2.2.2.2.2.2.2.2.2.2.2.2.2.2.2.2.2.2.2.2.2.2.2.2.2.2.1
theorem dL_law_323 : decode cL_law 323 = .ok (.iaload, 1) := dgL_law_3.2.2.2.2.2.2.2.2.2.2.2.2.2.2.2.2.2.2.2.2.2.2.2.2.2.2.2.2.2.2.2.2.2.1
theorem dL_law_324 : decode cL_law 324 = .ok (.aload_n 0, 1) := dgL_law_3.2.2.2.2.2.2.2.2.2.2.2.2.2.2.2.2.2.2.2.2.2.2.2.2.2.2.2.2.2.2.2.2.2.2.1
theorem dL_law_325 : decode cL_law 325 = .ok (.iload_n 3, 1) := dgL_law_3.2.2.2.2.2.2.2.2.2.2.2.2.2.2.2.2.2.2.2.2.2.2.2.2.2.2.2.2.2.2.2.2.2.2.2.1
theorem dL_law_326 : decode cL_law 326 = .ok (.iconst 4, 1) := dgL_law_3.2.2.2.2.2.2.2.2.2.2.2.2.2.2.2.2.2.2.2.2.2.2.2.2.2.2.2.2.2.2.2.2.2.2.2.2.1
theorem dL_law_327 : decode cL_law 327 = .ok (.iadd, 1) := dgL_law_3.2.2.2.2.2.2.2.2.2.2.2.2.2.2.2.2.2.2.2.2.2.2.2.2.2.2.2.2.2.2.2.2.2.2.2.2.2.1
theorem dL_law_328 : decode cL_law 328 = .ok (.iaload, 1) := dgL_law_3.2.2.2.2.2.2.2.2.2.2.2.2.2.2.2.2.2.2.2.2.2.2.2.2.2.2.2.2.2.2.2.2.2.2.2.2.2.2.1
theorem dL_law_329 : decode cL_law 329 = .ok (.invokevirtual 38, 3) := dgL_law_3.2.2.2.2.2.2.2.2.2.2.2.2.2.2.2.2.2.2.2.2.2.2.2.2.2.2.2.2.2.2.2.2.2.2.2.2.2.2.2.1
theorem dL_law_332 : decode cL_law 332 = .ok (.if_icmp .eq 734, 3) := dgL_law_3.2.2.2.2.2.2.2.2.2.2.2.2.2.2.2.2.2.2.2.2.2.2.2.2.2.2.2.2.2.2.2.2.2.2.2.2.2.2.2.2.1
theorem dL_law_337 : decode cL_law 337 = .ok (.aload_n 1, 1) := dgL_law_3.2.2.2.2.2.2.2.2.2.2.2.2.2.2.2.2.2.2.2.2.2.2.2.2.2.2.2.2.2.2.2.2.2.2.2.2.2.2.2.2.2.1
theorem dL_law_338 : decode cL_law 338 = .ok (.aload_n 0, 1) := dgL_law_3.2.2.2.2.2.2.2.2.2.2.2.2.2.2.2.2.2.2.2.2.2.2.2.2.2.2.2.2.2.2.2.2.2.2.2.2.2.2.2.2.2.2.1
theorem dL_law_339 : decode cL_law 339 = .ok (.iload_n 3, 1) := dgL_law_3.2.2.2.2.2.2.2.2.2.2.2.2.2.2.2.2.2.2.2.2.2.2.2.2.2.2.2.2.2.2.2.2.2.2.2.2.2.2.2.2.2.2.2.1
theorem dL_law_340 : decode cL_law 340 = .ok (.iconst 1, 1) := dgL_law_3.2.2.2.2.2.2.2.2.2.2.2.2.2.2.2.2.2.2.2.2.2.2.2.2.2.2.2.2.2.2.2.2.2.2.2.2.2.2.2.2.2.2.2.2.1
theorem dL_law_341 : decode cL_law 341 = .ok (.iadd, 1) := dgL_law_3.2.2.2.2.2.2.2.2.2.2.2.2.2.2.2.2.2.2.2.2.2.2.2.2.2.2.2.2.2.2.2.2.2.2.2.2.2.2.2.2.2.2.2.2.2.1
theorem dL_law_342 : decode cL_law 342 = .ok (.iaload, 1) := dgL_law_3.2.2.2.2.2.2.2.2.2.2.2.2.2.2.2.2.2.2.2.2.2.2.2.2.2.2.2.2.2.2.2.2.2.2.2.2.2.2.2.2.2.2.2.2.2.2.1
theorem dL_law_343 : decode cL_law 343 = .ok (.invokevirtual 39, 3) := dgL_law_3.2.2.2.2.2.2.2.2.2.2.2.2.2.2.2.2.2.2.2.2.2.2.2.2.2.2.2.2.2.2.2.2.2.2.2.2.2.2.2.2.2.2.2.2.2.2.2.1
theorem dL_law_346 : decode cL_law 346 = .ok (.aload_n 2, 1) := dgL_law_3.2.2.2.2.2.2.2.2.2.2.2.2.2.2.2.2.2.2.2.2.2.2.2.2.2.2.2.2.2.2.2.2.2.2.2.2.2.2.2.2.2.2.2.2.2.2.2.2.1
theorem dL_law_347 : decode cL_law 347 = .ok (.aload_n 0, 1) := dgL_law_3.2.2.2.2.2.2.2.2.2.2.2.2.2.2.2.2.2.2.2.2.2.2.2.2.2.2.2.2.2.2.2.2.2.2.2.2.2.2.2.2.2.2.2.2.2.2.2.2.2
theorem dgL_law_4 : (decode cL_law 348 = .ok (.iload_n 3, 1)) ∧ (decode cL_law 349 = .ok (.iconst 1, 1)) ∧ (decode cL_law 350 = .ok (.iadd, 1)) ∧ (decode cL_law 351 = .ok (.iaload, 1)) ∧ (decode cL_law 352 = .ok (.invokevirtual 42, 3)) ∧ (decode cL_law 355 = .ok (.if_icmp .eq 711, 3)) ∧ (decode cL_law 360 = .ok (.aload_n 1, 1)) ∧ (decode cL_law 361 = .ok (.aload_n 0, 1)) ∧ (decode cL_law 362 = .ok (.iload_n 3, 1)) ∧ (decode cL_law 363 = .ok (.iconst 1, 1)) ∧ (decode cL_law 364 = .ok (.iadd, 1)) ∧ (decode cL_law 365 = .ok (.iaload, 1)) ∧ (decode cL_law 366 = .ok (.aload_n 0, 1)) ∧ (decode cL_law 367 = .ok (.iload_n 3, 1)) ∧ (decode cL_law 368 = .ok (.iconst 2, 1)) ∧ (decode cL_law 369 = .ok (.iadd, 1)) ∧ (decode cL_law 370 = .ok (.iaload, 1)) ∧ (decode cL_law 371 = .ok (.aload_n 0, 1)) ∧ (decode cL_law 372 = .ok (.iload_n 3, 1)) ∧ (decode cL_law 373 = .ok (.iconst 3, 1)) ∧ (decode cL_law 374 = .ok (.iadd, 1)) ∧ (decode cL_law 375 = .ok (.iaload, 1)) ∧ (decode cL_law 376 = .ok (.invokevirtual 43, 3)) ∧ (decode cL_law 379 = .ok (.aload_n 2, 1)) ∧ (decode cL_law 380 = .ok (.aload_n 0, 1)) ∧ (decode cL_law 381 = .ok (.iload_n 3, 1)) ∧ (decode cL_law 382 = .ok (.iconst 1, 1)) ∧ (decode cL_law 383 = .ok (.iadd, 1)) ∧ (decode cL_law 384 = .ok (.iaload, 1)) ∧ (decode cL_law 385 = .ok (.aload_n 0, 1)) ∧ (decode cL_law 386 = .ok (.iload_n 3, 1)) ∧ (decode cL_law 387 = .ok (.iconst 2, 1)) ∧ (decode cL_law 388 = .ok (.iadd, 1)) ∧ (decode cL_law 389 = .ok (.iaload, 1)) ∧ (decode cL_law 390 = .ok (.aload_n 0, 1)) ∧ (decode cL_law 391 = .ok (.iload_n 3, 1)) ∧ (decode cL_law 392 = .ok (.iconst 3, 1)) ∧ (decode cL_law 393 = .ok (.iadd, 1)) ∧ (decode cL_law 394 = .ok (.iaload, 1)) ∧ (decode cL_law 395 = .ok (.invokevirtual 47, 3)) ∧ (decode cL_law 398 = .ok (.if_icmp .eq 668, 3)) ∧ (decode cL_law 403 = .ok (.aload_n 1, 1)) ∧ (decode cL_law 404 = .ok (.invokevirtual 48, 3)) ∧ (decode cL_law 407 = .ok (.aload_n 2, 1)) ∧ (decode cL_law 408 = .ok (.invokevirtual 51, 3)) ∧ (decode cL_law 411 = .ok (.if_icmp .eq 655, 3)) ∧ (decode cL_law 416 = .ok (.aload_n 1, 1)) ∧ (decode cL_law 417 = .ok (.aload_n 0, 1)) ∧ (decode cL_law 418 = .ok (.iload_n 3, 1)) ∧ (decode cL_law 419 = .ok (.iconst 1, 1)) := by decide +kernel
theorem dL_law_348 : decode cL_law 348 = .ok (.iload_n 3, 1) := dgL_law_4.1
theorem dL_law_349 : decode cL_law 349 = .ok (.iconst 1, 1) := dgL_law_4.2.1
theorem dL_law_350 : decode cL_law 350 = .ok (.iadd, 1) := dgL_law_4.2.2.1
theorem dL_law_351 : decode cL_law 351 = .ok (.iaload, 1) := dgL_law_4.2.2.2.1
theorem dL_law_352 : decode cL_law 352 = .ok (.invokevirtual 42, 3) := dgL_law_4.2.2.2.2.1
theorem dL_law_355 : decode cL_law 355 = .ok (.if_icmp .eq 711, 3) := dgL_law_4.2.2.2.2.2.1
theorem dL_law_360 : decode cL_law 360 = .ok (.aload_n 1, 1) := dgL_law_4.2.2.2.2.2.2.1
theorem dL_law_361 : decode cL_law 361 = .ok (.aload_n 0, 1) := dgL_law_4.2.2.2.2.2.2.2.1
theorem dL_law_362 : decode cL_law 362 = .ok (.iload_n 3, 1) := dgL_law_4.2.2.2.2.2.2.2.2.1
theorem dL_law_363 : decode cL_law 363 = .ok (.iconst 1, 1) := dgL_law_4.2.2.2.2.2.2.2.2.2.1
theorem dL_law_364 : decode cL_law 364 = .ok (.iadd, 1) := dgL_law_4.2.2.2.2.2.2.2.2.2.2.1
theorem dL_law_365 : decode cL_law 365 = .ok (.iaload, 1) := dgL_law_4.2.2.2.2.2.2.2.2.2.2.2.1
theorem dL_law_366 : decode cL_law 366 = .ok (.aload_n 0, 1) := dgL_law_4.2.2.2.2.2.2.2.2.2.2.2.2.1
theorem dL_law_367 : decode cL_law 367 = .ok (.iload_n 3, 1) := dgL_law_4.2.2.2.2.2.2.2.2.2.2.2.2.2.1
theorem dL_law_368 : decode cL_law 368 = .ok (.iconst 2, 1) := dgL_law_4.2.2.2.2.2.2.2.2.2.2.2.2.2.2.1
theorem dL_law_369 : decode cL_law 369 = .ok (.iadd, 1) := dgL_law_4.2.2.2.2.2.2.2.2.2.2.2.2.2.2.2.1
theorem dL_law_370 : decode cL_law 370 = .ok (.iaload, 1) := dgL_law_4.2.2.2.2.2.2.2.2.2.2.2.2.2.2.2.2.1
theorem dL_law_371 : decode cL_law 371 = .ok (.aload_n 0, 1) := dgL_law_4.2.2.2.2.2.2.2.2.2.2.2.2.2.2.2.2.2.1
theorem dL_law_372 : decode cL_law 372 = .ok (.iload_n 3, 1) := dgL_law_4.2.2.2.2.2.2.2.2.2.2.2.2.2.2.2.2.2.2.1
theorem dL_law_373 : decode cL_law 373 = .ok (.iconst 3, 1) := dgL_law_4.2.2.2.2.2.2.2.2.2.2.2.2.2.2.2.2.2.2.2.1
theorem dL_law_374 : decode cL_law 374 = .ok (.iadd, 1) := dgL_law_4.2.2.2.2.2.2.2.2.2.2.2.2.2.2.2.2.2.2.2.2.1
theorem dL_law_375 : decode cL_law 375 = .ok (.iaload, 1) := dgL_law_4.2.2.2.2.2.2.2.2.2.2.2.2.2.2.2.2.2.2.2.2.2.1
theorem dL_law_376 : decode cL_law 376 = .ok (.invokevirtual 43, 3) := dgL_law_4.2.2.2.2.2.2.2.2.2.2.2.2.2.2.2.2.2.2.2.2.2.2.1
theorem dL_law_379 : decode cL_law 379 = .ok (.aload_n 2, 1) := dgL_law_4.2.2.2.2.2.2.2.2.2.2.2.2.2.2.2.2.2.2.2.2.2.2.2.1
theorem dL_law_380 : decode cL_law 380 = .ok (.aload_n 0, 1) := dgL_law_4.2.2.2.2.2.2.2.2.2.2.2.2.2.2.2.2.2.2.2.2.2.2.2.2.1
theorem dL_law_381 : decode cL_law 381 = .ok (.iload_n 3, 1) := dgL_law_4.2.2.2.2.2.2.2.2.2.2.2.2.2.2.2.2.2.2.2.2.2.2.2.2.2.1
theorem dL_law_382 : decode cL_law 382 = .ok (.iconst 1, 1) := dgL_law_4.2.2.2.2.2.2.2.2.2.2.2.2.2.2.2.2.2.2.2.2.2.2.2.2.2.2.1
theorem dL_law_383 : decode cL_law 383 = .ok (.iadd, 1) := dgL_law_4.2.2.2.2.2.2.2.2.2.2.2.2.2.2.2.2.2.2.2.2.2.2.2.2.2.2.2.1
theorem dL_law_384 : decode cL_law 384 = .ok (.iaload, 1) := dgL_law_4.2.2.2.2.2.2.2.2.2.2.2.2.2.2.2.2.2.2.2.2.2.2.2.2.2.2.2.2.1
theorem dL_law_385 : decode cL_law 385 = .ok (.aload_n 0, 1) := dgL_law_4.2.2.2.2.2.2.2.2.2.2.2.2.2.2.2.2.2.2.2.2.2.2.2.2.2.2.2.2.2.1
theorem dL_law_386 : decode cL_law 386 = .ok (.iload_n 3, 1) := dgL_law_4.2.2.2.2.2.2.2.2.2.2.2.2.2.2.2.2.2.2.2.2.2.2.2.2.2.2.2.2.2.2.1
theorem dL_law_387 : decode cL_law 387 = .ok (.iconst 2, 1) := dgL_law_4.2.2.2.2.2.2.2.2.2.2.2.2.2.2.2.2.2.2.2.2.2.2.2.2.2.2.2.2.2.2.2.1
theorem dL_law_388 : decode cL_law 388 = .ok (.iadd, 1) := dgL_law_4.2.2.2.2.2.2.2.2.2.2.2.2.2.2.2.2.2.2.2.2.2.2.2.2.2.2.2.2.2.2.2.2.1
theorem dL_law_389 : decode cL_law 389 = .ok (.iaload, 1) := dgL_law_4.2.2.2.2.2.2.2.2.2.2.2.2.2.2.2.2.2.2.2.2.2.2.2.2.2.2.2.2.2.2.2.2.2.1
theorem dL_law_390 : decode cL_law 390 = .ok (.aload_n 0, 1) := dgL_law_4.2.2.2.2.2.2.2.2.2.2.2.2.2.2.2.2.2.2.2.2.2.2.2.2.2.2.2.2.2.2.2.2.2.2.1
theorem dL_law_391 : decode cL_law 391 = .ok (.iload_n 3, 1) := dgL_law_4.2.2.2.2.2.2.2.2.2.2.2.2.2.2.2.2.2.2.2.2.2.2.2.2.2.2.2.2.2.2.2.2.2.2.2.1
theorem dL_law_392 : decode cL_law 392 = .ok (.iconst 3, 1) := dgL_law_4.2.2.2.2.2.2.2.2.2.2.2.2.2.2.2.2.2.2.2.2.2.2.2.2.2.2.2.2.2.2.2.2.2.2.2.2.1
theorem dL_law_393 : decode cL_law 393 = .ok (.iadd, 1) := dgL_law_4.2.2.2.2.2.2.2.2.2.2.2.2.2.2.2.2.2.2.2.2.2.2.2.2.2.2.2.2.2.2.2.2.2.2.2.2.2.1
theorem dL_law_394 : decode cL_law 394 = .ok (.iaload, 1) := dgL_law_4.2.2.2.2.2.2.2.2.2.2.2.2.2.2.2.2.2.2.2.2.2.2.2.2.2.2.2.2.2.2.2.2.2.2.2.2.2.2.1
theorem dL_law_395 : decode cL_law 395 = .ok (.invokevirtual 47, 3) := dgL_law_4.2.2.2.2.2.2.2.2.2.2.2.2.2.2.2.2.2.2.2.2.2.2.2.2.2.2.2.2.2.2.2.2.2.2.2.2.2.2.2.1
theorem dL_law_398 : decode cL_law 398 = .ok (.if_icmp .eq 668, 3) := dgL_law_4.2.2.2.2.2.2.2.2.2.2.2.2.2.2.2.2.2.2.2.2.2.2.2.2.2.2.2.2.2.2.2.2.2.2.2.2.2.2.2.2.1
theorem dL_law_403 : decode cL_law 403 = .ok (.aload_n 1, 1) := dgL_law_4.2.2.2.2.2.2.2.2.2.2.2.2.2.2.2.2.2.2.2.2.2.2.2.2.2.2.2.2.2.2.2.2.2.2.2.2.2.2.2.2.2.1
theorem dL_law_404 : decode cL_law 404 = .ok (.invokevirtual 48, 3) := dgL_law_4.2.2.2.2.2.2.2.2.2.2.2.2.2.2.2.2.2.2.2.2.2.2.2.2.2.2.2.2.2.2.2.2.2.2.2.2.2.2.2.2.2.2.1
theorem dL_law_407 : decode cL_law 407 = .ok (.aload_n 2, 1) := dgL_law_4.2.2.2.2.2.2.2.2.2.2.2.2.2.2.2.2.2.2.2.2.2.2.2.2.2.2.2.2.2.2.2.2.2.2.2.2.2.2.2.2.2.2.2.1
theorem dL_law_408 : decode cL_law 408 = .ok (.invokevirtual 51, 3) := dgL_law_4.2.2.2.2.2.2.2.2.2.2.2.2.2.2.2.2.2.2.2.2.2.2.2.2.2.2.2.2.2.2.2.2.2.2.2.2.2.2.2.2.2.2.2.2.1
theorem dL_law_411 : decode cL_law 411 = .ok (.if_icmp .eq 655, 3) := dgL_law_4.2.2.2.2.2.2.2.2.2.2.2.2.2.2.2.2.2.2.2.2.2.2.2.2.2.2.2.2.2.2.2.2.2.2.2.2.2.2.2.2.2.2.2.2.2.1
theorem dL_law_416 : decode cL_law 416 = .ok (.aload_n 1, 1) := dgL_law_4.2.2.2.2.2.2.2.2.2.2.2.2.2.2.2.2.2.2.2.2.2.2.2.2.2.2.2.2.2.2.2.2.2.2.2.2.2.2.2.2.2.2.2.2.2.2.1
theorem dL_law_417 : decode cL_law 417 = .ok (.aload_n 0, 1) := dgL_law_4.2.2.2.2.2.2.2.2.2.2.2.2.2.2.2.2.2.2.2.2.2.2.2.2.2.2.2.2.2.2.2.2.2.2.2.2.2.2.2.2.2.2.2.2.2.2.2.1
theorem dL_law_418 : decode cL_law 418 = .ok (.iload_n 3, 1) := dgL_law_4.2.2.2.2.2.2.2.2.2.2.2.2.2.2.2.2.2.2.2.2.2.2.2.2.2.2.2.2.2.2.2.2.2.2.2.2.2.2.2.2.2.2.2.2.2.2.2.2.1
theorem dL_law_419 : decode cL_law 419 = .ok (.iconst 1, 1) := dgL_law_4.2.2.2.2.2.2.2.2.2.2.2.2.2.2.2.2.2.2.2.2.2.2.2.2.2.2.2.2.2.2.2.2.2.2.2.2.2.2.2.2.2.2.2.2.2.2.2.2.2
theorem dgL_law_5 : (decode cL_law 420 = .ok (.iadd, 1)) ∧ (decode cL_law 421 = .ok (.iaload, 1)) ∧ (decode cL_law 422 = .ok (.invokevirtual 52, 3)) ∧ (decode cL_law 425 = .ok (.aload_n 2, 1)) ∧ (decode cL_law 426 = .ok (.aload_n 0, 1)) ∧ (decode cL_law 427 = .ok (.iload_n 3, 1)) ∧ (decode cL_law 428 = .ok (.iconst 1, 1)) ∧ (decode cL_law 429 = .ok (.iadd, 1)) ∧ (decode cL_law 430 = .ok (.iaload, 1)) ∧ (decode cL_law 431 = .ok (.invokevirtual 55, 3)) ∧ (decode cL_law 434 = .ok (.if_icmp .eq 632, 3)) ∧ (decode cL_law 439 = .ok (.aload_n 1, 1)) ∧ (decode cL_law 440 = .ok (.aload_n 0, 1)) ∧ (decode cL_law 441 = .ok (.iload_n 3, 1)) ∧ (decode cL_law 442 = .ok (.iconst 1, 1)) ∧ (decode cL_law 443 = .ok (.iadd, 1)) ∧ (decode cL_law 444 = .ok (.iaload, 1)) ∧ (decode cL_law 445 = .ok (.aload_n 0, 1)) ∧ (decode cL_law 446 = .ok (.iload_n 3, 1)) ∧ (decode cL_law 447 = .ok (.iconst 2, 1)) ∧ (decode cL_law 448 = .ok (.iadd, 1)) ∧ (decode cL_law 449 = .ok (.iaload, 1)) ∧ (decode cL_law 450 = .ok (.invokevirtual 56, 3)) ∧ (decode cL_law 453 = .ok (.aload_n 2, 1)) ∧ (decode cL_law 454 = .ok (.aload_n 0, 1)) ∧ (decode cL_law 455 = .ok (.iload_n 3, 1)) ∧ (decode cL_law 456 = .ok (.iconst 1, 1)) ∧ (decode cL_law 457 = .ok (.iadd, 1)) ∧ (decode cL_law 458 = .ok (.iaload, 1)) ∧ (decode cL_law 459 = .ok (.aload_n 0, 1)) ∧ (decode cL_law 460 = .ok (.iload_n 3, 1)) ∧ (decode cL_law 461 = .ok (.iconst 2, 1)) ∧ (decode cL_law 462 = .ok (.iadd, 1)) ∧ (decode cL_law 463 = .ok (.iaload, 1)) ∧ (decode cL_law 464 = .ok (.invokevirtual 60, 3)) ∧ (decode cL_law 467 = .ok (.if_icmp .eq 599, 3)) ∧ (decode cL_law 472 = .ok (.aload_n 1, 1)) ∧ (decode cL_law 473 = .ok (.aload_n 0, 1)) ∧ (decode cL_law 474 = .ok (.iload_n 3, 1)) ∧ (decode cL_law 475 = .ok (.iconst 1, 1)) ∧ (decode cL_law 476 = .ok (.iadd, 1)) ∧ (decode cL_law 477 = .ok (.iaload, 1)) ∧ (decode cL_law 478 = .ok (.invokevirtual 61, 3)) ∧ (decode cL_law 481 = .ok (.aload_n 2, 1)) ∧ (decode cL_law 482 = .ok (.aload_n 0, 1)) ∧ (decode cL_law 483 = .ok (.iload_n 3, 1)) ∧ (decode cL_law 484 = .ok (.iconst 1, 1)) ∧ (decode cL_law 485 = .ok (.iadd, 1)) ∧ (decode cL_law 486 = .ok (.iaload, 1)) ∧ (decode cL_law 487 = .ok (.invokevirtual 64, 3)) := by decide +kernel
theorem dL_law_420 : decode cL_law 420 = .ok (.iadd, 1) := dgL_law_5.1
theorem dL_law_421 : decode cL_law 421 = .ok (.iaload, 1) := dgL_law_5.2.1
theorem dL_law_422 : decode cL_law 422 = .ok (.invokevirtual 52, 3) := dgL_law_5.2.2.1
theorem dL_law_425 : decode cL_law 425 = .ok (.aload_n 2, 1) := dgL_law_5.2.2.2.1
theorem dL_law_426 : decode cL_law 426 = .ok (.aload_n 0, 1) := dgL_law_5.2.2.2.2.1
theorem dL_law_427 : decode cL_law 427 = .ok (.iload_n 3, 1) := dgL_law_5.2.2.2.2.2.1
theorem dL_law_428 : decode cL_law 428 = .ok (.iconst 1, 1) := dgL_law_5.2.2.2.2.2.2.1
theorem dL_law_429 : decode cL_law 429 = .ok (.iadd, 1) := dgL_law_5.2.2.2.2.2.2.2.1
theorem dL_law_430 : decode cL_law 430 = .ok (.iaload, 1) := dgL_law_5.2.2.2.2.2.2.2.2.1
theorem dL_law_431 : decode cL_law 431 = .ok (.invokevirtual 55, 3) := dgL_law_5.2.2.2.2.2.2.2.2.2.1
theorem dL_law_434 : decode cL_law 434 = .ok (.if_icmp .eq 632, 3) := dgL_law_5.2.2.2.2.2.2.2.2.2.2.1
theorem dL_law_439 : decode cL_law 439 = .ok (.aload_n 1, 1) := dgL_law_5.2.2.2.2.2.2.2.2.2.2.2.1
theorem dL_law_440 : decode cL_law 440 = .ok (.aload_n 0, 1) := dgL_law_5.2.2.2.2.2.2.2.2.2.2.2.2.1
theorem dL_law_441 : decode cL_law 441 = .ok (.iload_n 3, 1) := dgL_law_5.2.2.2.2.2.2.2.2.2.2.2.2.2.1
theorem dL_law_442 : decode cL_law 442 = .ok (.iconst 1, 1) := dgL_law_5.2.2.2.2.2.2.2.2.2.2.2.2.2.2.1
theorem dL_law_443 : decode cL_law 443 = .ok (.iadd, 1) := dgL_law_5.2.2.2.2.2.2.2.2.2.2.2.2.2.2.2.1
theorem dL_law_444 : decode cL_law 444 = .ok (.iaload, 1) := dgL_law_5.2.2.2.2.2.2.2.2.2.2.2.2.2.2.2.2.1
theorem dL_law_445 : decode cL_law 445 = .ok (.aload_n 0, 1) := dgL_law_5.2.2.2.2.2.2.2.2.2.2.2.2.2.2.2.2.2.1
theorem dL_law_446 : decode cL_law 446 = .ok (.iload_n 3, 1) := dgL_law_5.2.2.2.2.2.2.2.2.2.2.2.2.2.2.2.2.2.2.1
theorem dL_law_447 : decode cL_law 447 = .ok (.iconst 2, 1) := dgL_law_5.2.2.2.2.2.2.2.2.2.2.2.2.2.2.2.2.2.2.2.1
theorem dL_law_448 : decode cL_law 448 = .ok (.iadd, 1) := dgL_law_5.2.2.2.2.2.2.2.2.2.2.2.2.2.2.2.2.2.2.2.2.1
theorem dL_law_449 : decode cL_law 449 = .ok (.iaload, 1) := dgL_law_5.2.2.2.2.2.2.2.2.2.2.2.2.2.2.2.2.2.2.2.2.2.1
theorem dL_law_450 : decode cL_law 450 = .ok (.invokevirtual 56, 3) := dgL_law_5.2.2.2.2.2.2.2.2.2.2.2.2.2.2.2.2.2.2.2.2.2.2.1
theorem dL_law_453 : decode cL_law 453 = .ok (.aload_n 2, 1) := dgL_law_5.2.2.2.2.2.2.2.2.2.2.2.2.2.2.2.2.2.2.2.2.2.2.2.1
theorem dL_law_454 : decode cL_law 454 = .ok (.aload_n 0, 1) := dgL_law_5.2.2.2.2.2.2.2.2.2.2.2.2.2.2.2.2.2.2.2.2.2.2.2.2.1
theorem dL_law_455 : decode cL_law 455 = .ok (.iload_n 3, 1) := dgL_law_5.2.2.2.2.2.2.2.2.2.2.2.2.2.2.2.2.2.2.2.2.2.2.2.2.2.1
theorem dL_law_456 : decode cL_law 456 = .ok (.iconst 1, 1) := dgL_law_5.2.2.2.2.2.2.2.2.2.2.2.2.2.2.2.2.2.2.2.2.2.2.2.2.2.2.1
theorem dL_law_457 : decode cL_law 457 = .ok (.iadd, 1) := dgL_law_5.2.2.2.2.2.2.2.2.2.2.2.2.2.2.2.2.2.2.2.2.2.2.2.2.2.2.2.1
theorem dL_law_458 : decode cL_law 458 = .ok (.iaload, 1) := dgL_law_5.2.2.2.2.2.2.2.2.2.2.2.2.2.2.2.2.2.2.2.2.2.2.2.2.2.2.2.2.1
theorem dL_law_459 : decode cL_law 459 = .ok (.aload_n 0, 1) := dgL_law_5.2.2.2.2.2.2.2.2.2.2.2.2.2.2.2.2.2.2.2.2.2.2.2.2.2.2.2.2.2.1
theorem dL_law_460 : decode cL_law 460 = .ok (.iload_n 3, 1) := dgL_law_5.2.2.2.2.2.2.2.2.2.2.2.2.2.2.2.2.2.2.2.2.2.2.2.2.2.2.2.2.2.2.1
theorem dL_law_461 : decode cL_law 461 = .ok (.iconst 2, 1) := dgL_law_5.2.2.2.2.2.2.2.2.2.2.2.2.2.2.2.2.2.2.2.2.2.2.2.2.2.2.2.2.2.2.2.1
theorem dL_law_462 : decode cL_law 462 = .ok (.iadd, 1) := dgL_law_5.2.2.2.2.2.2.2.2.2.2.2.2.2.2.2.2.2.2.2.2.2.2.2.2.2.2.2.2.2.2.2.2.1
theorem dL_law_463 : decode cL_law 463 = .ok (.iaload, 1) := dgL_law_5.2.2.2.2.2.2.2.2.2.2.2.2.2.2.2.2.2.2.2.2.2.2.2.2.2.2.2.2.2.2.2.2.2.1
theorem dL_law_464 : decode cL_law 464 = .ok (.invokevirtual 60, 3) := dgL_law_5.2.2.2.2.2.2.2.2.2.2.2.2.2.2.2.2.2.2.2.2.2.2.2.2.2.2.2.2.2.2.2.2.2.2.1
theorem dL_law_467 : decode cL_law 467 = .ok (.if_icmp .eq 599, 3) := dgL_law_5.2.2.2.2.2.2.2.2.2.2.2.2.2.2.2.2.2.2.2.2.2.2.2.2.2.2.2.2.2.2.2.2.2.2.2.1
theorem dL_law_472 : decode cL_law 472 = .ok (.aload_n 1, 1) := dgL_law_5.2.2.2.2.2.2.2.2.2.2.2.2.2.2.2.2.2.2.2.2.2.2.2.2.2.2.2.2.2.2.2.2.2.2.2.2.1
theorem dL_law_473 : decode cL_law 473 = .ok (.aload_n 0, 1) := dgL_law_5.2.2.2.2.2.2.2.2.2.2.2.2.2.2.2.2.2.2.2.2.2.2.2.2.2.2.2.2.2.2.2.2.2.2.2.2.2.1
theorem dL_law_474 : decode cL_law 474 = .ok (.iload_n 3, 1) := dgL_law_5.2.2.2.2.2.2.2.2.2.2.2.2.2.2.2.2.2.2.2.2.2.2.2.2.2.2.2.2.2.2.2.2.2.2.2.2.2.2.1
theorem dL_law_475 : decode cL_law 475 = .ok (.iconst 1, 1) := dgL_law_5.2.2.2.2.2.2.2.2.2.2.2.2.2.2.2.2.2.2.2.2.2.2.2.2.2.2.2.2.2.2.2.2.2.2.2.2.2.2.2.1
theorem dL_law_476 : decode cL_law 476 = .ok (.iadd, 1) := dgL_law_5.2.2.2.2.2.2.2.2.2.2.2.2.2.2.2.2.2.2.2.2.2.2.2.2.2.2.2.2.2.2.2.2.2.2.2.2.2.2.2.2.1
theorem dL_law_477 : decode cL_law 477 = .ok (.iaload, 1) := dgL_law_5.2.2.2.2.2.2.2.2.2.2.2.2.2.2.2.2.2.2.2.2.2.2.2.2.2.2.2.2.2.2.2.2.2.2.2.2.2.2.2.2.2.1
theorem dL_law_478 : decode cL_law 478 = .ok (.invokevirtual 61, 3) := dgL_law_5.2.2.2.2.2.2.2.2.2.2.2.2.2.2.2.2.2.2.2.2.2.2.2.2.2.2.2.2.2.2.2.2.2.2.2.2.2.2.2.2.2.2.1
theorem dL_law_481 : decode cL_law 481 = .ok (.aload_n 2, 1) := dgL_law_5.2.2.2.2.2.2.2.2.2.2.2.2.2.2.2.2.2.2.2.2.2.2.2.2.2.2.2.2.2.2.2.2.2.2.2.2.2.2.2.2.2.2.2.1
theorem dL_law_482 : decode cL_law 482 = .ok (.aload_n 0, 1) := dgL_law_5.2.2.2.2.2.2.2.2.2.2.2.2.2.2.2.2.2.2.2.2.2.2.2.2.2.2.2.2.2.2.2.2.2.2.2.2.2.2.2.2.2.2.2.2.1
theorem dL_law_483 : decode cL_law 483 = .ok (.iload_n 3, 1) := dgL_law_5.2.2.2.2.2.2.2.2.2.2.2.2.2.2.2.2.2.2.2.2.2.2.2.2.2.2.2.2.2.2.2.2.2.2.2.2.2.2.2.2.2.2.2.2.2.1
theorem dL_law_484 : decode cL_law 484 = .ok (.iconst 1, 1) := dgL_law_5.2.2.2.2.2.2.2.2.2.2.2.2.2.2.2.2.2.2.2.2.2.2.2.2.2.2.2.2.2.2.2.2.2.2.2.2.2.2.2.2.2.2.2.2.2.2.1
theorem dL_law_485 : decode cL_law 485 = .ok (.iadd, 1) := dgL_law_5.2.2.2.2.2.2.2.2.2.2.2.2.2.2.2.2.2.2.2.2.2.2.2.2.2.2.2.2.2.2.2.2.2.2.2.2.2.2.2.2.2.2.2.2.2.2.2.1
theorem dL_law_486 : decode cL_law 486 = .ok (.iaload, 1) := dgL_law_5.2.2.2.2.2.2.2.2.2.2.2.2.2.2.2.2.2.2.2.2.2.2.2.2.2.2.2.2.2.2.2.2.2.2.2.2.2.2.2.2.2.2.2.2.2.2.2.2.1
theorem dL_law_487 : decode cL_law 487 = .ok (.invokevirtual 64, 3) := dgL_law_5.2.2.2.2.2.2.2.2.2.2.2.2.2.2.2.2.2.2.2.2.2.2.2.2.2.2.2.2.2.2.2.2.2.2.2.2.2.2.2.2.2.2.2.2.2.2.2.2.2
theorem dgL_law_6 : (decode cL_law 490 = .ok (.if_icmp .eq 576, 3)) ∧ (decode cL_law 495 = .ok (.aload_n 1, 1)) ∧ (decode cL_law 496 = .ok (.aload_n 0, 1)) ∧ (decode cL_law 497 = .ok (.iload_n 3, 1)) ∧ (decode cL_law 498 = .ok (.iconst 1, 1)) ∧ (decode cL_law 499 = .ok (.iadd, 1)) ∧ (decode cL_law 500 = .ok (.iaload, 1)) ∧ (decode cL_law 501 = .ok (.aload_n 0, 1)) ∧ (decode cL_law 502 = .ok (.iload_n 3, 1)) ∧ (decode cL_law 503 = .ok (.iconst 2, 1)) ∧ (decode cL_law 504 = .ok (.iadd, 1)) ∧ (decode cL_law 505 = .ok (.iaload, 1)) ∧ (decode cL_law 506 = .ok (.invokevirtual 65, 3)) ∧ (decode cL_law 509 = .ok (.aload_n 2, 1)) ∧ (decode cL_law 510 = .ok (.aload_n 0, 1)) ∧ (decode cL_law 511 = .ok (.iload_n 3, 1)) ∧ (decode cL_law 512 = .ok (.iconst 1, 1)) ∧ (decode cL_law 513 = .ok (.iadd, 1)) ∧ (decode cL_law 514 = .ok (.iaload, 1)) ∧ (decode cL_law 515 = .ok (.aload_n 0, 1)) ∧ (decode cL_law 516 = .ok (.iload_n 3, 1)) ∧ (decode cL_law 517 = .ok (.iconst 2, 1)) ∧ (decode cL_law 518 = .ok (.iadd, 1)) ∧ (decode cL_law 519 = .ok (.iaload, 1)) ∧ (decode cL_law 520 = .ok (.invokevirtual 68, 3)) ∧ (decode cL_law 523 = .ok (.if_icmp .eq 543, 3)) ∧ (decode cL_law 528 = .ok (.aload_n 1, 1)) ∧ (decode cL_law 529 = .ok (.aload_n 0, 1)) ∧ (decode cL_law 530 = .ok (.iload_n 3, 1)) ∧ (decode cL_law 531 = .ok (.iconst 1, 1)) ∧ (decode cL_law 532 = .ok (.iadd, 1)) ∧ (decode cL_law 533 = .ok (.iaload, 1)) ∧ (decode cL_law 534 = .ok (.aload_n 0, 1)) ∧ (decode cL_law 535 = .ok (.iload_n 3, 1)) ∧ (decode cL_law 536 = .ok (.iconst 2, 1)) ∧ (decode cL_law 537 = .ok (.iadd, 1)) ∧ (decode cL_law 538 = .ok (.iaload, 1)) ∧ (decode cL_law 539 = .ok (.invokevirtual 69, 3)) ∧ (decode cL_law 542 = .ok (.aload_n 2, 1)) ∧ (decode cL_law 543 = .ok (.aload_n 0, 1)) ∧ (decode cL_law 544 = .ok (.iload_n 3, 1)) ∧ (decode cL_law 545 = .ok (.iconst 1, 1)) ∧ (decode cL_law 546 = .ok (.iadd, 1)) ∧ (decode cL_law 547 = .ok (.iaload, 1)) ∧ (decode cL_law 548 = .ok (.aload_n 0, 1)) ∧ (decode cL_law 549 = .ok (.iload_n 3, 1)) ∧ (decode cL_law 550 = .ok (.iconst 2, 1)) ∧ (decode cL_law 551 = .ok (.iadd, 1)) ∧ (decode cL_law 552 = .ok (.iaload, 1)) ∧ (decode cL_law 553 = .ok (.invokevirtual 72, 3)) := by decide +kernel
theorem dL_law_490 : decode cL_law 490 = .ok (.if_icmp .eq 576, 3) := dgL_law_6.1
theorem dL_law_495 : decode cL_law 495 = .ok (.aload_n 1, 1) := dgL_law_6.2.1
theorem dL_law_496 : decode cL_law 496 = .ok (.aload_n 0, 1) := dgL_law_6.2.2.1
theorem dL_law_497 : decode cL_law 497 = .ok (.iload_n 3, 1) := dgL_law_6.2.2.2.1
theorem dL_law_498 : decode cL_law 498 = .ok (.iconst 1, 1) := dgL_law_6.2.2.2.2.1
theorem dL_law_499 : decode cL_law 499 = .ok (.iadd, 1) := dgL_law_6.2.2.2.2.2.1
theorem dL_law_500 : decode cL_law 500 = .ok (.iaload, 1) := dgL_law_6.2.2.2.2.2.2.1
theorem dL_law_501 : decode cL_law 501 = .ok (.aload_n 0, 1) := dgL_law_6.2.2.2.2.2.2.2.1
theorem dL_law_502 : decode cL_law 502 = .ok (.iload_n 3, 1) := dgL_law_6.2.2.2.2.2.2.2.2.1
theorem dL_law_503 : decode cL_law 503 = .ok (.iconst 2, 1) := dgL_law_6.2.2.2.2.2.2.2.2.2.1
theorem dL_law_504 : decode cL_law 504 = .ok (.iadd, 1) := dgL_law_6.2.2.2.2.2.2.2.2.2.2.1
theorem dL_law_505 : decode cL_law 505 = .ok (.iaload, 1) := dgL_law_6.2.2.2.2.2.2.2.2.2.2.2.1
theorem dL_law_506 : decode cL_law 506 = .ok (.invokevirtual 65, 3) := dgL_law_6.2.2.2.2.2.2.2.2.2.2.2.2.1
theorem dL_law_509 : decode cL_law 509 = .ok (.aload_n 2, 1) := dgL_law_6.2.2.2.2.2.2.2.2.2.2.2.2.2.1
theorem dL_law_510 : decode cL_law 510 = .ok (.aload_n 0, 1) := dgL_law_6.2.2.2.2.2.2.2.2.2.2.2.2.2.2.1
theorem dL_law_511 : decode cL_law 511 = .ok (.iload_n 3, 1) := dgL_law_6.2.2.2.2.2.2.2.2.2.2.2.2.2.2.2.1
theorem dL_law_512 : decode cL_law 512 = .ok (.iconst 1, 1) := dgL_law_6.2.2.2.2.2.2.2.2.2.2.2.2.2.2.2.2.1
theorem dL_law_513 : decode cL_law 513 = .ok (.iadd, 1) := dgL_law_6.2.2.2.2.2.2.2.2.2.2.2.2.2.2.2.2.2.1
theorem dL_law_514 : decode cL_law 514 = .ok (.iaload, 1) := dgL_law_6.2.2.2.2.2.2.2.2.2.2.2.2.2.2.2.2.2.2.1
theorem dL_law_515 : decode cL_law 515 = .ok (.aload_n 0, 1) := dgL_law_6.2.2.2.2.2.2.2.2.2.2.2.2.2.2.2.2.2.2.2.1
theorem dL_law_516 : decode cL_law 516 = .ok (.iload_n 3, 1) := dgL_law_6.2.2.2.2.2.2.2.2.2.2.2.2.2.2.2.2.2.2.2.2.1
theorem dL_law_517 : decode cL_law 517 = .ok (.iconst 2, 1) := dgL_law_6.2.2.2.2.2.2.2.2.2.2.2.2.2.2.2.2.2.2.2.2.2.1
theorem dL_law_518 : decode cL_law 518 = .ok (.iadd, 1) := dgL_law_6.2.2.2.2.2.2.2.2.2.2.2.2.2.2.2.2.2.2.2.2.2.2.1
theorem dL_law_519 : decode cL_law 519 = .ok (.iaload, 1) := dgL_law_6.2.2.2.2.2.2.2.2.2.2.2.2.2.2.2.2.2.2.2.2.2.2.2.1
theorem dL_law_520 : decode cL_law 520 = .ok (.invokevirtual 68, 3) := dgL_law_6.2.2.2.2.2.2.2.2.2.2.2.2.2.2.2.2.2.2.2.2.2.2.2.2.1
theorem dL_law_523 : decode cL_law 523 = .ok (.if_icmp .eq 543, 3) := dgL_law_6.2.2.2.2.2.2.2.2.2.2.2.2.2.2.2.2.2.2.2.2.2.2.2.2.2.1
theorem dL_law_528 : decode cL_law 528 = .ok (.aload_n 1, 1) := dgL_law_6.2.2.2.2.2.2.2.2.2.2.2.2.2.2.2.2.2.2.2.2.2.2.2.2.2.2.1
theorem dL_law_529 : decode cL_law 529 = .ok (.aload_n 0, 1) := dgL_law_6.2.2.2.2.2.2.2.2.2.2.2.2.2.2.2.2.2.2.2.2.2.2.2.2.2.2.2.1
theorem dL_law_530 : decode cL_law 530 = .ok (.iload_n 3, 1) := dgL_law_6.2.2.2.2.2.2.2.2.2.2.2.2.2.2.2.2.2.2.2.2.2.2.2.2.2.2.2.2.1
theorem dL_law_531 : decode cL_law 531 = .ok (.iconst 1, 1) := dgL_law_6.2.2.2.2.2.2.2.2.2.2.2.2.2.2.2.2.2.2.2.2.2.2.2.2.2.2.2.2.2.1
theorem dL_law_532 : decode cL_law 532 = .ok (.iadd, 1) := dgL_law_6.2.2.2.2.2.2.2.2.2.2.2.2.2.2.2.2.2.2.2.2.2.2.2.2.2.2.2.2.2.2.1
theorem dL_law_533 : decode cL_law 533 = .ok (.iaload, 1) := dgL_law_6.2.2.2.2.2.2.2.2.2.2.2.2.2.2.2.2.2.2.2.2.2.2.2.2.2.2.2.2.2.2.2.1
theorem dL_law_534 : decode cL_law 534 = .ok (.aload_n 0, 1) := dgL_law_6.2.2.2.2.2.2.2.2.2.2.2.2.2.2.2.2.2.2.2.2.2.2.2.2.2.2.2.2.2.2.2.2.1
theorem dL_law_535 : decode cL_law 535 = .ok (.iload_n 3, 1) := dgL_law_6.2.2.2.2.2.2.2.2.2.2.2.2.2.2.2.2.2.2.2.2.2.2.2.2.2.2.2.2.2.2.2.2.2.1
theorem dL_law_536 : decode cL_law 536 = .ok (.iconst 2, 1) := dgL_law_6.2.2.2.2.2.2.2.2.2.2.2.2.2.2.2.2.2.2.2.2.2.2.2.2.2.2.2.2.2.2.2.2.2.2.1
theorem dL_law_537 : decode cL_law 537 = .ok (.iadd, 1) := dgL_law_6.2.2.2.2.2.2.2.2.2.2.2.2.2.2.2.2.2.2.2.2.2.2.2.2.2.2.2.2.2.2.2.2.2.2.2.1
theorem dL_law_538 : decode cL_law 538 = .ok (.iaload, 1) := dgL_law_6.2.2.2.2.2.2.2.2.2.2.2.2.2.2.2.2.2.2.2.2.2.2.2.2.2.2.2.2.2.2.2.2.2.2.2.2.1
theorem dL_law_539 : decode cL_law 539 = .ok (.invokevirtual 69, 3) := dgL_law_6.2.2.2.2.2.2.2.2.2.2.2.2.2.2.2.2.2.2.2.2.2.2.2.2.2.2.2.2.2.2.2.2.2.2.2.2.2.1
theorem dL_law_542 : decode cL_law 542 = .ok (.aload_n 2, 1) := dgL_law_6.2.2.2.2.2.2.2.2.2.2.2.2.2.2.2.2.2.2.2.2.2.2.2.2.2.2.2.2.2.2.2.2.2.2.2.2.2.2.1
theorem dL_law_543 : decode cL_law 543 = .ok (.aload_n 0, 1) := dgL_law_6.2.2.2.2.2.2.2.2.2.2.2.2.2.2.2.2.2.2.2.2.2.2.2.2.2.2.2.2.2.2.2.2.2.2.2.2.2.2.2.1
theorem dL_law_544 : decode cL_law 544 = .ok (.iload_n 3, 1) := dgL_law_6.2.2.2.2.2.2.2.2.2.2.2.2.2.2.2.2.2.2.2.2.2.2.2.2.2.2.2.2.2.2.2.2.2.2.2.2.2.2.2.2.1
theorem dL_law_545 : decode cL_law 545 = .ok (.iconst 1, 1) := dgL_law_6.2.2.2.2.2.2.2.2.2.2.2.2.2.2.2.2.2.2.2.2.2.2.2.2.2.2.2.2.2.2.2.2.2.2.2.2.2.2.2.2.2.1
theorem dL_law_546 : decode cL_law 546 = .ok (.iadd, 1) := dgL_law_6.2.2.2.2.2.2.2.2.2.2.2.2.2.2.2.2.2.2.2.2.2.2.2.2.2.2.2.2.2.2.2.2.2.2.2.2.2.2.2.2.2.2.1
theorem dL_law_547 : decode cL_law 547 = .ok (.iaload, 1) := dgL_law_6.2.2.2.2.2.2.2.2.2.2.2.2.2.2.2.2.2.2.2.2.2.2.2.2.2.2.2.2.2.2.2.2.2.2.2.2.2.2.2.2.2.2.2.1
theorem dL_law_548 : decode cL_law 548 = .ok (.aload_n 0, 1) := dgL_law_6.2.2.2.2.2.2.2.2.2.2.2.2.2.2.2.2.2.2.2.2.2.2.2.2.2.2.2.2.2.2.2.2.2.2.2.2.2.2.2.2.2.2.2.2.1
theorem dL_law_549 : decode cL_law 549 = .ok (.iload_n 3, 1) := dgL_law_6.2.2.2.2.2.2.2.2.2.2.2.2.2.2.2.2.2.2.2.2.2.2.2.2.2.2.2.2.2.2.2.2.2.2.2.2.2.2.2.2.2.2.2.2.2.1
theorem dL_law_550 : decode cL_law 550 = .ok (.iconst 2, 1) := dgL_law_6.2.2.2.2.2.2.2.2.2.2.2.2.2.2.2.2.2.2.2.2.2.2.2.2.2.2.2.2.2.2.2.2.2.2.2.2.2.2.2.2.2.2.2.2.2.2.1
theorem dL_law_551 : decode cL_law 551 = .ok (.iadd, 1) := dgL_law_6.2.2.2.2.2.2.2.2.2.2.2.2.2.2.2.2.2.2.2.2.2.2.2.2.2.2.2.2.2.2.2.2.2.2.2.2.2.2.2.2.2.2.2.2.2.2.2.1
theorem dL_law_552 : decode cL_law 552 = .ok (.iaload, 1) := dgL_law_6.2.2.2.2.2.2.2.2.2.2.2.2.2.2.2.2.2.2.2.2.2.2.2.2.2.2.2.2.2.2.2.2.2.2.2.2.2.2.2.2.2.2.2.2.2.2.2.2.1
theorem dL_law_553 : decode cL_law 553 = .ok (.invokevirtual 72, 3) := dgL_law_6.2.2.2.2.2.2.2.2.2.2.2.2.2.2.2.2.2.2.2.2.2.2.2.2.2.2.2.2.2.2.2.2.2.2.2.2.2.2.2.2.2.2.2.2.2.2.2.2.2
theorem dgL_law_7 : (decode cL_law 556 = .ok (.if_icmp .eq 510, 3)) ∧ (decode cL_law 561 = .ok (.aload_n 1, 1)) ∧ (decode cL_law 562 = .ok (.aload_n 0, 1)) ∧ (decode cL_law 563 = .ok (.iload_n 3, 1)) ∧ (decode cL_law 564 = .ok (.iconst 1, 1)) ∧ (decode cL_law 565 = .ok (.iadd, 1)) ∧ (decode cL_law 566 = .ok (.iaload, 1)) ∧ (decode cL_law 567 = .ok (.invokevirtual 73, 3)) ∧ (decode cL_law 570 = .ok (.aload_n 2, 1)) ∧ (decode cL_law 571 = .ok (.aload_n 0, 1)) ∧ (decode cL_law 572 = .ok (.iload_n 3, 1)) ∧ (decode cL_law 573 = .ok (.iconst 1, 1)) ∧ (decode cL_law 574 = .ok (.iadd, 1)) ∧ (decode cL_law 575 = .ok (.iaload, 1)) ∧ (decode cL_law 576 = .ok (.invokevirtual 76, 3)) ∧ (decode cL_law 579 = .ok (.if_icmp .eq 487, 3)) ∧ (decode cL_law 584 = .ok (.aload_n 1, 1)) ∧ (decode cL_law 585 = .ok (.aload_n 0, 1)) ∧ (decode cL_law 586 = .ok (.iload_n 3, 1)) ∧ (decode cL_law 587 = .ok (.iconst 1, 1)) ∧ (decode cL_law 588 = .ok (.iadd, 1)) ∧ (decode cL_law 589 = .ok (.iaload, 1)) ∧ (decode cL_law 590 = .ok (.invokevirtual 77, 3)) ∧ (decode cL_law 593 = .ok (.aload_n 2, 1)) ∧ (decode cL_law 594 = .ok (.aload_n 0, 1)) ∧ (decode cL_law 595 = .ok (.iload_n 3, 1)) ∧ (decode cL_law 596 = .ok (.iconst 1, 1)) ∧ (decode cL_law 597 = .ok (.iadd, 1)) ∧ (decode cL_law 598 = .ok (.iaload, 1)) ∧ (decode cL_law 599 = .ok (.invokevirtual 80, 3)) ∧ (decode cL_law 602 = .ok (.if_icmp .eq 464, 3)) ∧ (decode cL_law 607 = .ok (.aload_n 1, 1)) ∧ (decode cL_law 608 = .ok (.aload_n 0, 1)) ∧ (decode cL_law 609 = .ok (.iload_n 3, 1)) ∧ (decode cL_law 610 = .ok (.iconst 1, 1)) ∧ (decode cL_law 611 = .ok (.iadd, 1)) ∧ (decode cL_law 612 = .ok (.iaload, 1)) ∧ (decode cL_law 613 = .ok (.aload_n 0, 1)) ∧ (decode cL_law 614 = .ok (.iload_n 3, 1)) ∧ (decode cL_law 615 = .ok (.iconst 2, 1)) ∧ (decode cL_law 616 = .ok (.iadd, 1)) ∧ (decode cL_law 617 = .ok (.iaload, 1)) ∧ (decode cL_law 618 = .ok (.invokevirtual 81, 3)) ∧ (decode cL_law 621 = .ok (.aload_n 2, 1)) ∧ (decode cL_law 622 = .ok (.aload_n 0, 1)) ∧ (decode cL_law 623 = .ok (.iload_n 3, 1)) ∧ (decode cL_law 624 = .ok (.iconst 1, 1)) ∧ (decode cL_law 625 = .ok (.iadd, 1)) ∧ (decode cL_law 626 = .ok (.iaload, 1)) ∧ (decode cL_law 627 = .ok (.aload_n 0, 1)) := by decide +kernel
theorem dL_law_556 : decode cL_law 556 = .ok (.if_icmp .eq 510, 3) := dgL_law_7.1
theorem dL_law_561 : decode cL_law 561 = .ok (.aload_n 1, 1) := dgL_law_7.2.1
theorem dL_law_562 : decode cL_law 562 = .ok (.aload_n 0, 1) := dgL_law_7.2.2.1
theorem dL_law_563 : decode cL_law 563 = .ok (.iload_n 3, 1) := dgL_law_7.2.2.2.1
theorem dL_law_564 : decode cL_law 564 = .ok (.iconst 1, 1) := dgL_law_7.2.2.2.2.1
theorem dL_law_565 : decode cL_law 565 = .ok (.iadd, 1) := dgL_law_7.2.2.2.2.2.1
theorem dL_law_566 : decode cL_law 566 = .ok (.iaload, 1) := dgL_law_7.2.2.2.2.2.2.1
theorem dL_law_567 : decode cL_law 567 = .ok (.invokevirtual 73, 3) := dgL_law_7.2.2.2.2.2.2.2.1
theorem dL_law_570 : decode cL_law 570 = .ok (.aload_n 2, 1) := dgL_law_7.2.2.2.2.2.2.2.2.1
theorem dL_law_571 : decode cL_law 571 = .ok (.aload_n 0, 1) := dgL_law_7.2.2.2.2.2.2.2.2.2.1
theorem dL_law_572 : decode cL_law 572 = .ok (.iload_n 3, 1) := dgL_law_7.2.2.2.2.2.2.2.2.2.2.1
theorem dL_law_573 : decode cL_law 573 = .ok (.iconst 1, 1) := dgL_law_7.2.2.2.2.2.2.2.2.2.2.2.1
theorem dL_law_574 : decode cL_law 574 = .ok (.iadd, 1) := dgL_law_7.2.2.2.2.2.2.2.2.2.2.2.2.1
theorem dL_law_575 : decode cL_law 575 = .ok (.iaload, 1) := dgL_law_7.2.2.2.2.2.2.2.2.2.2.2.2.2.1
theorem dL_law_576 : decode cL_law 576 = .ok (.invokevirtual 76, 3) := dgL_law_7.2.2.2.2.2.2.2.2.2.2.2.2.2.2.1
theorem dL_law_579 : decode cL_law 579 = .ok (.if_icmp .eq 487, 3) := dgL_law_7.2.2.2.2.2.2.2.2.2.2.2.2.2.2.2.1
theorem dL_law_584 : decode cL_law 584 = .ok (.aload_n 1, 1) := dgL_law_7.2.2.2.2.2.2.2.2.2.2.2.2.2.2.2.2.1
theorem dL_law_585 : decode cL_law 585 = .ok (.aload_n 0, 1) := dgL_law_7.2.2.2.2.2.2.2.2.2.2.2.2.2.2.2.2.2.1
theorem dL_law_586 : decode cL_law 586 = .ok (.iload_n 3, 1) := dgL_law_7.2.2.2.2.2.2.2.2.2.2.2.2.2.2.2.2.2.2.1
theorem dL_law_587 : decode cL_law 587 = .ok (.iconst 1, 1) := dgL_law_7.2.2.2.2.2.2.2.2.2.2.2.2.2.2.2.2.2.2.2.1
theorem dL_law_588 : decode cL_law 588 = .ok (.iadd, 1) := dgL_law_7.2.2.2.2.2.2.2.2.2.2.2.2.2.2.2.2.2.2.2.2.1
theorem dL_law_589 : decode cL_law 589 = .ok (.iaload, 1) := dgL_law_7.2.2.2.2.2.2.2.2.2.2.2.2.2.2.2.2.2.2.2.2.2.1
theorem dL_law_590 : decode cL_law 590 = .ok (.invokevirtual 77, 3) := dgL_law_7.2.2.2.2.2.2.2.2.2.2.2.2.2.2.2.2.2.2.2.2.2.2.1
theorem dL_law_593 : decode cL_law 593 = .ok (.aload_n 2, 1) := dgL_law_7.2.2.2.2.2.2.2.2.2.2.2.2.2.2.2.2.2.2.2.2.2.2.2.1
theorem dL_law_594 : decode cL_law 594 = .ok (.aload_n 0, 1) := dgL_law_7.2.2.2.2.2.2.2.2.2.2.2.2.2.2.2.2.2.2.2.2.2.2.2.2.1
theorem dL_law_595 : decode cL_law 595 = .ok (.iload_n 3, 1) := dgL_law_7.2.2.2.2.2.2.2.2.2.2.2.2.2.2.2.2.2.2.2.2.2.2.2.2.2.1
theorem dL_law_596 : decode cL_law 596 = .ok (.iconst 1, 1) := dgL_law_7.2.2.2.2.2.2.2.2.2.2.2.2.2.2.2.2.2.2.2.2.2.2.2.2.2.2.1
theorem dL_law_597 : decode cL_law 597 = .ok (.iadd, 1) := dgL_law_7.2.2.2.2.2.2.2.2.2.2.2.2.2.2.2.2.2.2.2.2.2.2.2.2.2.2.2.1
theorem dL_law_598 : decode cL_law 598 = .ok (.iaload, 1) := dgL_law_7.2.2.2.2.2.2.2.2.2.2.2.2.2.2.2.2.2.2.2.2.2.2.2.2.2.2.2.2.1
theorem dL_law_599 : decode cL_law 599 = .ok (.invokevirtual 80, 3) := dgL_law_7.2.2.2.2.2.2.2.2.2.2.2.2.2.2.2.2.2.2.2.2.2.2.2.2.2.2.2.2.2.1
theorem dL_law_602 : decode cL_law 602 = .ok (.if_icmp .eq 464, 3) := dgL_law_7.2.2.2.2.2.2.2.2.2.2.2.2.2.2.2.2.2.2.2.2.2.2.2.2.2.2.2.2.2.2.1
theorem dL_law_607 : decode cL_law 607 = .ok (.aload_n 1, 1) := dgL_law_7.2.2.2.2.2.2.2.2.2.2.2.2.2.2.2.2.2.2.2.2.2.2.2.2.2.2.2.2.2.2.2.1
theorem dL_law_608 : decode cL_law 608 = .ok (.aload_n 0, 1) := dgL_law_7.2.2.2.2.2.2.2.2.2.2.2.2.2.2.2.2.2.2.2.2.2.2.2.2.2.2.2.2.2.2.2.2.1
theorem dL_law_609 : decode cL_law 609 = .ok (.iload_n 3, 1) := dgL_law_7.2.2.2.2.2.2.2.2.2.2.2.2.2.2.2.2.2.2.2.2.2.2.2.2.2.2.2.2.2.2.2.2.2.1
theorem dL_law_610 : decode cL_law 610 = .ok (.iconst 1, 1) := dgL_law_7.2.2.2.2.2.2.2.2.2.2.2.2.2.2.2.2.2.2.2.2.2.2.2.2.2.2.2.2.2.2.2.2.2.2.1
theorem dL_law_611 : decode cL_law 611 = .ok (.iadd, 1) := dgL_law_7.2.2.2.2.2.2.2.2.2.2.2.2.2.2.2.2.2.2.2.2.2.2.2.2.2.2.2.2.2.2.2.2.2.2.2.1
theorem dL_law_612 : decode cL_law 612 = .ok (.iaload, 1) := dgL_law_7.2.2.2.2.2.2.2.2.2.2.2.2.2.2.2.2.2.2.2.2.2.2.2.2.2.2.2.2.2.2.2.2.2.2.2.2.1
theorem dL_law_613 : decode cL_law 613 = .ok (.aload_n 0, 1) := dgL_law_7.2.2.2.2.2.2.2.2.2.2.2.2.2.2.2.2.2.2.2.2.2.2.2.2.2.2.2.2.2.2.2.2.2.2.2.2.2.1
theorem dL_law_614 : decode cL_law 614 = .ok (.iload_n 3, 1) := dgL_law_7.2.2.2.2.2.2.2.2.2.2.2.2.2.2.2.2.2.2.2.2.2.2.2.2.2.2.2.2.2.2.2.2.2.2.2.2.2.2.1
theorem dL_law_615 : decode cL_law 615 = .ok (.iconst 2, 1) := dgL_law_7.2.2.2.2.2.2.2.2.2.2.2.2.2.2.2.2.2.2.2.2.2.2.2.2.2.2.2.2.2.2.2.2.2.2.2.2.2.2.2.1
theorem dL_law_616 : decode cL_law 616 = .ok (.iadd, 1) := dgL_law_7.2.2.2.2.2.2.2.2.2.2.2.2.2.2.2.2.2.2.2.2.2.2.2.2.2.2.2.2.2.2.2.2.2.2.2.2.2.2.2.2.1
theorem dL_law_617 : decode cL_law 617 = .ok (.iaload, 1) := dgL_law_7.2.2.2.2.2.2.2.2.2.2.2.2.2.2.2.2.2.2.2.2.2.2.2.2.2.2.2.2.2.2.2.2.2.2.2.2.2.2.2.2.2.1
theorem dL_law_618 : decode cL_law 618 = .ok (.invokevirtual 81, 3) := dgL_law_7.2.2.2.2.2.2.2.2.2.2.2.2.2.2.2.2.2.2.2.2.2.2.2.2.2.2.2.2.2.2.2.2.2.2.2.2.2.2.2.2.2.2.1
theorem dL_law_621 : decode cL_law 621 = .ok (.aload_n 2, 1) := dgL_law_7.2.2.2.2.2.2.2.2.2.2.2.2.2.2.2.2.2.2.2.2.2.2.2.2.2.2.2.2.2.2.2.2.2.2.2.2.2.2.2.2.2.2.2.1
theorem dL_law_622 : decode cL_law 622 = .ok (.aload_n 0, 1) := dgL_law_7.2.2.2.2.2.2.2.2.2.2.2.2.2.2.2.2.2.2.2.2.2.2.2.2.2.2.2.2.2.2.2.2.2.2.2.2.2.2.2.2.2.2.2.2.1
theorem dL_law_623 : decode cL_law 623 = .ok (.iload_n 3, 1) := dgL_law_7.2.2.2.2.2.2.2.2.2.2.2.2.2.2.2.2.2.2.2.2.2.2.2.2.2.2.2.2.2.2.2.2.2.2.2.2.2.2.2.2.2.2.2.2.2.1
theorem dL_law_624 : decode cL_law 624 = .ok (.iconst 1, 1) := dgL_law_7.2.2.2.2.2.2.2.2.2.2.2.2.2.2.2.2.2.2.2.2.2.2.2.2.2.2.2.2.2.2.2.2.2.2.2.2.2.2.2.2.2.2.2.2.2.2.1
theorem dL_law_625 : decode cL_law 625 = .ok (.iadd, 1) := dgL_law_7.2.2.2.2.2.2.2.2.2.2.2.2.2.2.2.2.2.2.2.2.2.2.2.2.2.2.2.2.2.2.2.2.2.2.2.2.2.2.2.2.2.2.2.2.2.2.2.1
theorem dL_law_626 : decode cL_law 626 = .ok (.iaload, 1) := dgL_law_7.2.2.2.2.2.2.2.2.2.2.2.2.2.2.2.2.2.2.2.2.2.2.2.2.2.2.2.2.2.2.2.2.2.2.2.2.2.2.2.2.2.2.2.2.2.2.2.2.1
theorem dL_law_627 : decode cL_law 627 = .ok (.aload_n 0, 1) := dgL_law_7.2.2.2.2.2.2.2.2.2.2.2.2.2.2.2.2.2.2.2.2.2.2.2.2.2.2.2.2.2.2.2.2.2.2.2.2.2.2.2.2.2.2.2.2.2.2.2.2.2
theorem dgL_law_8 : (decode cL_law 628 = .ok (.iload_n 3, 1)) ∧ (decode cL_law 629 = .ok (.iconst 2, 1)) ∧ (decode cL_law 630 = .ok (.iadd, 1)) ∧ (decode cL_law 631 = .ok (.iaload, 1)) ∧ (decode cL_law 632 = .ok (.invokevirtual 84, 3)) ∧ (decode cL_law 635 = .ok (.if_icmp .eq 431, 3)) ∧ (decode cL_law 640 = .ok (.aload_n 1, 1)) ∧ (decode cL_law 641 = .ok (.aload_n 0, 1)) ∧ (decode cL_law 642 = .ok (.iload_n 3, 1)) ∧ (decode cL_law 643 = .ok (.iconst 1, 1)) ∧ (decode cL_law 644 = .ok (.iadd, 1)) ∧ (decode cL_law 645 = .ok (.iaload, 1)) ∧ (decode cL_law 646 = .ok (.aload_n 0, 1)) ∧ (decode cL_law 647 = .ok (.iload_n 3, 1)) ∧ (decode cL_law 648 = .ok (.iconst 2, 1)) ∧ (decode cL_law 649 = .ok (.iadd, 1)) ∧ (decode cL_law 650 = .ok (.iaload, 1)) ∧ (decode cL_law 651 = .ok (.invokevirtual 85, 3)) ∧ (decode cL_law 654 = .ok (.aload_n 2, 1)) ∧ (decode cL_law 655 = .ok (.aload_n 0, 1)) ∧ (decode cL_law 656 = .ok (.iload_n 3, 1)) ∧ (decode cL_law 657 = .ok (.iconst 1, 1)) ∧ (decode cL_law 658 = .ok (.iadd, 1)) ∧ (decode cL_law 659 = .ok (.iaload, 1)) ∧ (decode cL_law 660 = .ok (.aload_n 0, 1)) ∧ (decode cL_law 661 = .ok (.iload_n 3, 1)) ∧ (decode cL_law 662 = .ok (.iconst 2, 1)) ∧ (decode cL_law 663 = .ok (.iadd, 1)) ∧ (decode cL_law 664 = .ok (.iaload, 1)) ∧ (decode cL_law 665 = .ok (.invokevirtual 88, 3)) ∧ (decode cL_law 668 = .ok (.if_icmp .eq 398, 3)) ∧ (decode cL_law 673 = .ok (.aload_n 1, 1)) ∧ (decode cL_law 674 = .ok (.aload_n 0, 1)) ∧ (decode cL_law 675 = .ok (.iload_n 3, 1)) ∧ (decode cL_law 676 = .ok (.iconst 1, 1)) ∧ (decode cL_law 677 = .ok (.iadd, 1)) ∧ (decode cL_law 678 = .ok (.iaload, 1)) ∧ (decode cL_law 679 = .ok (.aload_n 0, 1)) ∧ (decode cL_law 680 = .ok (.iload_n 3, 1)) ∧ (decode cL_law 681 = .ok (.iconst 2, 1)) ∧ (decode cL_law 682 = .ok (.iadd, 1)) ∧ (decode cL_law 683 = .ok (.iaload, 1)) ∧ (decode cL_law 684 = .ok (.invokevirtual 89, 3)) ∧ (decode cL_law 687 = .ok (.aload_n 2, 1)) ∧ (decode cL_law 688 = .ok (.aload_n 0, 1)) ∧ (decode cL_law 689 = .ok (.iload_n 3, 1)) ∧ (decode cL_law 690 = .ok (.iconst 1, 1)) ∧ (decode cL_law 691 = .ok (.iadd, 1)) ∧ (decode cL_law 692 = .ok (.iaload, 1)) ∧ (decode cL_law 693 = .ok (.aload_n 0, 1)) := by decide +kernel
theorem dL_law_628 : decode cL_law 628 = .ok (.iload_n 3, 1) := dgL_law_8.1
theorem dL_law_629 : decode cL_law 629 = .ok (.iconst 2, 1) := dgL_law_8.2.1
theorem dL_law_630 : decode cL_law 630 = .ok (.iadd, 1) := dgL_law_8.2.2.1
theorem dL_law_631 : decode cL_law 631 = .ok (.iaload, 1) := dgL_law_8.2.2.2.1
theorem dL_law_632 : decode cL_law 632 = .ok (.invokevirtual 84, 3) := dgL_law_8.2.2.2.2.1
theorem dL_law_635 : decode cL_law 635 = .ok (.if_icmp .eq 431, 3) := dgL_law_8.2.2.2.2.2.1
theorem dL_law_640 : decode cL_law 640 = .ok (.aload_n 1, 1) := dgL_law_8.2.2.2.2.2.2.1
theorem dL_law_641 : decode cL_law 641 = .ok (.aload_n 0, 1) := dgL_law_8.2.2.2.2.2.2.2.1
theorem dL_law_642 : decode cL_law 642 = .ok (.iload_n 3, 1) := dgL_law_8.2.2.2.2.2.2.2.2.1
theorem dL_law_643 : decode cL_law 643 = .ok (.iconst 1, 1) := dgL_law_8.2.2.2.2.2.2.2.2.2.1
theorem dL_law_644 : decode cL_law 644 = .ok (.iadd, 1) := dgL_law_8.2.2.2.2.2.2.2.2.2.2.1
theorem dL_law_645 : decode cL_law 645 = .ok (.iaload, 1) := dgL_law_8.2.2.2.2.2.2.2.2.2.2.2.1
theorem dL_law_646 : decode cL_law 646 = .ok (.aload_n 0, 1) := dgL_law_8.2.2.2.2.2.2.2.2.2.2.2.2.1
theorem dL_law_647 : decode cL_law 647 = .ok (.iload_n 3, 1) := dgL_law_8.2.2.2.2.2.2.2.2.2.2.2.2.2.1
theorem dL_law_648 : decode cL_law 648 = .ok (.iconst 2, 1) := dgL_law_8.2.2.2.2.2.2.2.2.2.2.2.2.2.2.1
theorem dL_law_649 : decode cL_law 649 = .ok (.iadd, 1) := dgL_law_8.2.2.2.2.2.2.2.2.2.2.2.2.2.2.2.1
theorem dL_law_650 : decode cL_law 650 = .ok (.iaload, 1) := dgL_law_8.2.2.2.2.2.2.2.2.2.2.2.2.2.2.2.2.1
theorem dL_law_651 : decode cL_law 651 = .ok (.invokevirtual 85, 3) := dgL_law_8.2.2.2.2.2.2.2.2.2.2.2.2.2.2.2.2.2.1
theorem dL_law_654 : decode cL_law 654 = .ok (.aload_n 2, 1) := dgL_law_8.2.2.2.2.2.2.2.2.2.2.2.2.2.2.2.2.2.2.1
theorem dL_law_655 : decode cL_law 655 = .ok (.aload_n 0, 1) := dgL_law_8.2.2.2.2.2.2.2.2.2.2.2.2.2.2.2.2.2.2.2.1
theorem dL_law_656 : decode cL_law 656 = .ok (.iload_n 3, 1) := dgL_law_8.2.2.2.2.2.2.2.2.2.2.2.2.2.2.2.2.2.2.2.2.1
theorem dL_law_657 : decode cL_law 657 = .ok (.iconst 1, 1) := dgL_law_8.2.2.2.2.2.2.2.2.2.2.2.2.2.2.2.2.2.2.2.2.2.1
theorem dL_law_658 : decode cL_law 658 = .ok (.iadd, 1) := dgL_law_8.2.2.2.2.2.2.2.2.2.2.2.2.2.2.2.2.2.2.2.2.2.2.1
theorem dL_law_659 : decode cL_law 659 = .ok (.iaload, 1) := dgL_law_8.2.2.2.2.2.2.2.2.2.2.2.2.2.2.2.2.2.2.2.2.2.2.2.1
theorem dL_law_660 : decode cL_law 660 = .ok (.aload_n 0, 1) := dgL_law_8.2.2.2.2.2.2.2.2.2.2.2.2.2.2.2.2.2.2.2.2.2.2.2.2.1
theorem dL_law_661 : decode cL_law 661 = .ok (.iload_n 3, 1) := dgL_law_8.2.2.2.2.2.2.2.2.2.2.2.2.2.2.2.2.2.2.2.2.2.2.2.2.2.1
theorem dL_law_662 : decode cL_law 662 = .ok (.iconst 2, 1) := dgL_law_8.2.2.2.2.2.2.2.2.2.2.2.2.2.2.2.2.2.2.2.2.2.2.2.2.2.2.1
theorem dL_law_663 : decode cL_law 663 = .ok (.iadd, 1) := dgL_law_8.2.2.2.2.2.2.2.2.2.2.2.2.2.2.2.2.2.2.2.2.2.2.2.2.2.2.2.1
theorem dL_law_664 : decode cL_law 664 = .ok (.iaload, 1) := dgL_law_8.2.2.2.2.2.2.2.2.2.2.2.2.2.2.2.2.2.2.2.2.2.2.2.2.2.2.2.2.1
theorem dL_law_665 : decode cL_law 665 = .ok (.invokevirtual 88, 3) := dgL_law_8.2.2.2.2.2.2.2.2.2.2.2.2.2.2.2.2.2.2.2.2.2.2.2.2.2.2.2.2.2.1
theorem dL_law_668 : decode cL_law 668 = .ok (.if_icmp .eq 398, 3) := dgL_law_8.2.2.2.2.2.2.2.2.2.2.2.2.2.2.2.2.2.2.2.2.2.2.2.2.2.2.2.2.2.2.1
theorem dL_law_673 : decode cL_law 673 = .ok (.aload_n 1, 1) := dgL_law_8.2.2.2.2.2.2.2.2.2.2.2.2.2.2.2.2.2.2.2.2.2.2.2.2.2.2.2.2.2.2.2.1
theorem dL_law_674 : decode cL_law 674 = .ok (.aload_n 0, 1) := dgL_law_8.2.2.2.2.2.2.2.2.2.2.2.2.2.2.2.2.2.2.2.2.2.2.2.2.2.2.2.2.2.2.2.2.1
theorem dL_law_675 : decode cL_law 675 = .ok (.iload_n 3, 1) := dgL_law_8.2.2.2.2.2.2.2.2.2.2.2.2.2.2.2.2.2.2.2.2.2.2.2.2.2.2.2.2.2.2.2.2.2.1
theorem dL_law_676 : decode cL_law 676 = .ok (.iconst 1, 1) := dgL_law_8.2.2.2.2.2.2.2.2.2.2.2.2.2.2.2.2.2.2.2.2.2.2.2.2.2.2.2.2.2.2.2.2.2.2.1
theorem dL_law_677 : decode cL_law 677 = .ok (.iadd, 1) := dgL_law_8.2.2.2.2.2.2.2.2.2.2.2.2.2.2.2.2.2.2.2.2.2.2.2.2.2.2.2.2.2.2.2.2.2.2.2.1
theorem dL_law_678 : decode cL_law 678 = .ok (.iaload, 1) := dgL_law_8.2.2.2.2.2.2.2.2.2.2.2.2.2.2.2.2.2.2.2.2.2.2.2.2.2.2.2.2.2.2.2.2.2.2.2.2.1
theorem dL_law_679 : decode cL_law 679 = .ok (.aload_n 0, 1) := dgL_law_8.2.2.2.2.2.2.2.2.2.2.2.2.2.2.2.2.2.2.2.2.2.2.2.2.2.2.2.2.2.2.2.2.2.2.2.2.2.1
theorem dL_law_680 : decode cL_law 680 = .ok (.iload_n 3, 1) := dgL_law_8.2.2.2.2.2.2.2.2.2.2.2.2.2.2.2.2.2.2.2.2.2.2.2.2.2.2.2.2.2.2.2.2.2.2.2.2.2.2.1
theorem dL_law_681 : decode cL_law 681 = .ok (.iconst 2, 1) := dgL_law_8.2.2.2.2.2.2.2.2.2.2.2.2.2.2.2.2.2.2.2.2.2.2.2.2.2.2.2.2.2.2.2.2.2.2.2.2.2.2.2.1
theorem dL_law_682 : decode cL_law 682 = .ok (.iadd, 1) := dgL_law_8.2.2.2.2.2.2.2.2.2.2.2.2.2.2.2.2.2.2.2.2.2.2.2.2.2.2.2.2.2.2.2.2.2.2.2.2.2.2.2.2.1
theorem dL_law_683 : decode cL_law 683 = .ok (.iaload, 1) := dgL_law_8.2.2.2.2.2.2.2.2.2.2.2.2.2.2.2.2.2.2.2.2.2.2.2.2.2.2.2.2.2.2.2.2.2.2.2.2.2.2.2.2.2.1
theorem dL_law_684 : decode cL_law 684 = .ok (.invokevirtual 89, 3) := dgL_law_8.2.2.2.2.2.2.2.2.2.2.2.2.2.2.2.2.2.2.2.2.2.2.2.2.2.2.2.2.2.2.2.2.2.2.2.2.2.2.2.2.2.2.1
theorem dL_law_687 : decode cL_law 687 = .ok (.aload_n 2, 1) := dgL_law_8.2.2.2.2.2.2.2.2.2.2.2.2.2.2.2.2.2.2.2.2.2.2.2.2.2.2.2.2.2.2.2.2.2.2.2.2.2.2.2.2.2.2.2.1
theorem dL_law_688 : decode cL_law 688 = .ok (.aload_n 0, 1) := dgL_law_8.2.2.2.2.2.2.2.2.2.2.2.2.2.2.2.2.2.2.2.2.2.2.2.2.2.2.2.2.2.2.2.2.2.2.2.2.2.2.2.2.2.2.2.2.1
theorem dL_law_689 : decode cL_law 689 = .ok (.iload_n 3, 1) := dgL_law_8.2.2.2.2.2.2.2.2.2.2.2.2.2.2.2.2.2.2.2.2.2.2.2.2.2.2.2.2.2.2.2.2.2.2.2.2.2.2.2.2.2.2.2.2.2.1
theorem dL_law_690 : decode cL_law 690 = .ok (.iconst 1, 1) := dgL_law_8.2.2.2.2.2.2.2.2.2.2.2.2.2.2.2.2.2.2.2.2.2.2.2.2.2.2.2.2.2.2.2.2.2.2.2.2.2.2.2.2.2.2.2.2.2.2.1
theorem dL_law_691 : decode cL_law 691 = .ok (.iadd, 1) := dgL_law_8.2.2.2.2.2.2.2.2.2.2.2.2.2.2.2.2.2.2.2.2.2.2.2.2.2.2.2.2.2.2.2.2.2.2.2.2.2.2.2.2.2.2.2.2.2.2.2.1
theorem dL_law_692 : decode cL_law 692 = .ok (.iaload, 1) := dgL_law_8.2.2.2.2.2.2.2.2.2.2.2.2.2.2.2.2.2.2.2.2.2.2.2.2.2.2.2.2.2.2.2.2.2.2.2.2.2.2.2.2.2.2.2.2.2.2.2.2.1
theorem dL_law_693 : decode cL_law 693 = .ok (.aload_n 0, 1) := dgL_law_8.2.2.2.2.2.2.2.2.2.2.2.2.2.2.2.2.2.2.2.2.2.2.2.2.2.2.2.2.2.2.2.2.2.2.2.2.2.2.2.2.2.2.2.2.2.2.2.2.2
theorem dgL_law_9 : (decode cL_law 694 = .ok (.iload_n 3, 1)) ∧ (decode cL_law 695 = .ok (.iconst 2, 1)) ∧ (decode cL_law 696 = .ok (.iadd, 1)) ∧ (decode cL_law 697 = .ok (.iaload, 1)) ∧ (decode cL_law 698 = .ok (.invokevirtual 92, 3)) ∧ (decode cL_law 701 = .ok (.if_icmp .eq 365, 3)) ∧ (decode cL_law 706 = .ok (.aload_n 1, 1)) ∧ (decode cL_law 707 = .ok (.aload_n 0, 1)) ∧ (decode cL_law 708 = .ok (.iload_n 3, 1)) ∧ (decode cL_law 709 = .ok (.iconst 1, 1)) ∧ (decode cL_law 710 = .ok (.iadd, 1)) ∧ (decode cL_law 711 = .ok (.iaload, 1)) ∧ (decode cL_law 712 = .ok (.aload_n 0, 1)) ∧ (decode cL_law 713 = .ok (.iload_n 3, 1)) ∧ (decode cL_law 714 = .ok (.iconst 2, 1)) ∧ (decode cL_law 715 = .ok (.iadd, 1)) ∧ (decode cL_law 716 = .ok (.iaload, 1)) ∧ (decode cL_law 717 = .ok (.invokevirtual 93, 3)) ∧ (decode cL_law 720 = .ok (.aload_n 2, 1)) ∧ (decode cL_law 721 = .ok (.aload_n 0, 1)) ∧ (decode cL_law 722 = .ok (.iload_n 3, 1)) ∧ (decode cL_law 723 = .ok (.iconst 1, 1)) ∧ (decode cL_law 724 = .ok (.iadd, 1)) ∧ (decode cL_law 725 = .ok (.iaload, 1)) ∧ (decode cL_law 726 = .ok (.aload_n 0, 1)) ∧ (decode cL_law 727 = .ok (.iload_n 3, 1)) ∧ (decode cL_law 728 = .ok (.iconst 2, 1)) ∧ (decode cL_law 729 = .ok (.iadd, 1)) ∧ (decode cL_law 730 = .ok (.iaload, 1)) ∧ (decode cL_law 731 = .ok (.invokevirtual 96, 3)) ∧ (decode cL_law 734 = .ok (.if_icmp .eq 332, 3)) ∧ (decode cL_law 739 = .ok (.aload_n 1, 1)) ∧ (decode cL_law 740 = .ok (.aload_n 0, 1)) ∧ (decode cL_law 741 = .ok (.iload_n 3, 1)) ∧ (decode cL_law 742 = .ok (.iconst 1, 1)) ∧ (decode cL_law 743 = .ok (.iadd, 1)) ∧ (decode cL_law 744 = .ok (.iaload, 1)) ∧ (decode cL_law 745 = .ok (.invokevirtual 97, 3)) ∧ (decode cL_law 748 = .ok (.aload_n 2, 1)) ∧ (decode cL_law 749 = .ok (.aload_n 0, 1)) ∧ (decode cL_law 750 = .ok (.iload_n 3, 1)) ∧ (decode cL_law 751 = .ok (.iconst 1, 1)) ∧ (decode cL_law 752 = .ok (.iadd, 1)) ∧ (decode cL_law 753 = .ok (.iaload, 1)) ∧ (decode cL_law 754 = .ok (.invokevirtual 100, 3)) ∧ (decode cL_law 757 = .ok (.if_icmp .eq 309, 3)) ∧ (decode cL_law 762 = .ok (.aload_n 1, 1)) ∧ (decode cL_law 763 = .ok (.aload_n 0, 1)) ∧ (decode cL_law 764 = .ok (.iload_n 3, 1)) ∧ (decode cL_law 765 = .ok (.iconst 1, 1)) := by decide +kernel
theorem dL_law_694 : decode cL_law 694 = .ok (.iload_n 3, 1) := dgL_law_9.1
theorem dL_law_695 : decode cL_law 695 = .ok (.iconst 2, 1) := dgL_law_9.2.1
theorem dL_law_696 : decode cL_law 696 = .ok (.iadd, 1) := dgL_law_9.2.2.1
theorem dL_law_697 : decode cL_law 697 = .ok (.iaload, 1) := dgL_law_9.2.2.2.1
theorem dL_law_698 : decode cL_law 698 = .ok (.invokevirtual 92, 3) := dgL_law_9.2.2.2.2.1
theorem dL_law_701 : decode cL_law 701 = .ok (.if_icmp .eq 365, 3) := dgL_law_9.2.2.2.2.2.1
theorem dL_law_706 : decode cL_law 706 = .ok (.aload_n 1, 1) := dgL_law_9.2.2.2.2.2.2.1
theorem dL_law_707 : decode cL_law 707 = .ok (.aload_n 0, 1) := dgL_law_9.2.2.2.2.2.2.2.1
theorem dL_law_708 : decode cL_law 708 = .ok (.iload_n 3, 1) := dgL_law_9.2.2.2.2.2.2.2.2.1
theorem dL_law_709 : decode cL_law 709 = .ok (.iconst 1, 1) := dgL_law_9.2.2.2.2.2.2.2.2.2.1
theorem dL_law_710 : decode cL_law 710 = .ok (.iadd, 1) := dgL_law_9.2.2.2.2.2.2.2.2.2.2.1
theorem dL_law_711 : decode cL_law 711 = .ok (.iaload, 1) := dgL_law_9.2.2.2.2.2.2.2.2.2.2.2.1
theorem dL_law_712 : decode cL_law 712 = .ok (.aload_n 0, 1) := dgL_law_9.2.2.2.2.2.2.2.2.2.2.2.2.1
theorem dL_law_713 : decode cL_law 713 = .ok (.iload_n 3, 1) := dgL_law_9.2.2.2.2.2.2.2.2.2.2.2.2.2.1
theorem dL_law_714 : decode cL_law 714 = .ok (.iconst 2, 1) := dgL_law_9.2.2.2.2.2.2.2.2.2.2.2.2.2.2.1
theorem dL_law_715 : decode cL_law 715 = .ok (.iadd, 1) := dgL_law_9.2.2.2.2.2.2.2.2.2.2.2.2.2.2.2.1
theorem dL_law_716 : decode cL_law 716 = .ok (.iaload, 1) := dgL_law_9.2.2.2.2.2.2.2.2.2.2.2.2.2.2.2.2.1
theorem dL_law_717 : decode cL_law 717 = .ok (.invokevirtual 93, 3) := dgL_law_9.2.2.2.2.2.2.2.2.2.2.2.2.2.2.2.2.2.1
theorem dL_law_720 : decode cL_law 720 = .ok (.aload_n 2, 1) := dgL_law_9.2.2.2.2.2.2.2.2.2.2.2.2.2.2.2.2.2.2.1
theorem dL_law_721 : decode cL_law 721 = .ok (.aload_n 0, 1) := dgL_law_9.2.2.2.2.2.2.2.2.2.2.2.2.2.2.2.2.2.2.2.1
theorem dL_law_722 : decode cL_law 722 = .ok (.iload_n 3, 1) := dgL_law_9.2.2.2.2.2.2.2.2.2.2.2.2.2.2.2.2.2.2.2.2.1
theorem dL_law_723 : decode cL_law 723 = .ok (.iconst 1, 1) := dgL_law_9.2.2.2.2.2.2.2.2.2.2.2.2.2.2.2.2.2.2.2.2.2.1
theorem dL_law_724 : decode cL_law 724 = .ok (.iadd, 1) := dgL_law_9.2.2.2.2.2.2.2.2.2.2.2.2.2.2.2.2.2.2.2.2.2.2.1
theorem dL_law_725 : decode cL_law 725 = .ok (.iaload, 1) := dgL_law_9.2.2.2.2.2.2.2.2.2.2.2.2.2.2.2.2.2.2.2.2.2.2.2.1
theorem dL_law_726 : decode cL_law 726 = .ok (.aload_n 0, 1) := dgL_law_9.2.2.2.2.2.2.2.2.2.2.2.2.2.2.2.2.2.2.2.2.2.2.2.2.1
theorem dL_law_727 : decode cL_law 727 = .ok (.iload_n 3, 1) := dgL_law_9.2.2.2.2.2.2.2.2.2.2.2.2.2.2.2.2.2.2.2.2.2.2.2.2.2.1
theorem dL_law_728 : decode cL_law 728 = .ok (.iconst 2, 1) := dgL_law_9.2.2.2.2.2.2.2.2.2.2.2.2.2.2.2.2.2.2.2.2.2.2.2.2.2.2.1
theorem dL_law_729 : decode cL_law 729 = .ok (.iadd, 1) := dgL_law_9.2.2.2.2.2.2.2.2.2.2.2.2.2.2.2.2.2.2.2.2.2.2.2.2.2.2.2.1
theorem dL_law_730 : decode cL_law 730 = .ok (.iaload, 1) := dgL_law_9.2.2.2.2.2.2.2.2.2.2.2.2.2.2.2.2.2.2.2.2.2.2.2.2.2.2.2.2.1
theorem dL_law_731 : decode cL_law 731 = .ok (.invokevirtual 96, 3) := dgL_law_9.2.2.2.2.2.2.2.2.2.2.2.2.2.2.2.2.2.2.2.2.2.2.2.2.2.2.2.2.2.1
theorem dL_law_734 : decode cL_law 734 = .ok (.if_icmp .eq 332, 3) := dgL_law_9.2.2.2.2.2.2.2.2.2.2.2.2.2.2.2.2.2.2.2.2.2.2.2.2.2.2.2.2.2.2.1
theorem dL_law_739 : decode cL_law 739 = .ok (.aload_n 1, 1) := dgL_law_9.2.2.2.2.2.2.2.2.2.2.2.2.2.2.2.2.2.2.2.2.2.2.2.2.2.2.2.2.2.2.2.1
theorem dL_law_740 : decode cL_law 740 = .ok (.aload_n 0, 1) := dgL_law_9.2.2.2.2.2.2.2.2.2.2.2.2.2.2.2.2.2.2.2.2.2.2.2.2.2.2.2.2.2.2.2.2.1
theorem dL_law_741 : decode cL_law 741 = .ok (.iload_n 3, 1) := dgL_law_9.2.2.2.2.2.2.2.2.2.2.2.2.2.2.2.2.2.2.2.2.2.2.2.2.2.2.2.2.2.2.2.2.2.1
theorem dL_law_742 : decode cL_law 742 = .ok (.iconst 1, 1) := dgL_law_9.2.2.2.2.2.2.2.2.2.2.2.2.2.2.2.2.2.2.2.2.2.2.2.2.2.2.2.2.2.2.2.2.2.2.1
theorem dL_law_743 : decode cL_law 743 = .ok (.iadd, 1) := dgL_law_9.2.2.2.2.2.2.2.2.2.2.2.2.2.2.2.2.2.2.2.2.2.2.2.2.2.2.2.2.2.2.2.2.2.2.2.1
theorem dL_law_744 : decode cL_law 744 = .ok (.iaload, 1) := dgL_law_9.2.2.2.2.2.2.2.2.2.2.2.2.2.2.2.2.2.2.2.2.2.2.2.2.2.2.2.2.2.2.2.2.2.2.2.2.1
theorem dL_law_745 : decode cL_law 745 = .ok (.invokevirtual 97, 3) := dgL_law_9.2.2.2.2.2.2.2.2.2.2.2.2.2.2.2.2.2.2.2.2.2.2.2.2.2.2.2.2.2.2.2.2.2.2.2.2.2.1
theorem dL_law_748 : decode cL_law 748 = .ok (.aload_n 2, 1) := dgL_law_9.2.2.2.2.2.2.2.2.2.2.2.2.2.2.2.2.2.2.2.2.2.2.2.2.2.2.2.2.2.2.2.2.2.2.2.2.2.2.1
theorem dL_law_749 : decode cL_law 749 = .ok (.aload_n 0, 1) := dgL_law_9.2.2.2.2.2.2.2.2.2.2.2.2.2.2.2.2.2.2.2.2.2.2.2.2.2.2.2.2.2.2.2.2.2.2.2.2.2.2.2.1
theorem dL_law_750 : decode cL_law 750 = .ok (.iload_n 3, 1) := dgL_law_9.2.2.2.2.2.2.2.2.2.2.2.2.2.2.2.2.2.2.2.2.2.2.2.2.2.2.2.2.2.2.2.2.2.2.2.2.2.2.2.2.1
theorem dL_law_751 : decode cL_law 751 = .ok (.iconst 1, 1) := dgL_law_9.2.2.2.2.2.2.2.2.2.2.2.2.2.2.2.2.2.2.2.2.2.2.2.2.2.2.2.2.2.2.2.2.2.2.2.2.2.2.2.2.2.1
theorem dL_law_752 : decode cL_law 752 = .ok (.iadd, 1) := dgL_law_9.2.2.2.2.2.2.2.2.2.2.2.2.2.2.2.2.2.2.2.2.2.2.2.2.2.2.2.2.2.2.2.2.2.2.2.2.2.2.2.2.2.2.1
theorem dL_law_753 : decode cL_law 753 = .ok (.iaload, 1) := dgL_law_9.2.2.2.2.2.2.2.2.2.2.2.2.2.2.2.2.2.2.2.2.2.2.2.2.2.2.2.2.2.2.2.2.2.2.2.2.2.2.2.2.2.2.2.1
theorem dL_law_754 : decode cL_law 754 = .ok (.invokevirtual 100, 3) := dgL_law_9.2.2.2.2.2.2.2.2.2.2.2.2.2.2.2.2.2.2.2.2.2.2.2.2.2.2.2.2.2.2.2.2.2.2.2.2.2.2.2.2.2.2.2.2.1
theorem dL_law_757 : decode cL_law 757 = .ok (.if_icmp .eq 309, 3) := dgL_law_9.2.2.2.2.2.2.2.2.2.2.2.2.2.2.2.2.2.2.2.2.2.2.2.2.2.2.2.2.2.2.2.2.2.2.2.2.2.2.2.2.2.2.2.2.2.1
theorem dL_law_762 : decode cL_law 762 = .ok (.aload_n 1, 1) := dgL_law_9.2.2.2.2.2.2.2.2.2.2.2.2.2.2.2.2.2.2.2.2.2.2.2.2.2.2.2.2.2.2.2.2.2.2.2.2.2.2.2.2.2.2.2.2.2.2.1
theorem dL_law_763 : decode cL_law 763 = .ok (.aload_n 0, 1) := dgL_law_9.2.2.2.2.2.2.2.2.2.2.2.2.2.2.2.2.2.2.2.2.2.2.2.2.2.2.2.2.2.2.2.2.2.2.2.2.2.2.2.2.2.2.2.2.2.2.2.1
theorem dL_law_764 : decode cL_law 764 = .ok (.iload_n 3, 1) := dgL_law_9.2.2.2.2.2.2.2.2.2.2.2.2.2.2.2.2.2.2.2.2.2.2.2.2.2.2.2.2.2.2.2.2.2.2.2.2.2.2.2.2.2.2.2.2.2.2.2.2.1
theorem dL_law_765 : decode cL_law 765 = .ok (.iconst 1, 1) := dgL_law_9.2.2.2.2.2.2.2.2.2.2.2.2.2.2.2.2.2.2.2.2.2.2.2.2.2.2.2.2.2.2.2.2.2.2.2.2.2.2.2.2.2.2.2.2.2.2.2.2.2
theorem dgL_law_10 : (decode cL_law 766 = .ok (.iadd, 1)) ∧ (decode cL_law 767 = .ok (.iaload, 1)) ∧ (decode cL_law 768 = .ok (.aload_n 0, 1)) ∧ (decode cL_law 769 = .ok (.iload_n 3, 1)) ∧ (decode cL_law 770 = .ok (.iconst 2, 1)) ∧ (decode cL_law 771 = .ok (.iadd, 1)) ∧ (decode cL_law 772 = .ok (.iaload, 1)) ∧ (decode cL_law 773 = .ok (.invokevirtual 101, 3)) ∧ (decode cL_law 776 = .ok (.aload_n 2, 1)) ∧ (decode cL_law 777 = .ok (.aload_n 0, 1)) ∧ (decode cL_law 778 = .ok (.iload_n 3, 1)) ∧ (decode cL_law 779 = .ok (.iconst 1, 1)) ∧ (decode cL_law 780 = .ok (.iadd, 1)) ∧ (decode cL_law 781 = .ok (.iaload, 1)) ∧ (decode cL_law 782 = .ok (.aload_n 0, 1)) ∧ (decode cL_law 783 = .ok (.iload_n 3, 1)) ∧ (decode cL_law 784 = .ok (.iconst 2, 1)) ∧ (decode cL_law 785 = .ok (.iadd, 1)) ∧ (decode cL_law 786 = .ok (.iaload, 1)) ∧ (decode cL_law 787 = .ok (.invokevirtual 104, 3)) ∧ (decode cL_law 790 = .ok (.if_icmp .eq 276, 3)) ∧ (decode cL_law 795 = .ok (.aload_n 1, 1)) ∧ (decode cL_law 796 = .ok (.aload_n 0, 1)) ∧ (decode cL_law 797 = .ok (.iload_n 3, 1)) ∧ (decode cL_law 798 = .ok (.iconst 1, 1)) ∧ (decode cL_law 799 = .ok (.iadd, 1)) ∧ (decode cL_law 800 = .ok (.iaload, 1)) ∧ (decode cL_law 801 = .ok (.aload_n 0, 1)) ∧ (decode cL_law 802 = .ok (.iload_n 3, 1)) ∧ (decode cL_law 803 = .ok (.iconst 2, 1)) ∧ (decode cL_law 804 = .ok (.iadd, 1)) ∧ (decode cL_law 805 = .ok (.iaload, 1)) ∧ (decode cL_law 806 = .ok (.aload_n 0, 1)) ∧ (decode cL_law 807 = .ok (.iload_n 3, 1)) ∧ (decode cL_law 808 = .ok (.iconst 3, 1)) ∧ (decode cL_law 809 = .ok (.iadd, 1)) ∧ (decode cL_law 810 = .ok (.iaload, 1)) ∧ (decode cL_law 811 = .ok (.invokevirtual 105, 3)) ∧ (decode cL_law 814 = .ok (.aload_n 2, 1)) ∧ (decode cL_law 815 = .ok (.aload_n 0, 1)) ∧ (decode cL_law 816 = .ok (.iload_n 3, 1)) ∧ (decode cL_law 817 = .ok (.iconst 1, 1)) ∧ (decode cL_law 818 = .ok (.iadd, 1)) ∧ (decode cL_law 819 = .ok (.iaload, 1)) ∧ (decode cL_law 820 = .ok (.aload_n 0, 1)) ∧ (decode cL_law 821 = .ok (.iload_n 3, 1)) ∧ (decode cL_law 822 = .ok (.iconst 2, 1)) ∧ (decode cL_law 823 = .ok (.iadd, 1)) ∧ (decode cL_law 824 = .ok (.iaload, 1)) ∧ (decode cL_law 825 = .ok (.aload_n 0, 1)) := by decide +kernel
theorem dL_law_766 : decode cL_law 766 = .ok (.iadd, 1) := dgL_law_10.1
theorem dL_law_767 : decode cL_law 767 = .ok (.iaload, 1) := dgL_law_10.2.1
theorem dL_law_768 : decode cL_law 768 = .ok (.aload_n 0, 1) := dgL_law_10.2.2.1
theorem dL_law_769 : decode cL_law 769 = .ok (.iload_n 3, 1) := dgL_law_10.2.2.2.1
theorem dL_law_770 : decode cL_law 770 = .ok (.iconst 2, 1) := dgL_law_10.2.2.2.2.1
theorem dL_law_771 : decode cL_law 771 = .ok (.iadd, 1) := dgL_law_10.2.2.2.2.2.1
theorem dL_law_772 : decode cL_law 772 = .ok (.iaload, 1) := dgL_law_10.2.2.2.2.2.2.1
theorem dL_law_773 : decode cL_law 773 = .ok (.invokevirtual 101, 3) := dgL_law_10.2.2.2.2.2.2.2.1
theorem dL_law_776 : decode cL_law 776 = .ok (.aload_n 2, 1) := dgL_law_10.2.2.2.2.2.2.2.2.1
theorem dL_law_777 : decode cL_law 777 = .ok (.aload_n 0, 1) := dgL_law_10.2.2.2.2.2.2.2.2.2.1
theorem dL_law_778 : decode cL_law 778 = .ok (.iload_n 3, 1) := dgL_law_10.2.2.2.2.2.2.2.2.2.2.1
theorem dL_law_779 : decode cL_law 779 = .ok (.iconst 1, 1) := dgL_law_10.2.2.2.2.2.2.2.2.2.2.2.1
theorem dL_law_780 : decode cL_law 780 = .ok (.iadd, 1) := dgL_law_10.2.2.2.2.2.2.2.2.2.2.2.2.1
theorem dL_law_781 : decode cL_law 781 = .ok (.iaload, 1) := dgL_law_10.2.2.2.2.2.2.2.2.2.2.2.2.2.1
theorem dL_law_782 : decode cL_law 782 = .ok (.aload_n 0, 1) := dgL_law_10.2.2.2.2.2.2.2.2.2.2.2.2.2.2.1
theorem dL_law_783 : decode cL_law 783 = .ok (.iload_n 3, 1) := dgL_law_10.2.2.2.2.2.2.2.2.2.2.2.2.2.2.2.1
theorem dL_law_784 : decode cL_law 784 = .ok (.iconst 2, 1) := dgL_law_10.2.2.2.2.2.2.2.2.2.2.2.2.2.2.2.2.1
theorem dL_law_785 : decode cL_law 785 = .ok (.iadd, 1) := dgL_law_10.2.2.2.2.2.2.2.2.2.2.2.2.2.2.2.2.2.1
theorem dL_law_786 : decode cL_law 786 = .ok (.iaload, 1) := dgL_law_10.2.2.2.2.2.2.2.2.2.2.2.2.2.2.2.2.2.2.1
theorem dL_law_787 : decode cL_law 787 = .ok (.invokevirtual 104, 3) := dgL_law_10.2.2.2.2.2.2.2.2.2.2.2.2.2.2.2.2.2.2.2.1
theorem dL_law_790 : decode cL_law 790 = .ok (.if_icmp .eq 276, 3) := dgL_law_10.2.2.2.2.2.2.2.2.2.2.2.2.2.2.2.2.2.2.2.2.1
theorem dL_law_795 : decode cL_law 795 = .ok (.aload_n 1, 1) := dgL_law_10.2.2.2.2.2.2.2.2.2.2.2.2.2.2.2.2.2.2.2.2.2.1
theorem dL_law_796 : decode cL_law 796 = .ok (.aload_n 0, 1) := dgL_law_10.2.2.2.2.2.2.2.2.2.2.2.2.2.2.2.2.2.2.2.2.2.2.1
theorem dL_law_797 : decode cL_law 797 = .ok (.iload_n 3, 1) := dgL_law_10.2.2.2.2.2.2.2.2.2.2.2.2.2.2.2.2.2.2.2.2.2.2.2.1
theorem dL_law_798 : decode cL_law 798 = .ok (.iconst 1, 1) := dgL_law_10.2.2.2.2.2.2.2.2.2.2.2.2.2.2.2.2.2.2.2.2.2.2.2.2.1
theorem dL_law_799 : decode cL_law 799 = .ok (.iadd, 1) := dgL_law_10.2.2.2.2.2.2.2.2.2.2.2.2.2.2.2.2.2.2.2.2.2.2.2.2.2.1
theorem dL_law_800 : decode cL_law 800 = .ok (.iaload, 1) := dgL_law_10.2.2.2.2.2.2.2.2.2.2.2.2.2.2.2.2.2.2.2.2.2.2.2.2.2.2.1
theorem dL_law_801 : decode cL_law 801 = .ok (.aload_n 0, 1) := dgL_law_10.2.2.2.2.2.2.2.2.2.2.2.2.2.2.2.2.2.2.2.2.2.2.2.2.2.2.2.1
theorem dL_law_802 : decode cL_law 802 = .ok (.iload_n 3, 1) := dgL_law_10.2.2.2.2.2.2.2.2.2.2.2.2.2.2.2.2.2.2.2.2.2.2.2.2.2.2.2.2.1
theorem dL_law_803 : decode cL_law 803 = .ok (.iconst 2, 1) := dgL_law_10.2.2.2.2.2.2.2.2.2.2.2.2.2.2.2.2.2.2.2.2.2.2.2.2.2.2.2.2.2.1
theorem dL_law_804 : decode cL_law 804 = .ok (.iadd, 1) := dgL_law_10.2.2.2.2.2.2.2.2.2.2.2.2.2.2.2.2.2.2.2.2.2.2.2.2.2.2.2.2.2.2.1
theorem dL_law_805 : decode cL_law 805 = .ok (.iaload, 1) := dgL_law_10.2.2.2.2.2.2.2.2.2.2.2.2.2.2.2.2.2.2.2.2.2.2.2.2.2.2.2.2.2.2.2.1
theorem dL_law_806 : decode cL_law 806 = .ok (.aload_n 0, 1) := dgL_law_10.2.2.2.2.2.2.2.2.2.2.2.2.2.2.2.2.2.2.2.2.2.2.2.2.2.2.2.2.2.2.2.2.1
theorem dL_law_807 : decode cL_law 807 = .ok (.iload_n 3, 1) := dgL_law_10.2.2.2.2.2.2.2.2.2.2.2.2.2.2.2.2.2.2.2.2.2.2.2.2.2.2.2.2.2.2.2.2.2.1
theorem dL_law_808 : decode cL_law 808 = .ok (.iconst 3, 1) := dgL_law_10.2.2.2.2.2.2.2.2.2.2.2.2.2.2.2.2.2.2.2.2.2.2.2.2.2.2.2.2.2.2.2.2.2.2.1
theorem dL_law_809 : decode cL_law 809 = .ok (.iadd, 1) := dgL_law_10.2.2.2.2.2.2.2.2.2.2.2.2.2.2.2.2.2.2.2.2.2.2.2.2.2.2.2.2.2.2.2.2.2.2.2.1
theorem dL_law_810 : decode cL_law 810 = .ok (.iaload, 1) := dgL_law_10.2.2.2.2.2.2.2.2.2.2.2.2.2.2.2.2.2.2.2.2.2.2.2.2.2.2.2.2.2.2.2.2.2.2.2.2.1
theorem dL_law_811 : decode cL_law 811 = .ok (.invokevirtual 105, 3) := dgL_law_10.2.2.2.2.2.2.2.2.2.2.2.2.2.2.2.2.2.2.2.2.2.2.2.2.2.2.2.2.2.2.2.2.2.2.2.2.2.1
theorem dL_law_814 : decode cL_law 814 = .ok (.aload_n 2, 1) := dgL_law_10.2.2.2.2.2.2.2.2.2.2.2.2.2.2.2.2.2.2.2.2.2.2.2.2.2.2.2.2.2.2.2.2.2.2.2.2.2.2.1
theorem dL_law_815 : decode cL_law 815 = .ok (.aload_n 0, 1) := dgL_law_10.2.2.2.2.2.2.2.2.2.2.2.2.2.2.2.2.2.2.2.2.2.2.2.2.2.2.2.2.2.2.2.2.2.2.2.2.2.2.2.1
theorem dL_law_816 : decode cL_law 816 = .ok (.iload_n 3, 1) := dgL_law_10.2.2.2.2.2.2.2.2.2.2.2.2.2.2.2.2.2.2.2.2.2.2.2.2.2.2.2.2.2.2.2.2.2.2.2.2.2.2.2.2.1
theorem dL_law_817 : decode cL_law 817 = .ok (.iconst 1, 1) := dgL_law_10.2.2.2.2.2.2.2.2.2.2.2.2.2.2.2.2.2.2.2.2.2.2.2.2.2.2.2.2.2.2.2.2.2.2.2.2.2.2.2.2.2.1
theorem dL_law_818 : decode cL_law 818 = .ok (.iadd, 1) := dgL_law_10.2.2.2.2.2.2.2.2.2.2.2.2.2.2.2.2.2.2.2.2.2.2.2.2.2.2.2.2.2.2.2.2.2.2.2.2.2.2.2.2.2.2.1
theorem dL_law_819 : decode cL_law 819 = .ok (.iaload, 1) := dgL_law_10.2.2.2.2.2.2.2.2.2.2.2.2.2.2.2.2.2.2.2.2.2.2.2.2.2.2.2.2.2.2.2.2.2.2.2.2.2.2.2.2.2.2.2.1
theorem dL_law_820 : decode cL_law 820 = .ok (.aload_n 0, 1) := dgL_law_10.2.2.2.2.2.2.2.2.2.2.2.2.2.2.2.2.2.2.2.2.2.2.2.2.2.2.2.2.2.2.2.2.2.2.2.2.2.2.2.2.2.2.2.2.1
theorem dL_law_821 : decode cL_law 821 = .ok (.iload_n 3, 1) := dgL_law_10.2.2.2.2.2.2.2.2.2.2.2.2.2.2.2.2.2.2.2.2.2.2.2.2.2.2.2.2.2.2.2.2.2.2.2.2.2.2.2.2.2.2.2.2.2.1
theorem dL_law_822 : decode cL_law 822 = .ok (.iconst 2, 1) := dgL_law_10.2.2.2.2.2.2.2.2.2.2.2.2.2.2.2.2.2.2.2.2.2.2.2.2.2.2.2.2.2.2.2.2.2.2.2.2.2.2.2.2.2.2.2.2.2.2.1
theorem dL_law_823 : decode cL_law 823 = .ok (.iadd, 1) := dgL_law_10.2.2.2.2.2.2.2.2.2.2.2.2.2.2.2.2.2.2.2.2.2.2.2.2.2.2.2.2.2.2.2.2.2.2.2.2.2.2.2.2.2.2.2.2.2.2.2.1
theorem dL_law_824 : decode cL_law 824 = .ok (.iaload, 1) := dgL_law_10.2.2.2.2.2.2.2.2.2.2.2.2.2.2.2.2.2.2.2.2.2.2.2.2.2.2.2.2.2.2.2.2.2.2.2.2.2.2.2.2.2.2.2.2.2.2.2.2.1
theorem dL_law_825 : decode cL_law 825 = .ok (.aload_n 0, 1) := dgL_law_10.2.2.2.2.2.2.2.2.2.2.2.2.2.2.2.2.2.2.2.2.2.2.2.2.2.2.2.2.2.2.2.2.2.2.2.2.2.2.2.2.2.2.2.2.2.2.2.2.2
theorem dgL_law_11 : (decode cL_law 826 = .ok (.iload_n 3, 1)) ∧ (decode cL_law 827 = .ok (.iconst 3, 1)) ∧ (decode cL_law 828 = .ok (.iadd, 1)) ∧ (decode cL_law 829 = .ok (.iaload, 1)) ∧ (decode cL_law 830 = .ok (.invokevirtual 108, 3)) ∧ (decode cL_law 833 = .ok (.if_icmp .eq 233, 3)) ∧ (decode cL_law 838 = .ok (.aload_n 1, 1)) ∧ (decode cL_law 839 = .ok (.invokevirtual 109, 3)) ∧ (decode cL_law 842 = .ok (.aload_n 2, 1)) ∧ (decode cL_law 843 = .ok (.invokevirtual 112, 3)) ∧ (decode cL_law 846 = .ok (.if_icmp .eq 220, 3)) ∧ (decode cL_law 851 = .ok (.aload_n 1, 1)) ∧ (decode cL_law 852 = .ok (.invokevirtual 113, 3)) ∧ (decode cL_law 855 = .ok (.aload_n 2, 1)) ∧ (decode cL_law 856 = .ok (.invokevirtual 116, 3)) ∧ (decode cL_law 859 = .ok (.if_icmp .eq 207, 3)) ∧ (decode cL_law 864 = .ok (.aload_n 1, 1)) ∧ (decode cL_law 865 = .ok (.aload_n 0, 1)) ∧ (decode cL_law 866 = .ok (.iload_n 3, 1)) ∧ (decode cL_law 867 = .ok (.iconst 1, 1)) ∧ (decode cL_law 868 = .ok (.iadd, 1)) ∧ (decode cL_law 869 = .ok (.iaload, 1)) ∧ (decode cL_law 870 = .ok (.aload_n 0, 1)) ∧ (decode cL_law 871 = .ok (.iload_n 3, 1)) ∧ (decode cL_law 872 = .ok (.iconst 2, 1)) ∧ (decode cL_law 873 = .ok (.iadd, 1)) ∧ (decode cL_law 874 = .ok (.iaload, 1)) ∧ (decode cL_law 875 = .ok (.invokevirtual 117, 3)) ∧ (decode cL_law 878 = .ok (.aload_n 2, 1)) ∧ (decode cL_law 879 = .ok (.aload_n 0, 1)) ∧ (decode cL_law 880 = .ok (.iload_n 3, 1)) ∧ (decode cL_law 881 = .ok (.iconst 1, 1)) ∧ (decode cL_law 882 = .ok (.iadd, 1)) ∧ (decode cL_law 883 = .ok (.iaload, 1)) ∧ (decode cL_law 884 = .ok (.aload_n 0, 1)) ∧ (decode cL_law 885 = .ok (.iload_n 3, 1)) ∧ (decode cL_law 886 = .ok (.iconst 2, 1)) ∧ (decode cL_law 887 = .ok (.iadd, 1)) ∧ (decode cL_law 888 = .ok (.iaload, 1)) ∧ (decode cL_law 889 = .ok (.invokevirtual 120, 3)) ∧ (decode cL_law 892 = .ok (.if_icmp .eq 174, 3)) ∧ (decode cL_law 897 = .ok (.aload_n 1, 1)) ∧ (decode cL_law 898 = .ok (.aload_n 0, 1)) ∧ (decode cL_law 899 = .ok (.iload_n 3, 1)) ∧ (decode cL_law 900 = .ok (.iconst 1, 1)) ∧ (decode cL_law 901 = .ok (.iadd, 1)) ∧ (decode cL_law 902 = .ok (.iaload, 1)) ∧ (decode cL_law 903 = .ok (.aload_n 0, 1)) ∧ (decode cL_law 904 = .ok (.iload_n 3, 1)) ∧ (decode cL_law 905 = .ok (.iconst 2, 1)) := by decide +kernel
theorem dL_law_826 : decode cL_law 826 = .ok (.iload_n 3, 1) := dgL_law_11.1
theorem dL_law_827 : decode cL_law 827 = .ok (.iconst 3, 1) := dgL_law_11.2.1
theorem dL_law_828 : decode cL_law 828 = .ok (.iadd, 1) := dgL_law_11.2.2.1
theorem dL_law_829 : decode cL_law 829 = .ok (.iaload, 1) := dgL_law_11.2.2.2.1
theorem dL_law_830 : decode cL_law 830 = .ok (.invokevirtual 108, 3) := dgL_law_11.2.2.2.2.1
theorem dL_law_833 : decode cL_law 833 = .ok (.if_icmp .eq 233, 3) := dgL_law_11.2.2.2.2.2.1
theorem dL_law_838 : decode cL_law 838 = .ok (.aload_n 1, 1) := dgL_law_11.2.2.2.2.2.2.1
theorem dL_law_839 : decode cL_law 839 = .ok (.invokevirtual 109, 3) := dgL_law_11.2.2.2.2.2.2.2.1
theorem dL_law_842 : decode cL_law 842 = .ok (.aload_n 2, 1) := dgL_law_11.2.2.2.2.2.2.2.2.1
theorem dL_law_843 : decode cL_law 843 = .ok (.invokevirtual 112, 3) := dgL_law_11.2.2.2.2.2.2.2.2.2.1
theorem dL_law_846 : decode cL_law 846 = .ok (.if_icmp .eq 220, 3) := dgL_law_11.2.2.2.2.2.2.2.2.2.2.1
theorem dL_law_851 : decode cL_law 851 = .ok (.aload_n 1, 1) := dgL_law_11.2.2.2.2.2.2.2.2.2.2.2.1
theorem dL_law_852 : decode cL_law 852 = .ok (.invokevirtual 113, 3) := dgL_law_11.2.2.2.2.2.2.2.2.2.2.2.2.1
theorem dL_law_855 : decode cL_law 855 = .ok (.aload_n 2, 1) := dgL_law_11.2.2.2.2.2.2.2.2.2.2.2.2.2.1
theorem dL_law_856 : decode cL_law 856 = .ok (.invokevirtual 116, 3) := dgL_law_11.2.2.2.2.2.2.2.2.2.2.2.2.2.2.1
theorem dL_law_859 : decode cL_law 859 = .ok (.if_icmp .eq 207, 3) := dgL_law_11.2.2.2.2.2.2.2.2.2.2.2.2.2.2.2.1
theorem dL_law_864 : decode cL_law 864 = .ok (.aload_n 1, 1) := dgL_law_11.2.2.2.2.2.2.2.2.2.2.2.2.2.2.2.2.1
theorem dL_law_865 : decode cL_law 865 = .ok (.aload_n 0, 1) := dgL_law_11.2.2.2.2.2.2.2.2.2.2.2.2.2.2.2.2.2.1
theorem dL_law_866 : decode cL_law 866 = .ok (.iload_n 3, 1) := dgL_law_11.2.2.2.2.2.2.2.2.2.2.2.2.2.2.2.2.2.2.1
theorem dL_law_867 : decode cL_law 867 = .ok (.iconst 1, 1) := dgL_law_11.2.2.2.2.2.2.2.2.2.2.2.2.2.2.2.2.2.2.2.1
theorem dL_law_868 : decode cL_law 868 = .ok (.iadd, 1) := dgL_law_11.2.2.2.2.2.2.2.2.2.2.2.2.2.2.2.2.2.2.2.2.1
theorem dL_law_869 : decode cL_law 869 = .ok (.iaload, 1) := dgL_law_11.2.2.2.2.2.2.2.2.2.2.2.2.2.2.2.2.2.2.2.2.2.1
theorem dL_law_870 : decode cL_law 870 = .ok (.aload_n 0, 1) := dgL_law_11.2.2.2.2.2.2.2.2.2.2.2.2.2.2.2.2.2.2.2.2.2.2.1
theorem dL_law_871 : decode cL_law 871 = .ok (.iload_n 3, 1) := dgL_law_11.2.2.2.2.2.2.2.2.2.2.2.2.2.2.2.2.2.2.2.2.2.2.2.1
theorem dL_law_872 : decode cL_law 872 = .ok (.iconst 2, 1) := dgL_law_11.2.2.2.2.2.2.2.2.2.2.2.2.2.2.2.2.2.2.2.2.2.2.2.2.1
theorem dL_law_873 : decode cL_law 873 = .ok (.iadd, 1) := dgL_law_11.2.2.2.2.2.2.2.2.2.2.2.2.2.2.2.2.2.2.2.2.2.2.2.2.2.1
theorem dL_law_874 : decode cL_law 874 = .ok (.iaload, 1) := dgL_law_11.2.2.2.2.2.2.2.2.2.2.2.2.2.2.2.2.2.2.2.2.2.2.2.2.2.2.1
theorem dL_law_875 : decode cL_law 875 = .ok (.invokevirtual 117, 3) := dgL_law_11.2.2.2.2.2.2.2.2.2.2.2.2.2.2.2.2.2.2.2.2.2.2.2.2.2.2.2.1
theorem dL_law_878 : decode cL_law 878 = .ok (.aload_n 2, 1) := dgL_law_11.2.2.2.2.2.2.2.2.2.2.2.2.2.2.2.2.2.2.2.2.2.2.2.2.2.2.2.2.1
theorem dL_law_879 : decode cL_law 879 = .ok (.aload_n 0, 1) := dgL_law_11.2.2.2.2.2.2.2.2.2.2.2.2.2.2.2.2.2.2.2.2.2.2.2.2.2.2.2.2.2.1
theorem dL_law_880 : decode cL_law 880 = .ok (.iload_n 3, 1) := dgL_law_11.2.2.2.2.2.2.2.2.2.2.2.2.2.2.2.2.2.2.2.2.2.2.2.2.2.2.2.2.2.2.1
theorem dL_law_881 : decode cL_law 881 = .ok (.iconst 1, 1) := dgL_law_11.2.2.2.2.2.2.2.2.2.2.2.2.2.2.2.2.2.2.2.2.2.2.2.2.2.2.2.2.2.2.2.1
theorem dL_law_882 : decode cL_law 882 = .ok (.iadd, 1) := dgL_law_11.2.2.2.2.2.2.2.2.2.2.2.2.2.2.2.2.2.2.2.2.2.2.2.2.2.2.2.2.2.2.2.2.1
theorem dL_law_883 : decode cL_law 883 = .ok (.iaload, 1) := dgL_law_11.2.2.2.2.2.2.2.2.2.2.2.2.2.2.2.2.2.2.2.2.2.2.2.2.2.2.2.2.2.2.2.2.2.1
theorem dL_law_884 : decode cL_law 884 = .ok (.aload_n 0, 1) := dgL_law_11.2.2.2.2.2.2.2.2.2.2.2.2.2.2.2.2.2.2.2.2.2.2.2.2.2.2.2.2.2.2.2.2.2.2.1
theorem dL_law_885 : decode cL_law 885 = .ok (.iload_n 3, 1) := dgL_law_11.2.2.2.2.2.2.2.2.2.2.2.2.2.2.2.2.2.2.2.2.2.2.2.2.2.2.2.2.2.2.2.2.2.2.2.1
theorem dL_law_886 : decode cL_law 886 = .ok (.iconst 2, 1) := dgL_law_11.2.2.2.2.2.2.2.2.2.2.2.2.2.2.2.2.2.2.2.2.2.2.2.2.2.2.2.2.2.2.2.2.2.2.2.2.1
theorem dL_law_887 : decode cL_law 887 = .ok (.iadd, 1) := dgL_law_11.2.2.2.2.2.2.2.2.2.2.2.2.2.2.2.2.2.2.2.2.2.2.2.2.2.2.2.2.2.2.2.2.2.2.2.2.2.1
theorem dL_law_888 : decode cL_law 888 = .ok (.iaload, 1) := dgL_law_11.2.2.2.2.2.2.2.2.2.2.2.2.2.2.2.2.2.2.2.2.2.2.2.2.2.2.2.2.2.2.2.2.2.2.2.2.2.2.1
theorem dL_law_889 : decode cL_law 889 = .ok (.invokevirtual 120, 3) := dgL_law_11.2.2.2.2.2.2.2.2.2.2.2.2.2.2.2.2.2.2.2.2.2.2.2.2.2.2.2.2.2.2.2.2.2.2.2.2.2.2.2.1
theorem dL_law_892 : decode cL_law 892 = .ok (.if_icmp .eq 174, 3) := dgL_law_11.2.2.2.2.2.2.2.2.2.2.2.2.2.2.2.2.2.2.2.2.2.2.2.2.2.2.2.2.2.2.2.2.2.2.2.2.2.2.2.2.1
theorem dL_law_897 : decode cL_law 897 = .ok (.aload_n 1, 1) := dgL_law_11.2.2.2.2.2.2.2.2.2.2.2.2.2.2.2.2.2.2.2.2.2.2.2.2.2.2.2.2.2.2.2.2.2.2.2.2.2.2.2.2.2.1
theorem dL_law_898 : decode cL_law 898 = .ok (.aload_n 0, 1) := dgL_law_11.2.2.2.2.2.2.2.2.2.2.2.2.2.2.2.2.2.2.2.2.2.2.2.2.2.2.2.2.2.2.2.2.2.2.2.2.2.2.2.2.2.2.1
theorem dL_law_899 : decode cL_law 899 = .ok (.iload_n 3, 1) := dgL_law_11.2.2.2.2.2.2.2.2.2.2.2.2.2.2.2.2.2.2.2.2.2.2.2.2.2.2.2.2.2.2.2.2.2.2.2.2.2.2.2.2.2.2.2.1
theorem dL_law_900 : decode cL_law 900 = .ok (.iconst 1, 1) := dgL_law_11.2.2.2.2.2.2.2.2.2.2.2.2.2.2.2.2.2.2.2.2.2.2.2.2.2.2.2.2.2.2.2.2.2.2.2.2.2.2.2.2.2.2.2.2.1
theorem dL_law_901 : decode cL_law 901 = .ok (.iadd, 1) := dgL_law_11.2.2.2.2.2.2.2.2.2.2.2.2.2.2.2.2.2.2.2.2.2.2.2.2.2.2.2.2.2.2.2.2.2.2.2.2.2.2.2.2.2.2.2.2.2.1
theorem dL_law_902 : decode cL_law 902 = .ok (.iaload, 1) := dgL_law_11.2.2.2.2.2.2.2.2.2.2.2.2.2.2.2.2.2.2.2.2.2.2.2.2.2.2.2.2.2.2.2.2.2.2.2.2.2.2.2.2.2.2.2.2.2.2.1
theorem dL_law_903 : decode cL_law 903 = .ok (.aload_n 0, 1) := dgL_law_11.2.2.2.2.2.2.2.2.2.2.2.2.2.2.2.2.2.2.2.2.2.2.2.2.2.2.2.2.2.2.2.2.2.2.2.2.2.2.2.2.2.2.2.2.2.2.2.1
theorem dL_law_904 : decode cL_law 904 = .ok (.iload_n 3, 1) := dgL_law_11.2.2.2.2.2.2.2.2.2.2.2.2.2.2.2.2.2.2.2.2.2.2.2.2.2.2.2.2.2.2.2.2.2.2.2.2.2.2.2.2.2.2.2.2.2.2.2.2.1
theorem dL_law_905 : decode cL_law 905 = .ok (.iconst 2, 1) := dgL_law_11.2.2.2.2.2.2.2.2.2.2.2.2.2.2.2.2.2.2.2.2.2.2.2.2.2.2.2.2.2.2.2.2.2.2.2.2.2.2.2.2.2.2.2.2.2.2.2.2.2
theorem dgL_law_12 : (decode cL_law 906 = .ok (.iadd, 1)) ∧ (decode cL_law 907 = .ok (.iaload, 1)) ∧ (decode cL_law 908 = .ok (.invokevirtual 121, 3)) ∧ (decode cL_law 911 = .ok (.aload_n 2, 1)) ∧ (decode cL_law 912 = .ok (.aload_n 0, 1)) ∧ (decode cL_law 913 = .ok (.iload_n 3, 1)) ∧ (decode cL_law 914 = .ok (.iconst 1, 1)) ∧ (decode cL_law 915 = .ok (.iadd, 1)) ∧ (decode cL_law 916 = .ok (.iaload, 1)) ∧ (decode cL_law 917 = .ok (.aload_n 0, 1)) ∧ (decode cL_law 918 = .ok (.iload_n 3, 1)) ∧ (decode cL_law 919 = .ok (.iconst 2, 1)) ∧ (decode cL_law 920 = .ok (.iadd, 1)) ∧ (decode cL_law 921 = .ok (.iaload, 1)) ∧ (decode cL_law 922 = .ok (.invokevirtual 124, 3)) ∧ (decode cL_law 925 = .ok (.if_icmp .eq 141, 3)) ∧ (decode cL_law 930 = .ok (.aload_n 1, 1)) ∧ (decode cL_law 931 = .ok (.aload_n 0, 1)) ∧ (decode cL_law 932 = .ok (.iload_n 3, 1)) ∧ (decode cL_law 933 = .ok (.iconst 1, 1)) ∧ (decode cL_law 934 = .ok (.iadd, 1)) ∧ (decode cL_law 935 = .ok (.iaload, 1)) ∧ (decode cL_law 936 = .ok (.aload_n 0, 1)) ∧ (decode cL_law 937 = .ok (.iload_n 3, 1)) ∧ (decode cL_law 938 = .ok (.iconst 2, 1)) ∧ (decode cL_law 939 = .ok (.iadd, 1)) ∧ (decode cL_law 940 = .ok (.iaload, 1)) ∧ (decode cL_law 941 = .ok (.aload_n 0, 1)) ∧ (decode cL_law 942 = .ok (.iload_n 3, 1)) ∧ (decode cL_law 943 = .ok (.iconst 3, 1)) ∧ (decode cL_law 944 = .ok (.iadd, 1)) ∧ (decode cL_law 945 = .ok (.iaload, 1)) ∧ (decode cL_law 946 = .ok (.invokevirtual 125, 3)) ∧ (decode cL_law 949 = .ok (.aload_n 2, 1)) ∧ (decode cL_law 950 = .ok (.aload_n 0, 1)) ∧ (decode cL_law 951 = .ok (.iload_n 3, 1)) ∧ (decode cL_law 952 = .ok (.iconst 1, 1)) ∧ (decode cL_law 953 = .ok (.iadd, 1)) ∧ (decode cL_law 954 = .ok (.iaload, 1)) ∧ (decode cL_law 955 = .ok (.aload_n 0, 1)) ∧ (decode cL_law 956 = .ok (.iload_n 3, 1)) ∧ (decode cL_law 957 = .ok (.iconst 2, 1)) ∧ (decode cL_law 958 = .ok (.iadd, 1)) ∧ (decode cL_law 959 = .ok (.iaload, 1)) ∧ (decode cL_law 960 = .ok (.aload_n 0, 1)) ∧ (decode cL_law 961 = .ok (.iload_n 3, 1)) ∧ (decode cL_law 962 = .ok (.iconst 3, 1)) ∧ (decode cL_law 963 = .ok (.iadd, 1)) ∧ (decode cL_law 964 = .ok (.iaload, 1)) ∧ (decode cL_law 965 = .ok (.invokevirtual 128, 3)) := by decide +kernel
theorem dL_law_906 : decode cL_law 906 = .ok (.iadd, 1) := dgL_law_12.1
theorem dL_law_907 : decode cL_law 907 = .ok (.iaload, 1) := dgL_law_12.2.1
theorem dL_law_908 : decode cL_law 908 = .ok (.invokevirtual 121, 3) := dgL_law_12.2.2.1
theorem dL_law_911 : decode cL_law 911 = .ok (.aload_n 2, 1) := dgL_law_12.2.2.2.1
theorem dL_law_912 : decode cL_law 912 = .ok (.aload_n 0, 1) := dgL_law_12.2.2.2.2.1
theorem dL_law_913 : decode cL_law 913 = .ok (.iload_n 3, 1) := dgL_law_12.2.2.2.2.2.1
theorem dL_law_914 : decode cL_law 914 = .ok (.iconst 1, 1) := dgL_law_12.2.2.2.2.2.2.1
theorem dL_law_915 : decode cL_law 915 = .ok (.iadd, 1) := dgL_law_12.2.2.2.2.2.2.2.1
theorem dL_law_916 : decode cL_law 916 = .ok (.iaload, 1) := dgL_law_12.2.2.2.2.2.2.2.2.1
theorem dL_law_917 : decode cL_law 917 = .ok (.aload_n 0, 1) := dgL_law_12.2.2.2.2.2.2.2.2.2.1
theorem dL_law_918 : decode cL_law 918 = .ok (.iload_n 3, 1) := dgL_law_12.2.2.2.2.2.2.2.2.2.2.1
theorem dL_law_919 : decode cL_law 919 = .ok (.iconst 2, 1) := dgL_law_12.2.2.2.2.2.2.2.2.2.2.2.1
theorem dL_law_920 : decode cL_law 920 = .ok (.iadd, 1) := dgL_law_12.2.2.2.2.2.2.2.2.2.2.2.2.1
theorem dL_law_921 : decode cL_law 921 = .ok (.iaload, 1) := dgL_law_12.2.2.2.2.2.2.2.2.2.2.2.2.2.1
theorem dL_law_922 : decode cL_law 922 = .ok (.invokevirtual 124, 3) := dgL_law_12.2.2.2.2.2.2.2.2.2.2.2.2.2.2.1
theorem dL_law_925 : decode cL_law 925 = .ok (.if_icmp .eq 141, 3) := dgL_law_12.2.2.2.2.2.2.2.2.2.2.2.2.2.2.2.1
theorem dL_law_930 : decode cL_law 930 = .ok (.aload_n 1, 1) := dgL_law_12.2.2.2.2.2.2.2.2.2.2.2.2.2.2.2.2.1
theorem dL_law_931 : decode cL_law 931 = .ok (.aload_n 0, 1) := dgL_law_12.2.2.2.2.2.2.2.2.2.2.2.2.2.2.2.2.2.1
theorem dL_law_932 : decode cL_law 932 = .ok (.iload_n 3, 1) := dgL_law_12.2.2.2.2.2.2.2.2.2.2.2.2.2.2.2.2.2.2.1
theorem dL_law_933 : decode cL_law 933 = .ok (.iconst 1, 1) := dgL_law_12.2.2.2.2.2.2.2.2.2.2.2.2.2.2.2.2.2.2.2.1
theorem dL_law_934 : decode cL_law 934 = .ok (.iadd, 1) := dgL_law_12.2.2.2.2.2.2.2.2.2.2.2.2.2.2.2.2.2.2.2.2.1
theorem dL_law_935 : decode cL_law 935 = .ok (.iaload, 1) := dgL_law_12.2.2.2.2.2.2.2.2.2.2.2.2.2.2.2.2.2.2.2.2.2.1
theorem dL_law_936 : decode cL_law 936 = .ok (.aload_n 0, 1) := dgL_law_12.2.2.2.2.2.2.2.2.2.2.2.2.2.2.2.2.2.2.2.2.2.2.1
theorem dL_law_937 : decode cL_law 937 = .ok (.iload_n 3, 1) := dgL_law_12.2.2.2.2.2.2.2.2.2.2.2.2.2.2.2.2.2.2.2.2.2.2.2.1
theorem dL_law_938 : decode cL_law 938 = .ok (.iconst 2, 1) := dgL_law_12.2.2.2.2.2.2.2.2.2.2.2.2.2.2.2.2.2.2.2.2.2.2.2.2.1
theorem dL_law_939 : decode cL_law 939 = .ok (.iadd, 1) := dgL_law_12.2.2.2.2.2.2.2.2.2.2.2.2.2.2.2.2.2.2.2.2.2.2.2.2.2.1
theorem dL_law_940 : decode cL_law 940 = .ok (.iaload, 1) := dgL_law_12.2.2.2.2.2.2.2.2.2.2.2.2.2.2.2.2.2.2.2.2.2.2.2.2.2.2.1
theorem dL_law_941 : decode cL_law 941 = .ok (.aload_n 0, 1) := dgL_law_12.2.2.2.2.2.2.2.2.2.2.2.2.2.2.2.2.2.2.2.2.2.2.2.2.2.2.2.1
theorem dL_law_942 : decode cL_law 942 = .ok (.iload_n 3, 1) := dgL_law_12.2.2.2.2.2.2.2.2.2.2.2.2.2.2.2.2.2.2.2.2.2.2.2.2.2.2.2.2.1
theorem dL_law_943 : decode cL_law 943 = .ok (.iconst 3, 1) := dgL_law_12.2.2.2.2.2.2.2.2.2.2.2.2.2.2.2.2.2.2.2.2.2.2.2.2.2.2.2.2.2.1
theorem dL_law_944 : decode cL_law 944 = .ok (.iadd, 1) := dgL_law_12.2.2.2.2.2.2.2.2.2.2.2.2.2.2.2.2.2.2.2.2.2.2.2.2.2.2.2.2.2.2.1
theorem dL_law_945 : decode cL_law 945 = .ok (.iaload, 1) := dgL_law_12.2.2.2.2.2.2.2.2.2.2.2.2.2.2.2.2.2.2.2.2.2.2.2.2.2.2.2.2.2.2.2.1
theorem dL_law_946 : decode cL_law 946 = .ok (.invokevirtual 125, 3) := dgL_law_12.2.2.2.2.2.2.2.2.2.2.2.2.2.2.2.2.2.2.2.2.2.2.2.2.2.2.2.2.2.2.2.2.1
theorem dL_law_949 : decode cL_law 949 = .ok (.aload_n 2, 1) := dgL_law_12.2.2.2.2.2.2.2.2.2.2.2.2.2.2.2.2.2.2.2.2.2.2.2.2.2.2.2.2.2.2.2.2.2.1
theorem dL_law_950 : decode cL_law 950 = .ok (.aload_n 0, 1) := dgL_law_12.2.2.2.2.2.2.2.2.2.2.2.2.2.2.2.2.2.2.2.2.2.2.2.2.2.2.2.2.2.2.2.2.2.2.1
theorem dL_law_951 : decode cL_law 951 = .ok (.iload_n 3, 1) := dgL_law_12.2.2.2.2.2.2.2.2.2.2.2.2.2.2.2.2.2.2.2.2.2.2.2.2.2.2.2.2.2.2.2.2.2.2.2.1
theorem dL_law_952 : decode cL_law 952 = .ok (.iconst 1, 1) := dgL_law_12.2.2.2.2.2.2.2.2.2.2.2.2.2.2.2.2.2.2.2.2.2.2.2.2.2.2.2.2.2.2.2.2.2.2.2.2.1
theorem dL_law_953 : decode cL_law 953 = .ok (.iadd, 1) := dgL_law_12.2.2.2.2.2.2.2.2.2.2.2.2.2.2.2.2.2.2.2.2.2.2.2.2.2.2.2.2.2.2.2.2.2.2.2.2.2.1
theorem dL_law_954 : decode cL_law 954 = .ok (.iaload, 1) := dgL_law_12.2.2.2.2.2.2.2.2.2.2.2.2.2.2.2.2.2.2.2.2.2.2.2.2.2.2.2.2.2.2.2.2.2.2.2.2.2.2.1
theorem dL_law_955 : decode cL_law 955 = .ok (.aload_n 0, 1) := dgL_law_12.2.2.2.2.2.2.2.2.2.2.2.2.2.2.2.2.2.2.2.2.2.2.2.2.2.2.2.2.2.2.2.2.2.2.2.2.2.2.2.1
theorem dL_law_956 : decode cL_law 956 = .ok (.iload_n 3, 1) := dgL_law_12.2.2.2.2.2.2.2.2.2.2.2.2.2.2.2.2.2.2.2.2.2.2.2.2.2.2.2.2.2.2.2.2.2.2.2.2.2.2.2.2.1
theorem dL_law_957 : decode cL_law 957 = .ok (.iconst 2, 1) := dgL_law_12.2.2.2.2.2.2.2.2.2.2.2.2.2.2.2.2.2.2.2.2.2.2.2.2.2.2.2.2.2.2.2.2.2.2.2.2.2.2.2.2.2.1
theorem dL_law_958 : decode cL_law 958 = .ok (.iadd, 1) := dgL_law_12.2.2.2.2.2.2.2.2.2.2.2.2.2.2.2.2.2.2.2.2.2.2.2.2.2.2.2.2.2.2.2.2.2.2.2.2.2.2.2.2.2.2.1
theorem dL_law_959 : decode cL_law 959 = .ok (.iaload, 1) := dgL_law_12.2.2.2.2.2.2.2.2.2.2.2.2.2.2.2.2.2.2.2.2.2.2.2.2.2.2.2.2.2.2.2.2.2.2.2.2.2.2.2.2.2.2.2.1
theorem dL_law_960 : decode cL_law 960 = .ok (.aload_n 0, 1) := dgL_law_12.2.2.2.2.2.2.2.2.2.2.2.2.2.2.2.2.2.2.2.2.2.2.2.2.2.2.2.2.2.2.2.2.2.2.2.2.2.2.2.2.2.2.2.2.1
theorem dL_law_961 : decode cL_law 961 = .ok (.iload_n 3, 1) := dgL_law_12.2.2.2.2.2.2.2.2.2.2.2.2.2.2.2.2.2.2.2.2.2.2.2.2.2.2.2.2.2.2.2.2.2.2.2.2.2.2.2.2.2.2.2.2.2.1
theorem dL_law_962 : decode cL_law 962 = .ok (.iconst 3, 1) := dgL_law_12.2.2.2.2.2.2.2.2.2.2.2.2.2.2.2.2.2.2.2.2.2.2.2.2.2.2.2.2.2.2.2.2.2.2.2.2.2.2.2.2.2.2.2.2.2.2.1
theorem dL_law_963 : decode cL_law 963 = .ok (.iadd, 1) := dgL_law_12.2.2.2.2.2.2.2.2.2.2.2.2.2.2.2.2.2.2.2.2.2.2.2.2.2.2.2.2.2.2.2.2.2.2.2.2.2.2.2.2.2.2.2.2.2.2.2.1
theorem dL_law_964 : decode cL_law 964 = .ok (.iaload, 1) := dgL_law_12.2.2.2.2.2.2.2.2.2.2.2.2.2.2.2.2.2.2.2.2.2.2.2.2.2.2.2.2.2.2.2.2.2.2.2.2.2.2.2.2.2.2.2.2.2.2.2.2.1
theorem dL_law_965 : decode cL_law 965 = .ok (.invokevirtual 128, 3) := dgL_law_12.2.2.2.2.2.2.2.2.2.2.2.2.2.2.2.2.2.2.2.2.2.2.2.2.2.2.2.2.2.2.2.2.2.2.2.2.2.2.2.2.2.2.2.2.2.2.2.2.2
theorem dgL_law_13 : (decode cL_law 968 = .ok (.if_icmp .eq 98, 3)) ∧ (decode cL_law 973 = .ok (.aload_n 1, 1)) ∧ (decode cL_law 974 = .ok (.aload_n 0, 1)) ∧ (decode cL_law 975 = .ok (.iload_n 3, 1)) ∧ (decode cL_law 976 = .ok (.iconst 1, 1)) ∧ (decode cL_law 977 = .ok (.iadd, 1)) ∧ (decode cL_law 978 = .ok (.iaload, 1)) ∧ (decode cL_law 979 = .ok (.invokevirtual 129, 3)) ∧ (decode cL_law 982 = .ok (.aload_n 2, 1)) ∧ (decode cL_law 983 = .ok (.aload_n 0, 1)) ∧ (decode cL_law 984 = .ok (.iload_n 3, 1)) ∧ (decode cL_law 985 = .ok (.iconst 1, 1)) ∧ (decode cL_law 986 = .ok (.iadd, 1)) ∧ (decode cL_law 987 = .ok (.iaload, 1)) ∧ (decode cL_law 988 = .ok (.invokevirtual 132, 3)) ∧ (decode cL_law 991 = .ok (.if_icmp .eq 75, 3)) ∧ (decode cL_law 996 = .ok (.aload_n 1, 1)) ∧ (decode cL_law 997 = .ok (.aload_n 0, 1)) ∧ (decode cL_law 998 = .ok (.iload_n 3, 1)) ∧ (decode cL_law 999 = .ok (.iconst 1, 1)) ∧ (decode cL_law 1000 = .ok (.iadd, 1)) ∧ (decode cL_law 1001 = .ok (.iaload, 1)) ∧ (decode cL_law 1002 = .ok (.aload_n 0, 1)) ∧ (decode cL_law 1003 = .ok (.iload_n 3, 1)) ∧ (decode cL_law 1004 = .ok (.iconst 2, 1)) ∧ (decode cL_law 1005 = .ok (.iadd, 1)) ∧ (decode cL_law 1006 = .ok (.iaload, 1)) ∧ (decode cL_law 1007 = .ok (.invokevirtual 133, 3)) ∧ (decode cL_law 1010 = .ok (.aload_n 2, 1)) ∧ (decode cL_law 1011 = .ok (.aload_n 0, 1)) ∧ (decode cL_law 1012 = .ok (.iload_n 3, 1)) ∧ (decode cL_law 1013 = .ok (.iconst 1, 1)) ∧ (decode cL_law 1014 = .ok (.iadd, 1)) ∧ (decode cL_law 1015 = .ok (.iaload, 1)) ∧ (decode cL_law 1016 = .ok (.aload_n 0, 1)) ∧ (decode cL_law 1017 = .ok (.iload_n 3, 1)) ∧ (decode cL_law 1018 = .ok (.iconst 2, 1)) ∧ (decode cL_law 1019 = .ok (.iadd, 1)) ∧ (decode cL_law 1020 = .ok (.iaload, 1)) ∧ (decode cL_law 1021 = .ok (.invokevirtual 136, 3)) ∧ (decode cL_law 1024 = .ok (.if_icmp .eq 42, 3)) ∧ (decode cL_law 1029 = .ok (.aload_n 1, 1)) ∧ (decode cL_law 1030 = .ok (.aload_n 0, 1)) ∧ (decode cL_law 1031 = .ok (.iload_n 3, 1)) ∧ (decode cL_law 1032 = .ok (.iconst 1, 1)) ∧ (decode cL_law 1033 = .ok (.iadd, 1)) ∧ (decode cL_law 1034 = .ok (.iaload, 1)) ∧ (decode cL_law 1035 = .ok (.invokevirtual 137, 3)) ∧ (decode cL_law 1038 = .ok (.aload_n 2, 1)) ∧ (decode cL_law 1039 = .ok (.aload_n 0, 1)) := by decide +kernel
theorem dL_law_968 : decode cL_law 968 = .ok (.if_icmp .eq 98, 3) := dgL_law_13.1
theorem dL_law_973 : decode cL_law 973 = .ok (.aload_n 1, 1) := dgL_law_13.2.1
theorem dL_law_974 : decode cL_law 974 = .ok (.aload_n 0, 1) := dgL_law_13.2.2.1
theorem dL_law_975 : decode cL_law 975 = .ok (.iload_n 3, 1) := dgL_law_13.2.2.2.1
theorem dL_law_976 : decode cL_law 976 = .ok (.iconst 1, 1) := dgL_law_13.2.2.2.2.1
theorem dL_law_977 : decode cL_law 977 = .ok (.iadd, 1) := dgL_law_13.2.2.2.2.2.1
theorem dL_law_978 : decode cL_law 978 = .ok (.iaload, 1) := dgL_law_13.2.2.2.2.2.2.1
theorem dL_law_979 : decode cL_law 979 = .ok (.invokevirtual 129, 3) := dgL_law_13.2.2.2.2.2.2.2.1
theorem dL_law_982 : decode cL_law 982 = .ok (.aload_n 2, 1) := dgL_law_13.2.2.2.2.2.2.2.2.1
theorem dL_law_983 : decode cL_law 983 = .ok (.aload_n 0, 1) := dgL_law_13.2.2.2.2.2.2.2.2.2.1
theorem dL_law_984 : decode cL_law 984 = .ok (.iload_n 3, 1) := dgL_law_13.2.2.2.2.2.2.2.2.2.2.1
theorem dL_law_985 : decode cL_law 985 = .ok (.iconst 1, 1) := dgL_law_13.2.2.2.2.2.2.2.2.2.2.2.1
theorem dL_law_986 : decode cL_law 986 = .ok (.iadd, 1) := dgL_law_13.2.2.2.2.2.2.2.2.2.2.2.2.1
theorem dL_law_987 : decode cL_law 987 = .ok (.iaload, 1) := dgL_law_13.2.2.2.2.2.2.2.2.2.2.2.2.2.1
theorem dL_law_988 : decode cL_law 988 = .ok (.invokevirtual 132, 3) := dgL_law_13.2.2.2.2.2.2.2.2.2.2.2.2.2.2.1
theorem dL_law_991 : decode cL_law 991 = .ok (.if_icmp .eq 75, 3) := dgL_law_13.2.2.2.2.2.2.2.2.2.2.2.2.2.2.2.1
theorem dL_law_996 : decode cL_law 996 = .ok (.aload_n 1, 1) := dgL_law_13.2.2.2.2.2.2.2.2.2.2.2.2.2.2.2.2.1
theorem dL_law_997 : decode cL_law 997 = .ok (.aload_n 0, 1) := dgL_law_13.2.2.2.2.2.2.2.2.2.2.2.2.2.2.2.2.2.1
theorem dL_law_998 : decode cL_law 998 = .ok (.iload_n 3, 1) := dgL_law_13.2.2.2.2.2.2.2.2.2.2.2.2.2.2.2.2.2.2.1
theorem dL_law_999 : decode cL_law 999 = .ok (.iconst 1, 1) := dgL_law_13.2.2.2.2.2.2.2.2.2.2.2.2.2.2.2.2.2.2.2.1
theorem dL_law_1000 : decode cL_law 1000 = .ok (.iadd, 1) := dgL_law_13.2.2.2.2.2.2.2.2.2.2.2.2.2.2.2.2.2.2.2.2.1
theorem dL_law_1001 : decode cL_law 1001 = .ok (.iaload, 1) := dgL_law_13.2.2.2.2.2.2.2.2.2.2.2.2.2.2.2.2.2.2.2.2.2.1
theorem dL_law_1002 : decode cL_law 1002 = .ok (.aload_n 0, 1) := dgL_law_13.2.2.2.2.2.2.2.2.2.2.2.2.2.2.2.2.2.2.2.2.2.2.1
theorem dL_law_1003 : decode cL_law 1003 = .ok (.iload_n 3, 1) := dgL_law_13.2.2.2.2.2.2.2.2.2.2.2.2.2.2.2.2.2.2.2.2.2.2.2.1
theorem dL_law_1004 : decode cL_law 1004 = .ok (.iconst 2, 1) := dgL_law_13.2.2.2.2.2.2.2.2.2.2.2.2.2.2.2.2.2.2.2.2.2.2.2.2.1
theorem dL_law_1005 : decode cL_law 1005 = .ok (.iadd, 1) := dgL_law_13.2.2.2.2.2.2.2.2.2.2.2.2.2.2.2.2.2.2.2.2.2.2.2.2.2.1
theorem dL_law_1006 : decode cL_law 1006 = .ok (.iaload, 1) := dgL_law_13.2.2.2.2.2.2.2.2.2.2.2.2.2.2.2.2.2.2.2.2.2.2.2.2.2.2.1
theorem dL_law_1007 : decode cL_law 1007 = .ok (.invokevirtual 133, 3) := dgL_law_13.2.2.2.2.2.2.2.2.2.2.2.2.2.2.2.2.2.2.2.2.2.2.2.2.2.2.2.1
theorem dL_law_1010 : decode cL_law 1010 = .ok (.aload_n 2, 1) := dgL_law_13.2.2.2.2.2.2.2.2.2.2.2.2.2.2.2.2.2.2.2.2.2.2.2.2.2.2.2.2.1
theorem dL_law_1011 : decode cL_law 1011 = .ok (.aload_n 0, 1) := dgL_law_13.2.2.2.2.2.2.2.2.2.2.2.2.2.2.2.2.2.2.2.2.2.2.2.2.2.2.2.2.2.1
theorem dL_law_1012 : decode cL_law 1012 = .ok (.iload_n 3, 1) := dgL_law_13.2.2.2.2.2.2.2.2.2.2.2.2.2.2.2.2.2.2.2.2.2.2.2.2.2.2.2.2.2.2.1
theorem dL_law_1013 : decode cL_law 1013 = .ok (.iconst 1, 1) := dgL_law_13.2.2.2.2.2.2.2.2.2.2.2.2.2.2.2.2.2.2.2.2.2.2.2.2.2.2.2.2.2.2.2.1
theorem dL_law_1014 : decode cL_law 1014 = .ok (.iadd, 1) := dgL_law_13.2.2.2.2.2.2.2.2.2.2.2.2.2.2.2.2.2.2.2.2.2.2.2.2.2.2.2.2.2.2.2.2.1
theorem dL_law_1015 : decode cL_law 1015 = .ok (.iaload, 1) := dgL_law_13.2.2.2.2.2.2.2.2.2.2.2.2.2.2.2.2.2.2.2.2.2.2.2.2.2.2.2.2.2.2.2.2.2.1
theorem dL_law_1016 : decode cL_law 1016 = .ok (.aload_n 0, 1) := dgL_law_13.2.2.2.2.2.2.2.2.2.2.2.2.2.2.2.2.2.2.2.2.2.2.2.2.2.2.2.2.2.2.2.2.2.2.1
theorem dL_law_1017 : decode cL_law 1017 = .ok (.iload_n 3, 1) := dgL_law_13.2.2.2.2.2.2.2.2.2.2.2.2.2.2.2.2.2.2.2.2.2.2.2.2.2.2.2.2.2.2.2.2.2.2.2.1
theorem dL_law_1018 : decode cL_law 1018 = .ok (.iconst 2, 1) := dgL_law_13.2.2.2.2.2.2.2.2.2.2.2.2.2.2.2.2.2.2.2.2.2.2.2.2.2.2.2.2.2.2.2.2.2.2.2.2.1
theorem dL_law_1019 : decode cL_law 1019 = .ok (.iadd, 1) := dgL_law_13.2.2.2.2.2.2.2.2.2.2.2.2.2.2.2.2.2.2.2.2.2.2.2.2.2.2.2.2.2.2.2.2.2.2.2.2.2.1
theorem dL_law_1020 : decode cL_law 1020 = .ok (.iaload, 1) := dgL_law_13.2.2.2.2.2.2.2.2.2.2.2.2.2.2.2.2.2.2.2.2.2.2.2.2.2.2.2.2.2.2.2.2.2.2.2.2.2.2.1
theorem dL_law_1021 : decode cL_law 1021 = .ok (.invokevirtual 136, 3) := dgL_law_13.2.2.2.2.2.2.2.2.2.2.2.2.2.2.2.2.2.2.2.2.2.2.2.2.2.2.2.2.2.2.2.2.2.2.2.2.2.2.2.1
theorem dL_law_1024 : decode cL_law 1024 = .ok (.if_icmp .eq 42, 3) := dgL_law_13.2.2.2.2.2.2.2.2.2.2.2.2.2.2.2.2.2.2.2.2.2.2.2.2.2.2.2.2.2.2.2.2.2.2.2.2.2.2.2.2.1
theorem dL_law_1029 : decode cL_law 1029 = .ok (.aload_n 1, 1) := dgL_law_13.2.2.2.2.2.2.2.2.2.2.2.2.2.2.2.2.2.2.2.2.2.2.2.2.2.2.2.2.2.2.2.2.2.2.2.2.2.2.2.2.2.1
theorem dL_law_1030 : decode cL_law 1030 = .ok (.aload_n 0, 1) := dgL_law_13.2.2.2.2.2.2.2.2.2.2.2.2.2.2.2.2.2.2.2.2.2.2.2.2.2.2.2.2.2.2.2.2.2.2.2.2.2.2.2.2.2.2.1
theorem dL_law_1031 : decode cL_law 1031 = .ok (.iload_n 3, 1) := dgL_law_13.2.2.2.2.2.2.2.2.2.2.2.2.2.2.2.2.2.2.2.2.2.2.2.2.2.2.2.2.2.2.2.2.2.2.2.2.2.2.2.2.2.2.2.1
theorem dL_law_1032 : decode cL_law 1032 = .ok (.iconst 1, 1) := dgL_law_13.2.2.2.2.2.2.2.2.2.2.2.2.2.2.2.2.2.2.2.2.2.2.2.2.2.2.2.2.2.2.2.2.2.2.2.2.2.2.2.2.2.2.2.2.1
theorem dL_law_1033 : decode cL_law 1033 = .ok (.iadd, 1) := dgL_law_13.2.2.2.2.2.2.2.2.2.2.2.2.2.2.2.2.2.2.2.2.2.2.2.2.2.2.2.2.2.2.2.2.2.2.2.2.2.2.2.2.2.2.2.2.2.1
theorem dL_law_1034 : decode cL_law 1034 = .ok (.iaload, 1) := dgL_law_13.2.2.2.2.2.2.2.2.2.2.2.2.2.2.2.2.2.2.2.2.2.2.2.2.2.2.2.2.2.2.2.2.2.2.2.2.2.2.2.2.2.2.2.2.2.2.1
theorem dL_law_1035 : decode cL_law 1035 = .ok (.invokevirtual 137, 3) := dgL_law_13.2.2.2.2.2.2.2.2.2.2.2.2.2.2.2.2.2.2.2.2.2.2.2.2.2.2.2.2.2.2.2.2.2.2.2.2.2.2.2.2.2.2.2.2.2.2.2.1
theorem dL_law_1038 : decode cL_law 1038 = .ok (.aload_n 2, 1) := dgL_law_13.2.2.2.2.2.2.2.2.2.2.2.2.2.2.2.2.2.2.2.2.2.2.2.2.2.2.2.2.2.2.2.2.2.2.2.2.2.2.2.2.2.2.2.2.2.2.2.2.1
theorem dL_law_1039 : decode cL_law 1039 = .ok (.aload_n 0, 1) := dgL_law_13.2.2.2.2.2.2.2.2.2.2.2.2.2.2.2.2.2.2.2.2.2.2.2.2.2.2.2.2.2.2.2.2.2.2.2.2.2.2.2.2.2.2.2.2.2.2.2.2.2
theorem dgL_law_14 : (decode cL_law 1040 = .ok (.iload_n 3, 1)) ∧ (decode cL_law 1041 = .ok (.iconst 1, 1)) ∧ (decode cL_law 1042 = .ok (.iadd, 1)) ∧ (decode cL_law 1043 = .ok (.iaload, 1)) ∧ (decode cL_law 1044 = .ok (.invokevirtual 140, 3)) ∧ (decode cL_law 1047 = .ok (.if_icmp .eq 19, 3)) ∧ (decode cL_law 1052 = .ok (.aload_n 1, 1)) ∧ (decode cL_law 1053 = .ok (.invokevirtual 141, 3)) ∧ (decode cL_law 1056 = .ok (.aload_n 2, 1)) ∧ (decode cL_law 1057 = .ok (.invokevirtual 145, 3)) ∧ (decode cL_law 1060 = .ok (.lcmp, 1)) ∧ (decode cL_law 1061 = .ok (.ifCond .eq 5, 3)) ∧ (decode cL_law 1066 = .ok (.iinc 3 5, 3)) ∧ (decode cL_law 1069 = .ok (.goto (-1051), 3)) ∧ (decode cL_law 1072 = .ok (.iconst 1, 1)) ∧ (decode cL_law 1073 = .ok (.ireturn, 1)) := by decide +kernel
theorem dL_law_1040 : decode cL_law 1040 = .ok (.iload_n 3, 1) := dgL_law_14.1
theorem dL_law_1041 : decode cL_law 1041 = .ok (.iconst 1, 1) := dgL_law_14.2.1
theorem dL_law_1042 : decode cL_law 1042 = .ok (.iadd, 1) := dgL_law_14.2.2.1
theorem dL_law_1043 : decode cL_law 1043 = .ok (.iaload, 1) := dgL_law_14.2.2.2.1
theorem dL_law_1044 : decode cL_law 1044 = .ok (.invokevirtual 140, 3) := dgL_law_14.2.2.2.2.1
theorem dL_law_1047 : decode cL_law 1047 = .ok (.if_icmp .eq 19, 3) := dgL_law_14.2.2.2.2.2.1
theorem dL_law_1052 : decode cL_law 1052 = .ok (.aload_n 1, 1) := dgL_law_14.2.2.2.2.2.2.1
theorem dL_law_1053 : decode cL_law 1053 = .ok (.invokevirtual 141, 3) := dgL_law_14.2.2.2.2.2.2.2.1
theorem dL_law_1056 : decode cL_law 1056 = .ok (.aload_n 2, 1) := dgL_law_14.2.2.2.2.2.2.2.2.1
theorem dL_law_1057 : decode cL_law 1057 = .ok (.invokevirtual 145, 3) := dgL_law_14.2.2.2.2.2.2.2.2.2.1
theorem dL_law_1060 : decode cL_law 1060 = .ok (.lcmp, 1) := dgL_law_14.2.2.2.2.2.2.2.2.2.2.1
theorem dL_law_1061 : decode cL_law 1061 = .ok (.ifCond .eq 5, 3) := dgL_law_14.2.2.2.2.2.2.2.2.2.2.2.1
theorem dL_law_1066 : decode cL_law 1066 = .ok (.iinc 3 5, 3) := dgL_law_14.2.2.2.2.2.2.2.2.2.2.2.2.1
theorem dL_law_1069 : decode cL_law 1069 = .ok (.goto (-1051), 3) := dgL_law_14.2.2.2.2.2.2.2.2.2.2.2.2.2.1
theorem dL_law_1072 : decode cL_law 1072 = .ok (.iconst 1, 1) := dgL_law_14.2.2.2.2.2.2.2.2.2.2.2.2.2.2.1
theorem dL_law_1073 : decode cL_law 1073 = .ok (.ireturn, 1) := dgL_law_14.2.2.2.2.2.2.2.2.2.2.2.2.2.2.2
