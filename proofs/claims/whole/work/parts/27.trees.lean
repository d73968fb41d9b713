/-! the trees of methods 270 to 274, written by wip/whole/gen/emit_trees.py -/
/-- 270 TreegrabLaw.law([I)Z -/
theorem zi_270_23 : zraw 270 23 = some (.iload 4, 2) ∧ 23 + 2 = 25 := by decide +kernel
theorem zi_270_25 : zraw 270 25 = some (.aload_n 0, 1) ∧ 25 + 1 = 26 := by decide +kernel
theorem zi_270_26 : zraw 270 26 = some (.arraylength, 1) ∧ 26 + 1 = 27 := by decide +kernel
theorem zi_270_27 : zraw 270 27 = some (.iconst 4, 1) ∧ zin 128 4 = true ∧ 27 + 1 = 28 := by decide +kernel
theorem zi_270_28 : zraw 270 28 = some (.isub, 1) ∧ 28 + 1 = 29 := by decide +kernel
theorem zi_270_29 : zraw 270 29 = some (.if_icmp .gt 1400, 3) ∧ ((29 : Nat) : Int) + 1400 = Int.ofNat 1429 ∧ 29 + 3 = 32 := by decide +kernel
theorem zi_270_32 : zraw 270 32 = some (.aload_n 0, 1) ∧ 32 + 1 = 33 := by decide +kernel
theorem zi_270_33 : zraw 270 33 = some (.iload 4, 2) ∧ 33 + 2 = 35 := by decide +kernel
theorem zi_270_35 : zraw 270 35 = some (.iaload, 1) ∧ 35 + 1 = 36 := by decide +kernel
theorem zi_270_36 : zraw 270 36 = some (.bipush 31, 2) ∧ zin 128 31 = true ∧ 36 + 2 = 38 := by decide +kernel
theorem zi_270_38 : zraw 270 38 = some (.iand, 1) ∧ 38 + 1 = 39 := by decide +kernel
theorem zi_270_39 : zraw 270 39 = some (.tableswitch 1384 0 20 #[97, 197, 253, 297, 341, 382, 438, 506, 574, 670, 726, 782, 838, 894, 974, 1054, 1122, 1178, 1234, 1290, 1358], 97) ∧ (zpos 39 1384 && ((#[97, 197, 253, 297, 341, 382, 438, 506, 574, 670, 726, 782, 838, 894, 974, 1054, 1122, 1178, 1234, 1290, 1358] : Array Int).toList.all (zpos 39) && decide ((20 : Int) = 0 + (((#[97, 197, 253, 297, 341, 382, 438, 506, 574, 670, 726, 782, 838, 894, 974, 1054, 1122, 1178, 1234, 1290, 1358] : Array Int).toList.length : Nat) : Int) - 1))) = true := by decide +kernel
theorem zi_270_136 : zraw 270 136 = some (.aload_n 1, 1) ∧ 136 + 1 = 137 := by decide +kernel
theorem zi_270_137 : zraw 270 137 = some (.aload_n 0, 1) ∧ 137 + 1 = 138 := by decide +kernel
theorem zi_270_138 : zraw 270 138 = some (.iload 4, 2) ∧ 138 + 2 = 140 := by decide +kernel
theorem zi_270_140 : zraw 270 140 = some (.iconst 1, 1) ∧ zin 128 1 = true ∧ 140 + 1 = 141 := by decide +kernel
theorem zi_270_141 : zraw 270 141 = some (.iadd, 1) ∧ 141 + 1 = 142 := by decide +kernel
theorem zi_270_142 : zraw 270 142 = some (.iaload, 1) ∧ 142 + 1 = 143 := by decide +kernel
theorem zi_270_143 : zraw 270 143 = some (.i2l, 1) ∧ 143 + 1 = 144 := by decide +kernel
theorem zi_270_144 : zraw 270 144 = some (.bipush 32, 2) ∧ zin 128 32 = true ∧ 144 + 2 = 146 := by decide +kernel
theorem zi_270_146 : zraw 270 146 = some (.lshl, 1) ∧ 146 + 1 = 147 := by decide +kernel
theorem zi_270_147 : zraw 270 147 = some (.aload_n 0, 1) ∧ 147 + 1 = 148 := by decide +kernel
theorem zi_270_148 : zraw 270 148 = some (.iload 4, 2) ∧ 148 + 2 = 150 := by decide +kernel
theorem zi_270_150 : zraw 270 150 = some (.iconst 2, 1) ∧ zin 128 2 = true ∧ 150 + 1 = 151 := by decide +kernel
theorem zi_270_151 : zraw 270 151 = some (.iadd, 1) ∧ 151 + 1 = 152 := by decide +kernel
theorem zi_270_152 : zraw 270 152 = some (.iaload, 1) ∧ 152 + 1 = 153 := by decide +kernel
theorem zi_270_153 : zraw 270 153 = some (.i2l, 1) ∧ 153 + 1 = 154 := by decide +kernel
theorem zi_270_154 : zraw 270 154 = some (.ldc2_w 82, 3) ∧ zlt (zinf 270).1 82 = some 4294967295 ∧ 154 + 3 = 157 := by decide +kernel
theorem zi_270_157 : zraw 270 157 = some (.land, 1) ∧ 157 + 1 = 158 := by decide +kernel
theorem zi_270_158 : zraw 270 158 = some (.lor, 1) ∧ 158 + 1 = 159 := by decide +kernel
theorem zi_270_159 : zraw 270 159 = some (.aload_n 0, 1) ∧ 159 + 1 = 160 := by decide +kernel
theorem zi_270_160 : zraw 270 160 = some (.iload 4, 2) ∧ 160 + 2 = 162 := by decide +kernel
theorem zi_270_162 : zraw 270 162 = some (.iconst 3, 1) ∧ zin 128 3 = true ∧ 162 + 1 = 163 := by decide +kernel
theorem zi_270_163 : zraw 270 163 = some (.iadd, 1) ∧ 163 + 1 = 164 := by decide +kernel
theorem zi_270_164 : zraw 270 164 = some (.iaload, 1) ∧ 164 + 1 = 165 := by decide +kernel
theorem zi_270_165 : zraw 270 165 = some (.aload_n 3, 1) ∧ 165 + 1 = 166 := by decide +kernel
theorem zi_270_166 : zraw 270 166 = some (.invokestatic 84, 3) ∧ zmt (zinf 270).1 84 = some 251 ∧ Nat.ble 9000 251 = false ∧ zinf 251 = (11, 4, 6, 1, 1) ∧ 166 + 3 = 169 := by decide +kernel
theorem zi_270_169 : zraw 270 169 = some (.istore 5, 2) ∧ 169 + 2 = 171 := by decide +kernel
theorem zi_270_171 : zraw 270 171 = some (.aload_n 2, 1) ∧ 171 + 1 = 172 := by decide +kernel
theorem zi_270_172 : zraw 270 172 = some (.aload_n 0, 1) ∧ 172 + 1 = 173 := by decide +kernel
theorem zi_270_173 : zraw 270 173 = some (.iload 4, 2) ∧ 173 + 2 = 175 := by decide +kernel
theorem zi_270_175 : zraw 270 175 = some (.iconst 1, 1) ∧ zin 128 1 = true ∧ 175 + 1 = 176 := by decide +kernel
theorem zi_270_176 : zraw 270 176 = some (.iadd, 1) ∧ 176 + 1 = 177 := by decide +kernel
theorem zi_270_177 : zraw 270 177 = some (.iaload, 1) ∧ 177 + 1 = 178 := by decide +kernel
theorem zi_270_178 : zraw 270 178 = some (.i2l, 1) ∧ 178 + 1 = 179 := by decide +kernel
theorem zi_270_179 : zraw 270 179 = some (.bipush 32, 2) ∧ zin 128 32 = true ∧ 179 + 2 = 181 := by decide +kernel
theorem zi_270_181 : zraw 270 181 = some (.lshl, 1) ∧ 181 + 1 = 182 := by decide +kernel
theorem zi_270_182 : zraw 270 182 = some (.aload_n 0, 1) ∧ 182 + 1 = 183 := by decide +kernel
theorem zi_270_183 : zraw 270 183 = some (.iload 4, 2) ∧ 183 + 2 = 185 := by decide +kernel
theorem zi_270_185 : zraw 270 185 = some (.iconst 2, 1) ∧ zin 128 2 = true ∧ 185 + 1 = 186 := by decide +kernel
theorem zi_270_186 : zraw 270 186 = some (.iadd, 1) ∧ 186 + 1 = 187 := by decide +kernel
theorem zi_270_187 : zraw 270 187 = some (.iaload, 1) ∧ 187 + 1 = 188 := by decide +kernel
theorem zi_270_188 : zraw 270 188 = some (.i2l, 1) ∧ 188 + 1 = 189 := by decide +kernel
theorem zi_270_189 : zraw 270 189 = some (.ldc2_w 82, 3) ∧ zlt (zinf 270).1 82 = some 4294967295 ∧ 189 + 3 = 192 := by decide +kernel
theorem zi_270_192 : zraw 270 192 = some (.land, 1) ∧ 192 + 1 = 193 := by decide +kernel
theorem zi_270_193 : zraw 270 193 = some (.lor, 1) ∧ 193 + 1 = 194 := by decide +kernel
theorem zi_270_194 : zraw 270 194 = some (.aload_n 0, 1) ∧ 194 + 1 = 195 := by decide +kernel
theorem zi_270_195 : zraw 270 195 = some (.iload 4, 2) ∧ 195 + 2 = 197 := by decide +kernel
theorem zi_270_197 : zraw 270 197 = some (.iconst 3, 1) ∧ zin 128 3 = true ∧ 197 + 1 = 198 := by decide +kernel
theorem zi_270_198 : zraw 270 198 = some (.iadd, 1) ∧ 198 + 1 = 199 := by decide +kernel
theorem zi_270_199 : zraw 270 199 = some (.iaload, 1) ∧ 199 + 1 = 200 := by decide +kernel
theorem zi_270_200 : zraw 270 200 = some (.invokevirtual 89, 3) ∧ zmt (zinf 270).1 89 = some 170 ∧ Nat.ble 9000 170 = false ∧ zinf 170 = (10, 3, 5, 1, 0) ∧ 200 + 3 = 203 := by decide +kernel
theorem zi_270_203 : zraw 270 203 = some (.istore 6, 2) ∧ 203 + 2 = 205 := by decide +kernel
theorem zi_270_205 : zraw 270 205 = some (.aload_n 2, 1) ∧ 205 + 1 = 206 := by decide +kernel
theorem zi_270_206 : zraw 270 206 = some (.invokevirtual 90, 3) ∧ zmt (zinf 270).1 90 = some 140 ∧ Nat.ble 9000 140 = false ∧ zinf 140 = (10, 1, 1, 1, 0) ∧ 206 + 3 = 209 := by decide +kernel
theorem zi_270_209 : zraw 270 209 = some (.iload 5, 2) ∧ 209 + 2 = 211 := by decide +kernel
theorem zi_270_211 : zraw 270 211 = some (.if_icmp .eq 5, 3) ∧ ((211 : Nat) : Int) + 5 = Int.ofNat 216 ∧ 211 + 3 = 214 := by decide +kernel
theorem zi_270_214 : zraw 270 214 = some (.iconst 0, 1) ∧ zin 128 0 = true ∧ 214 + 1 = 215 := by decide +kernel
theorem zi_270_215 : zraw 270 215 = some (.ireturn, 1) ∧ (zinf 270).2.2.2.1 = 2 := by decide +kernel
theorem zi_270_216 : zraw 270 216 = some (.iload 5, 2) ∧ 216 + 2 = 218 := by decide +kernel
theorem zi_270_218 : zraw 270 218 = some (.ifCond .ne 15, 3) ∧ ((218 : Nat) : Int) + 15 = Int.ofNat 233 ∧ 218 + 3 = 221 := by decide +kernel
theorem zi_270_221 : zraw 270 221 = some (.aload_n 3, 1) ∧ 221 + 1 = 222 := by decide +kernel
theorem zi_270_222 : zraw 270 222 = some (.iconst 0, 1) ∧ zin 128 0 = true ∧ 222 + 1 = 223 := by decide +kernel
theorem zi_270_223 : zraw 270 223 = some (.laload, 1) ∧ 223 + 1 = 224 := by decide +kernel
theorem zi_270_224 : zraw 270 224 = some (.iload 6, 2) ∧ 224 + 2 = 226 := by decide +kernel
theorem zi_270_226 : zraw 270 226 = some (.i2l, 1) ∧ 226 + 1 = 227 := by decide +kernel
theorem zi_270_227 : zraw 270 227 = some (.lcmp, 1) ∧ 227 + 1 = 228 := by decide +kernel
theorem zi_270_228 : zraw 270 228 = some (.ifCond .eq 5, 3) ∧ ((228 : Nat) : Int) + 5 = Int.ofNat 233 ∧ 228 + 3 = 231 := by decide +kernel
theorem zi_270_231 : zraw 270 231 = some (.iconst 0, 1) ∧ zin 128 0 = true ∧ 231 + 1 = 232 := by decide +kernel
theorem zi_270_232 : zraw 270 232 = some (.ireturn, 1) ∧ (zinf 270).2.2.2.1 = 2 := by decide +kernel
theorem zi_270_233 : zraw 270 233 = some (.goto 1190, 3) ∧ ((233 : Nat) : Int) + 1190 = Int.ofNat 1423 := by decide +kernel
theorem zi_270_236 : zraw 270 236 = some (.aload_n 1, 1) ∧ 236 + 1 = 237 := by decide +kernel
theorem zi_270_237 : zraw 270 237 = some (.aload_n 0, 1) ∧ 237 + 1 = 238 := by decide +kernel
theorem zi_270_238 : zraw 270 238 = some (.iload 4, 2) ∧ 238 + 2 = 240 := by decide +kernel
theorem zi_270_240 : zraw 270 240 = some (.iconst 1, 1) ∧ zin 128 1 = true ∧ 240 + 1 = 241 := by decide +kernel
theorem zi_270_241 : zraw 270 241 = some (.iadd, 1) ∧ 241 + 1 = 242 := by decide +kernel
theorem zi_270_242 : zraw 270 242 = some (.iaload, 1) ∧ 242 + 1 = 243 := by decide +kernel
theorem zi_270_243 : zraw 270 243 = some (.aload_n 3, 1) ∧ 243 + 1 = 244 := by decide +kernel
theorem zi_270_244 : zraw 270 244 = some (.invokestatic 93, 3) ∧ zmt (zinf 270).1 93 = some 252 ∧ Nat.ble 9000 252 = false ∧ zinf 252 = (11, 3, 4, 1, 1) ∧ 244 + 3 = 247 := by decide +kernel
theorem zi_270_247 : zraw 270 247 = some (.istore 5, 2) ∧ 247 + 2 = 249 := by decide +kernel
theorem zi_270_249 : zraw 270 249 = some (.aload_n 2, 1) ∧ 249 + 1 = 250 := by decide +kernel
theorem zi_270_250 : zraw 270 250 = some (.aload_n 0, 1) ∧ 250 + 1 = 251 := by decide +kernel
theorem zi_270_251 : zraw 270 251 = some (.iload 4, 2) ∧ 251 + 2 = 253 := by decide +kernel
theorem zi_270_253 : zraw 270 253 = some (.iconst 1, 1) ∧ zin 128 1 = true ∧ 253 + 1 = 254 := by decide +kernel
theorem zi_270_254 : zraw 270 254 = some (.iadd, 1) ∧ 254 + 1 = 255 := by decide +kernel
theorem zi_270_255 : zraw 270 255 = some (.iaload, 1) ∧ 255 + 1 = 256 := by decide +kernel
theorem zi_270_256 : zraw 270 256 = some (.invokevirtual 96, 3) ∧ zmt (zinf 270).1 96 = some 173 ∧ Nat.ble 9000 173 = false ∧ zinf 173 = (10, 2, 4, 1, 0) ∧ 256 + 3 = 259 := by decide +kernel
theorem zi_270_259 : zraw 270 259 = some (.istore 6, 2) ∧ 259 + 2 = 261 := by decide +kernel
theorem zi_270_261 : zraw 270 261 = some (.aload_n 2, 1) ∧ 261 + 1 = 262 := by decide +kernel
theorem zi_270_262 : zraw 270 262 = some (.invokevirtual 90, 3) ∧ zmt (zinf 270).1 90 = some 140 ∧ Nat.ble 9000 140 = false ∧ zinf 140 = (10, 1, 1, 1, 0) ∧ 262 + 3 = 265 := by decide +kernel
theorem zi_270_265 : zraw 270 265 = some (.iload 5, 2) ∧ 265 + 2 = 267 := by decide +kernel
theorem zi_270_267 : zraw 270 267 = some (.if_icmp .eq 5, 3) ∧ ((267 : Nat) : Int) + 5 = Int.ofNat 272 ∧ 267 + 3 = 270 := by decide +kernel
theorem zi_270_270 : zraw 270 270 = some (.iconst 0, 1) ∧ zin 128 0 = true ∧ 270 + 1 = 271 := by decide +kernel
theorem zi_270_271 : zraw 270 271 = some (.ireturn, 1) ∧ (zinf 270).2.2.2.1 = 2 := by decide +kernel
theorem zi_270_272 : zraw 270 272 = some (.iload 5, 2) ∧ 272 + 2 = 274 := by decide +kernel
theorem zi_270_274 : zraw 270 274 = some (.ifCond .ne 15, 3) ∧ ((274 : Nat) : Int) + 15 = Int.ofNat 289 ∧ 274 + 3 = 277 := by decide +kernel
theorem zi_270_277 : zraw 270 277 = some (.aload_n 3, 1) ∧ 277 + 1 = 278 := by decide +kernel
theorem zi_270_278 : zraw 270 278 = some (.iconst 0, 1) ∧ zin 128 0 = true ∧ 278 + 1 = 279 := by decide +kernel
theorem zi_270_279 : zraw 270 279 = some (.laload, 1) ∧ 279 + 1 = 280 := by decide +kernel
theorem zi_270_280 : zraw 270 280 = some (.iload 6, 2) ∧ 280 + 2 = 282 := by decide +kernel
theorem zi_270_282 : zraw 270 282 = some (.i2l, 1) ∧ 282 + 1 = 283 := by decide +kernel
theorem zi_270_283 : zraw 270 283 = some (.lcmp, 1) ∧ 283 + 1 = 284 := by decide +kernel
theorem zi_270_284 : zraw 270 284 = some (.ifCond .eq 5, 3) ∧ ((284 : Nat) : Int) + 5 = Int.ofNat 289 ∧ 284 + 3 = 287 := by decide +kernel
theorem zi_270_287 : zraw 270 287 = some (.iconst 0, 1) ∧ zin 128 0 = true ∧ 287 + 1 = 288 := by decide +kernel
theorem zi_270_288 : zraw 270 288 = some (.ireturn, 1) ∧ (zinf 270).2.2.2.1 = 2 := by decide +kernel
theorem zi_270_289 : zraw 270 289 = some (.goto 1134, 3) ∧ ((289 : Nat) : Int) + 1134 = Int.ofNat 1423 := by decide +kernel
theorem zi_270_292 : zraw 270 292 = some (.aload_n 1, 1) ∧ 292 + 1 = 293 := by decide +kernel
theorem zi_270_293 : zraw 270 293 = some (.aload_n 3, 1) ∧ 293 + 1 = 294 := by decide +kernel
theorem zi_270_294 : zraw 270 294 = some (.invokestatic 97, 3) ∧ zmt (zinf 270).1 97 = some 253 ∧ Nat.ble 9000 253 = false ∧ zinf 253 = (11, 2, 3, 1, 1) ∧ 294 + 3 = 297 := by decide +kernel
theorem zi_270_297 : zraw 270 297 = some (.istore 5, 2) ∧ 297 + 2 = 299 := by decide +kernel
theorem zi_270_299 : zraw 270 299 = some (.aload_n 2, 1) ∧ 299 + 1 = 300 := by decide +kernel
theorem zi_270_300 : zraw 270 300 = some (.invokevirtual 100, 3) ∧ zmt (zinf 270).1 100 = some 174 ∧ Nat.ble 9000 174 = false ∧ zinf 174 = (10, 1, 2, 1, 0) ∧ 300 + 3 = 303 := by decide +kernel
theorem zi_270_303 : zraw 270 303 = some (.istore 6, 2) ∧ 303 + 2 = 305 := by decide +kernel
theorem zi_270_305 : zraw 270 305 = some (.aload_n 2, 1) ∧ 305 + 1 = 306 := by decide +kernel
theorem zi_270_306 : zraw 270 306 = some (.invokevirtual 90, 3) ∧ zmt (zinf 270).1 90 = some 140 ∧ Nat.ble 9000 140 = false ∧ zinf 140 = (10, 1, 1, 1, 0) ∧ 306 + 3 = 309 := by decide +kernel
theorem zi_270_309 : zraw 270 309 = some (.iload 5, 2) ∧ 309 + 2 = 311 := by decide +kernel
theorem zi_270_311 : zraw 270 311 = some (.if_icmp .eq 5, 3) ∧ ((311 : Nat) : Int) + 5 = Int.ofNat 316 ∧ 311 + 3 = 314 := by decide +kernel
theorem zi_270_314 : zraw 270 314 = some (.iconst 0, 1) ∧ zin 128 0 = true ∧ 314 + 1 = 315 := by decide +kernel
theorem zi_270_315 : zraw 270 315 = some (.ireturn, 1) ∧ (zinf 270).2.2.2.1 = 2 := by decide +kernel
theorem zi_270_316 : zraw 270 316 = some (.iload 5, 2) ∧ 316 + 2 = 318 := by decide +kernel
theorem zi_270_318 : zraw 270 318 = some (.ifCond .ne 15, 3) ∧ ((318 : Nat) : Int) + 15 = Int.ofNat 333 ∧ 318 + 3 = 321 := by decide +kernel
theorem zi_270_321 : zraw 270 321 = some (.aload_n 3, 1) ∧ 321 + 1 = 322 := by decide +kernel
theorem zi_270_322 : zraw 270 322 = some (.iconst 0, 1) ∧ zin 128 0 = true ∧ 322 + 1 = 323 := by decide +kernel
theorem zi_270_323 : zraw 270 323 = some (.laload, 1) ∧ 323 + 1 = 324 := by decide +kernel
theorem zi_270_324 : zraw 270 324 = some (.iload 6, 2) ∧ 324 + 2 = 326 := by decide +kernel
theorem zi_270_326 : zraw 270 326 = some (.i2l, 1) ∧ 326 + 1 = 327 := by decide +kernel
theorem zi_270_327 : zraw 270 327 = some (.lcmp, 1) ∧ 327 + 1 = 328 := by decide +kernel
theorem zi_270_328 : zraw 270 328 = some (.ifCond .eq 5, 3) ∧ ((328 : Nat) : Int) + 5 = Int.ofNat 333 ∧ 328 + 3 = 331 := by decide +kernel
theorem zi_270_331 : zraw 270 331 = some (.iconst 0, 1) ∧ zin 128 0 = true ∧ 331 + 1 = 332 := by decide +kernel
theorem zi_270_332 : zraw 270 332 = some (.ireturn, 1) ∧ (zinf 270).2.2.2.1 = 2 := by decide +kernel
theorem zi_270_333 : zraw 270 333 = some (.goto 1090, 3) ∧ ((333 : Nat) : Int) + 1090 = Int.ofNat 1423 := by decide +kernel
theorem zi_270_336 : zraw 270 336 = some (.aload_n 1, 1) ∧ 336 + 1 = 337 := by decide +kernel
theorem zi_270_337 : zraw 270 337 = some (.aload_n 3, 1) ∧ 337 + 1 = 338 := by decide +kernel
theorem zi_270_338 : zraw 270 338 = some (.invokestatic 101, 3) ∧ zmt (zinf 270).1 101 = some 254 ∧ Nat.ble 9000 254 = false ∧ zinf 254 = (11, 2, 3, 1, 1) ∧ 338 + 3 = 341 := by decide +kernel
theorem zi_270_341 : zraw 270 341 = some (.istore 5, 2) ∧ 341 + 2 = 343 := by decide +kernel
theorem zi_270_343 : zraw 270 343 = some (.aload_n 2, 1) ∧ 343 + 1 = 344 := by decide +kernel
theorem zi_270_344 : zraw 270 344 = some (.invokevirtual 103, 3) ∧ zmt (zinf 270).1 103 = some 175 ∧ Nat.ble 9000 175 = false ∧ zinf 175 = (10, 1, 2, 1, 0) ∧ 344 + 3 = 347 := by decide +kernel
theorem zi_270_347 : zraw 270 347 = some (.istore 6, 2) ∧ 347 + 2 = 349 := by decide +kernel
theorem zi_270_349 : zraw 270 349 = some (.aload_n 2, 1) ∧ 349 + 1 = 350 := by decide +kernel
theorem zi_270_350 : zraw 270 350 = some (.invokevirtual 90, 3) ∧ zmt (zinf 270).1 90 = some 140 ∧ Nat.ble 9000 140 = false ∧ zinf 140 = (10, 1, 1, 1, 0) ∧ 350 + 3 = 353 := by decide +kernel
theorem zi_270_353 : zraw 270 353 = some (.iload 5, 2) ∧ 353 + 2 = 355 := by decide +kernel
theorem zi_270_355 : zraw 270 355 = some (.if_icmp .eq 5, 3) ∧ ((355 : Nat) : Int) + 5 = Int.ofNat 360 ∧ 355 + 3 = 358 := by decide +kernel
theorem zi_270_358 : zraw 270 358 = some (.iconst 0, 1) ∧ zin 128 0 = true ∧ 358 + 1 = 359 := by decide +kernel
theorem zi_270_359 : zraw 270 359 = some (.ireturn, 1) ∧ (zinf 270).2.2.2.1 = 2 := by decide +kernel
theorem zi_270_360 : zraw 270 360 = some (.iload 5, 2) ∧ 360 + 2 = 362 := by decide +kernel
theorem zi_270_362 : zraw 270 362 = some (.ifCond .ne 15, 3) ∧ ((362 : Nat) : Int) + 15 = Int.ofNat 377 ∧ 362 + 3 = 365 := by decide +kernel
theorem zi_270_365 : zraw 270 365 = some (.aload_n 3, 1) ∧ 365 + 1 = 366 := by decide +kernel
theorem zi_270_366 : zraw 270 366 = some (.iconst 0, 1) ∧ zin 128 0 = true ∧ 366 + 1 = 367 := by decide +kernel
theorem zi_270_367 : zraw 270 367 = some (.laload, 1) ∧ 367 + 1 = 368 := by decide +kernel
theorem zi_270_368 : zraw 270 368 = some (.iload 6, 2) ∧ 368 + 2 = 370 := by decide +kernel
theorem zi_270_370 : zraw 270 370 = some (.i2l, 1) ∧ 370 + 1 = 371 := by decide +kernel
theorem zi_270_371 : zraw 270 371 = some (.lcmp, 1) ∧ 371 + 1 = 372 := by decide +kernel
theorem zi_270_372 : zraw 270 372 = some (.ifCond .eq 5, 3) ∧ ((372 : Nat) : Int) + 5 = Int.ofNat 377 ∧ 372 + 3 = 375 := by decide +kernel
theorem zi_270_375 : zraw 270 375 = some (.iconst 0, 1) ∧ zin 128 0 = true ∧ 375 + 1 = 376 := by decide +kernel
theorem zi_270_376 : zraw 270 376 = some (.ireturn, 1) ∧ (zinf 270).2.2.2.1 = 2 := by decide +kernel
theorem zi_270_377 : zraw 270 377 = some (.goto 1046, 3) ∧ ((377 : Nat) : Int) + 1046 = Int.ofNat 1423 := by decide +kernel
theorem zi_270_380 : zraw 270 380 = some (.aload_n 1, 1) ∧ 380 + 1 = 381 := by decide +kernel
theorem zi_270_381 : zraw 270 381 = some (.aload_n 0, 1) ∧ 381 + 1 = 382 := by decide +kernel
theorem zi_270_382 : zraw 270 382 = some (.iload 4, 2) ∧ 382 + 2 = 384 := by decide +kernel
theorem zi_270_384 : zraw 270 384 = some (.iconst 1, 1) ∧ zin 128 1 = true ∧ 384 + 1 = 385 := by decide +kernel
theorem zi_270_385 : zraw 270 385 = some (.iadd, 1) ∧ 385 + 1 = 386 := by decide +kernel
theorem zi_270_386 : zraw 270 386 = some (.iaload, 1) ∧ 386 + 1 = 387 := by decide +kernel
theorem zi_270_387 : zraw 270 387 = some (.ifCond .eq 7, 3) ∧ ((387 : Nat) : Int) + 7 = Int.ofNat 394 ∧ 387 + 3 = 390 := by decide +kernel
theorem zi_270_390 : zraw 270 390 = some (.iconst 1, 1) ∧ zin 128 1 = true ∧ 390 + 1 = 391 := by decide +kernel
theorem zi_270_391 : zraw 270 391 = some (.goto 4, 3) ∧ ((391 : Nat) : Int) + 4 = Int.ofNat 395 := by decide +kernel
theorem zi_270_394 : zraw 270 394 = some (.iconst 0, 1) ∧ zin 128 0 = true ∧ 394 + 1 = 395 := by decide +kernel
theorem zi_270_395 : zraw 270 395 = some (.invokevirtual 104, 3) ∧ zmt (zinf 270).1 104 = some 108 ∧ Nat.ble 9000 108 = false ∧ zinf 108 = (9, 2, 2, 1, 0) ∧ 395 + 3 = 398 := by decide +kernel
theorem zi_270_398 : zraw 270 398 = some (.aload_n 2, 1) ∧ 398 + 1 = 399 := by decide +kernel
theorem zi_270_399 : zraw 270 399 = some (.aload_n 0, 1) ∧ 399 + 1 = 400 := by decide +kernel
theorem zi_270_400 : zraw 270 400 = some (.iload 4, 2) ∧ 400 + 2 = 402 := by decide +kernel
theorem zi_270_402 : zraw 270 402 = some (.iconst 1, 1) ∧ zin 128 1 = true ∧ 402 + 1 = 403 := by decide +kernel
theorem zi_270_403 : zraw 270 403 = some (.iadd, 1) ∧ 403 + 1 = 404 := by decide +kernel
theorem zi_270_404 : zraw 270 404 = some (.iaload, 1) ∧ 404 + 1 = 405 := by decide +kernel
theorem zi_270_405 : zraw 270 405 = some (.ifCond .eq 7, 3) ∧ ((405 : Nat) : Int) + 7 = Int.ofNat 412 ∧ 405 + 3 = 408 := by decide +kernel
theorem zi_270_408 : zraw 270 408 = some (.iconst 1, 1) ∧ zin 128 1 = true ∧ 408 + 1 = 409 := by decide +kernel
theorem zi_270_409 : zraw 270 409 = some (.goto 4, 3) ∧ ((409 : Nat) : Int) + 4 = Int.ofNat 413 := by decide +kernel
theorem zi_270_412 : zraw 270 412 = some (.iconst 0, 1) ∧ zin 128 0 = true ∧ 412 + 1 = 413 := by decide +kernel
theorem zi_270_413 : zraw 270 413 = some (.invokevirtual 108, 3) ∧ zmt (zinf 270).1 108 = some 176 ∧ Nat.ble 9000 176 = false ∧ zinf 176 = (10, 2, 2, 1, 0) ∧ 413 + 3 = 416 := by decide +kernel
theorem zi_270_416 : zraw 270 416 = some (.if_icmp .eq 1007, 3) ∧ ((416 : Nat) : Int) + 1007 = Int.ofNat 1423 ∧ 416 + 3 = 419 := by decide +kernel
theorem zi_270_419 : zraw 270 419 = some (.iconst 0, 1) ∧ zin 128 0 = true ∧ 419 + 1 = 420 := by decide +kernel
theorem zi_270_420 : zraw 270 420 = some (.ireturn, 1) ∧ (zinf 270).2.2.2.1 = 2 := by decide +kernel
theorem zi_270_421 : zraw 270 421 = some (.aload_n 1, 1) ∧ 421 + 1 = 422 := by decide +kernel
theorem zi_270_422 : zraw 270 422 = some (.aload_n 0, 1) ∧ 422 + 1 = 423 := by decide +kernel
theorem zi_270_423 : zraw 270 423 = some (.iload 4, 2) ∧ 423 + 2 = 425 := by decide +kernel
theorem zi_270_425 : zraw 270 425 = some (.iconst 1, 1) ∧ zin 128 1 = true ∧ 425 + 1 = 426 := by decide +kernel
theorem zi_270_426 : zraw 270 426 = some (.iadd, 1) ∧ 426 + 1 = 427 := by decide +kernel
theorem zi_270_427 : zraw 270 427 = some (.iaload, 1) ∧ 427 + 1 = 428 := by decide +kernel
theorem zi_270_428 : zraw 270 428 = some (.aload_n 3, 1) ∧ 428 + 1 = 429 := by decide +kernel
theorem zi_270_429 : zraw 270 429 = some (.invokestatic 109, 3) ∧ zmt (zinf 270).1 109 = some 255 ∧ Nat.ble 9000 255 = false ∧ zinf 255 = (11, 3, 4, 1, 1) ∧ 429 + 3 = 432 := by decide +kernel
theorem zi_270_432 : zraw 270 432 = some (.istore 5, 2) ∧ 432 + 2 = 434 := by decide +kernel
theorem zi_270_434 : zraw 270 434 = some (.aload_n 2, 1) ∧ 434 + 1 = 435 := by decide +kernel
theorem zi_270_435 : zraw 270 435 = some (.aload_n 0, 1) ∧ 435 + 1 = 436 := by decide +kernel
theorem zi_270_436 : zraw 270 436 = some (.iload 4, 2) ∧ 436 + 2 = 438 := by decide +kernel
theorem zi_270_438 : zraw 270 438 = some (.iconst 1, 1) ∧ zin 128 1 = true ∧ 438 + 1 = 439 := by decide +kernel
theorem zi_270_439 : zraw 270 439 = some (.iadd, 1) ∧ 439 + 1 = 440 := by decide +kernel
theorem zi_270_440 : zraw 270 440 = some (.iaload, 1) ∧ 440 + 1 = 441 := by decide +kernel
theorem zi_270_441 : zraw 270 441 = some (.invokevirtual 111, 3) ∧ zmt (zinf 270).1 111 = some 177 ∧ Nat.ble 9000 177 = false ∧ zinf 177 = (10, 2, 2, 1, 0) ∧ 441 + 3 = 444 := by decide +kernel
theorem zi_270_444 : zraw 270 444 = some (.istore 6, 2) ∧ 444 + 2 = 446 := by decide +kernel
theorem zi_270_446 : zraw 270 446 = some (.aload_n 2, 1) ∧ 446 + 1 = 447 := by decide +kernel
theorem zi_270_447 : zraw 270 447 = some (.invokevirtual 90, 3) ∧ zmt (zinf 270).1 90 = some 140 ∧ Nat.ble 9000 140 = false ∧ zinf 140 = (10, 1, 1, 1, 0) ∧ 447 + 3 = 450 := by decide +kernel
theorem zi_270_450 : zraw 270 450 = some (.iload 5, 2) ∧ 450 + 2 = 452 := by decide +kernel
theorem zi_270_452 : zraw 270 452 = some (.if_icmp .eq 5, 3) ∧ ((452 : Nat) : Int) + 5 = Int.ofNat 457 ∧ 452 + 3 = 455 := by decide +kernel
theorem zi_270_455 : zraw 270 455 = some (.iconst 0, 1) ∧ zin 128 0 = true ∧ 455 + 1 = 456 := by decide +kernel
theorem zi_270_456 : zraw 270 456 = some (.ireturn, 1) ∧ (zinf 270).2.2.2.1 = 2 := by decide +kernel
theorem zi_270_457 : zraw 270 457 = some (.iload 5, 2) ∧ 457 + 2 = 459 := by decide +kernel
theorem zi_270_459 : zraw 270 459 = some (.ifCond .ne 15, 3) ∧ ((459 : Nat) : Int) + 15 = Int.ofNat 474 ∧ 459 + 3 = 462 := by decide +kernel
theorem zi_270_462 : zraw 270 462 = some (.aload_n 3, 1) ∧ 462 + 1 = 463 := by decide +kernel
theorem zi_270_463 : zraw 270 463 = some (.iconst 0, 1) ∧ zin 128 0 = true ∧ 463 + 1 = 464 := by decide +kernel
theorem zi_270_464 : zraw 270 464 = some (.laload, 1) ∧ 464 + 1 = 465 := by decide +kernel
theorem zi_270_465 : zraw 270 465 = some (.iload 6, 2) ∧ 465 + 2 = 467 := by decide +kernel
theorem zi_270_467 : zraw 270 467 = some (.i2l, 1) ∧ 467 + 1 = 468 := by decide +kernel
theorem zi_270_468 : zraw 270 468 = some (.lcmp, 1) ∧ 468 + 1 = 469 := by decide +kernel
theorem zi_270_469 : zraw 270 469 = some (.ifCond .eq 5, 3) ∧ ((469 : Nat) : Int) + 5 = Int.ofNat 474 ∧ 469 + 3 = 472 := by decide +kernel
theorem zi_270_472 : zraw 270 472 = some (.iconst 0, 1) ∧ zin 128 0 = true ∧ 472 + 1 = 473 := by decide +kernel
theorem zi_270_473 : zraw 270 473 = some (.ireturn, 1) ∧ (zinf 270).2.2.2.1 = 2 := by decide +kernel
theorem zi_270_474 : zraw 270 474 = some (.goto 949, 3) ∧ ((474 : Nat) : Int) + 949 = Int.ofNat 1423 := by decide +kernel
theorem zi_270_477 : zraw 270 477 = some (.aload_n 1, 1) ∧ 477 + 1 = 478 := by decide +kernel
theorem zi_270_478 : zraw 270 478 = some (.aload_n 0, 1) ∧ 478 + 1 = 479 := by decide +kernel
theorem zi_270_479 : zraw 270 479 = some (.iload 4, 2) ∧ 479 + 2 = 481 := by decide +kernel
theorem zi_270_481 : zraw 270 481 = some (.iconst 1, 1) ∧ zin 128 1 = true ∧ 481 + 1 = 482 := by decide +kernel
theorem zi_270_482 : zraw 270 482 = some (.iadd, 1) ∧ 482 + 1 = 483 := by decide +kernel
theorem zi_270_483 : zraw 270 483 = some (.iaload, 1) ∧ 483 + 1 = 484 := by decide +kernel
theorem zi_270_484 : zraw 270 484 = some (.aload_n 0, 1) ∧ 484 + 1 = 485 := by decide +kernel
theorem zi_270_485 : zraw 270 485 = some (.iload 4, 2) ∧ 485 + 2 = 487 := by decide +kernel
theorem zi_270_487 : zraw 270 487 = some (.iconst 2, 1) ∧ zin 128 2 = true ∧ 487 + 1 = 488 := by decide +kernel
theorem zi_270_488 : zraw 270 488 = some (.iadd, 1) ∧ 488 + 1 = 489 := by decide +kernel
theorem zi_270_489 : zraw 270 489 = some (.iaload, 1) ∧ 489 + 1 = 490 := by decide +kernel
theorem zi_270_490 : zraw 270 490 = some (.aload_n 3, 1) ∧ 490 + 1 = 491 := by decide +kernel
theorem zi_270_491 : zraw 270 491 = some (.invokestatic 112, 3) ∧ zmt (zinf 270).1 112 = some 256 ∧ Nat.ble 9000 256 = false ∧ zinf 256 = (11, 4, 5, 1, 1) ∧ 491 + 3 = 494 := by decide +kernel
theorem zi_270_494 : zraw 270 494 = some (.istore 5, 2) ∧ 494 + 2 = 496 := by decide +kernel
theorem zi_270_496 : zraw 270 496 = some (.aload_n 2, 1) ∧ 496 + 1 = 497 := by decide +kernel
theorem zi_270_497 : zraw 270 497 = some (.aload_n 0, 1) ∧ 497 + 1 = 498 := by decide +kernel
theorem zi_270_498 : zraw 270 498 = some (.iload 4, 2) ∧ 498 + 2 = 500 := by decide +kernel
theorem zi_270_500 : zraw 270 500 = some (.iconst 1, 1) ∧ zin 128 1 = true ∧ 500 + 1 = 501 := by decide +kernel
theorem zi_270_501 : zraw 270 501 = some (.iadd, 1) ∧ 501 + 1 = 502 := by decide +kernel
theorem zi_270_502 : zraw 270 502 = some (.iaload, 1) ∧ 502 + 1 = 503 := by decide +kernel
theorem zi_270_503 : zraw 270 503 = some (.aload_n 0, 1) ∧ 503 + 1 = 504 := by decide +kernel
theorem zi_270_504 : zraw 270 504 = some (.iload 4, 2) ∧ 504 + 2 = 506 := by decide +kernel
theorem zi_270_506 : zraw 270 506 = some (.iconst 2, 1) ∧ zin 128 2 = true ∧ 506 + 1 = 507 := by decide +kernel
theorem zi_270_507 : zraw 270 507 = some (.iadd, 1) ∧ 507 + 1 = 508 := by decide +kernel
theorem zi_270_508 : zraw 270 508 = some (.iaload, 1) ∧ 508 + 1 = 509 := by decide +kernel
theorem zi_270_509 : zraw 270 509 = some (.invokevirtual 115, 3) ∧ zmt (zinf 270).1 115 = some 179 ∧ Nat.ble 9000 179 = false ∧ zinf 179 = (10, 3, 3, 1, 0) ∧ 509 + 3 = 512 := by decide +kernel
theorem zi_270_512 : zraw 270 512 = some (.istore 6, 2) ∧ 512 + 2 = 514 := by decide +kernel
theorem zi_270_514 : zraw 270 514 = some (.aload_n 2, 1) ∧ 514 + 1 = 515 := by decide +kernel
theorem zi_270_515 : zraw 270 515 = some (.invokevirtual 90, 3) ∧ zmt (zinf 270).1 90 = some 140 ∧ Nat.ble 9000 140 = false ∧ zinf 140 = (10, 1, 1, 1, 0) ∧ 515 + 3 = 518 := by decide +kernel
theorem zi_270_518 : zraw 270 518 = some (.iload 5, 2) ∧ 518 + 2 = 520 := by decide +kernel
theorem zi_270_520 : zraw 270 520 = some (.if_icmp .eq 5, 3) ∧ ((520 : Nat) : Int) + 5 = Int.ofNat 525 ∧ 520 + 3 = 523 := by decide +kernel
theorem zi_270_523 : zraw 270 523 = some (.iconst 0, 1) ∧ zin 128 0 = true ∧ 523 + 1 = 524 := by decide +kernel
theorem zi_270_524 : zraw 270 524 = some (.ireturn, 1) ∧ (zinf 270).2.2.2.1 = 2 := by decide +kernel
theorem zi_270_525 : zraw 270 525 = some (.iload 5, 2) ∧ 525 + 2 = 527 := by decide +kernel
theorem zi_270_527 : zraw 270 527 = some (.ifCond .ne 15, 3) ∧ ((527 : Nat) : Int) + 15 = Int.ofNat 542 ∧ 527 + 3 = 530 := by decide +kernel
theorem zi_270_530 : zraw 270 530 = some (.aload_n 3, 1) ∧ 530 + 1 = 531 := by decide +kernel
theorem zi_270_531 : zraw 270 531 = some (.iconst 0, 1) ∧ zin 128 0 = true ∧ 531 + 1 = 532 := by decide +kernel
theorem zi_270_532 : zraw 270 532 = some (.laload, 1) ∧ 532 + 1 = 533 := by decide +kernel
theorem zi_270_533 : zraw 270 533 = some (.iload 6, 2) ∧ 533 + 2 = 535 := by decide +kernel
theorem zi_270_535 : zraw 270 535 = some (.i2l, 1) ∧ 535 + 1 = 536 := by decide +kernel
theorem zi_270_536 : zraw 270 536 = some (.lcmp, 1) ∧ 536 + 1 = 537 := by decide +kernel
theorem zi_270_537 : zraw 270 537 = some (.ifCond .eq 5, 3) ∧ ((537 : Nat) : Int) + 5 = Int.ofNat 542 ∧ 537 + 3 = 540 := by decide +kernel
theorem zi_270_540 : zraw 270 540 = some (.iconst 0, 1) ∧ zin 128 0 = true ∧ 540 + 1 = 541 := by decide +kernel
theorem zi_270_541 : zraw 270 541 = some (.ireturn, 1) ∧ (zinf 270).2.2.2.1 = 2 := by decide +kernel
theorem zi_270_542 : zraw 270 542 = some (.goto 881, 3) ∧ ((542 : Nat) : Int) + 881 = Int.ofNat 1423 := by decide +kernel
theorem zi_270_545 : zraw 270 545 = some (.aload_n 1, 1) ∧ 545 + 1 = 546 := by decide +kernel
theorem zi_270_546 : zraw 270 546 = some (.aload_n 0, 1) ∧ 546 + 1 = 547 := by decide +kernel
theorem zi_270_547 : zraw 270 547 = some (.iload 4, 2) ∧ 547 + 2 = 549 := by decide +kernel
theorem zi_270_549 : zraw 270 549 = some (.iconst 1, 1) ∧ zin 128 1 = true ∧ 549 + 1 = 550 := by decide +kernel
theorem zi_270_550 : zraw 270 550 = some (.iadd, 1) ∧ 550 + 1 = 551 := by decide +kernel
theorem zi_270_551 : zraw 270 551 = some (.iaload, 1) ∧ 551 + 1 = 552 := by decide +kernel
theorem zi_270_552 : zraw 270 552 = some (.aload_n 0, 1) ∧ 552 + 1 = 553 := by decide +kernel
theorem zi_270_553 : zraw 270 553 = some (.iload 4, 2) ∧ 553 + 2 = 555 := by decide +kernel
theorem zi_270_555 : zraw 270 555 = some (.iconst 2, 1) ∧ zin 128 2 = true ∧ 555 + 1 = 556 := by decide +kernel
theorem zi_270_556 : zraw 270 556 = some (.iadd, 1) ∧ 556 + 1 = 557 := by decide +kernel
theorem zi_270_557 : zraw 270 557 = some (.iaload, 1) ∧ 557 + 1 = 558 := by decide +kernel
theorem zi_270_558 : zraw 270 558 = some (.aload_n 3, 1) ∧ 558 + 1 = 559 := by decide +kernel
theorem zi_270_559 : zraw 270 559 = some (.invokestatic 116, 3) ∧ zmt (zinf 270).1 116 = some 257 ∧ Nat.ble 9000 257 = false ∧ zinf 257 = (11, 4, 5, 1, 1) ∧ 559 + 3 = 562 := by decide +kernel
theorem zi_270_562 : zraw 270 562 = some (.istore 5, 2) ∧ 562 + 2 = 564 := by decide +kernel
theorem zi_270_564 : zraw 270 564 = some (.aload_n 2, 1) ∧ 564 + 1 = 565 := by decide +kernel
theorem zi_270_565 : zraw 270 565 = some (.aload_n 0, 1) ∧ 565 + 1 = 566 := by decide +kernel
theorem zi_270_566 : zraw 270 566 = some (.iload 4, 2) ∧ 566 + 2 = 568 := by decide +kernel
theorem zi_270_568 : zraw 270 568 = some (.iconst 1, 1) ∧ zin 128 1 = true ∧ 568 + 1 = 569 := by decide +kernel
theorem zi_270_569 : zraw 270 569 = some (.iadd, 1) ∧ 569 + 1 = 570 := by decide +kernel
theorem zi_270_570 : zraw 270 570 = some (.iaload, 1) ∧ 570 + 1 = 571 := by decide +kernel
theorem zi_270_571 : zraw 270 571 = some (.aload_n 0, 1) ∧ 571 + 1 = 572 := by decide +kernel
theorem zi_270_572 : zraw 270 572 = some (.iload 4, 2) ∧ 572 + 2 = 574 := by decide +kernel
theorem zi_270_574 : zraw 270 574 = some (.iconst 2, 1) ∧ zin 128 2 = true ∧ 574 + 1 = 575 := by decide +kernel
theorem zi_270_575 : zraw 270 575 = some (.iadd, 1) ∧ 575 + 1 = 576 := by decide +kernel
theorem zi_270_576 : zraw 270 576 = some (.iaload, 1) ∧ 576 + 1 = 577 := by decide +kernel
theorem zi_270_577 : zraw 270 577 = some (.invokevirtual 118, 3) ∧ zmt (zinf 270).1 118 = some 184 ∧ Nat.ble 9000 184 = false ∧ zinf 184 = (10, 3, 3, 1, 0) ∧ 577 + 3 = 580 := by decide +kernel
theorem zi_270_580 : zraw 270 580 = some (.istore 6, 2) ∧ 580 + 2 = 582 := by decide +kernel
theorem zi_270_582 : zraw 270 582 = some (.aload_n 2, 1) ∧ 582 + 1 = 583 := by decide +kernel
theorem zi_270_583 : zraw 270 583 = some (.invokevirtual 90, 3) ∧ zmt (zinf 270).1 90 = some 140 ∧ Nat.ble 9000 140 = false ∧ zinf 140 = (10, 1, 1, 1, 0) ∧ 583 + 3 = 586 := by decide +kernel
theorem zi_270_586 : zraw 270 586 = some (.iload 5, 2) ∧ 586 + 2 = 588 := by decide +kernel
theorem zi_270_588 : zraw 270 588 = some (.if_icmp .eq 5, 3) ∧ ((588 : Nat) : Int) + 5 = Int.ofNat 593 ∧ 588 + 3 = 591 := by decide +kernel
theorem zi_270_591 : zraw 270 591 = some (.iconst 0, 1) ∧ zin 128 0 = true ∧ 591 + 1 = 592 := by decide +kernel
theorem zi_270_592 : zraw 270 592 = some (.ireturn, 1) ∧ (zinf 270).2.2.2.1 = 2 := by decide +kernel
theorem zi_270_593 : zraw 270 593 = some (.iload 5, 2) ∧ 593 + 2 = 595 := by decide +kernel
theorem zi_270_595 : zraw 270 595 = some (.ifCond .ne 15, 3) ∧ ((595 : Nat) : Int) + 15 = Int.ofNat 610 ∧ 595 + 3 = 598 := by decide +kernel
theorem zi_270_598 : zraw 270 598 = some (.aload_n 3, 1) ∧ 598 + 1 = 599 := by decide +kernel
theorem zi_270_599 : zraw 270 599 = some (.iconst 0, 1) ∧ zin 128 0 = true ∧ 599 + 1 = 600 := by decide +kernel
theorem zi_270_600 : zraw 270 600 = some (.laload, 1) ∧ 600 + 1 = 601 := by decide +kernel
theorem zi_270_601 : zraw 270 601 = some (.iload 6, 2) ∧ 601 + 2 = 603 := by decide +kernel
theorem zi_270_603 : zraw 270 603 = some (.i2l, 1) ∧ 603 + 1 = 604 := by decide +kernel
theorem zi_270_604 : zraw 270 604 = some (.lcmp, 1) ∧ 604 + 1 = 605 := by decide +kernel
theorem zi_270_605 : zraw 270 605 = some (.ifCond .eq 5, 3) ∧ ((605 : Nat) : Int) + 5 = Int.ofNat 610 ∧ 605 + 3 = 608 := by decide +kernel
theorem zi_270_608 : zraw 270 608 = some (.iconst 0, 1) ∧ zin 128 0 = true ∧ 608 + 1 = 609 := by decide +kernel
theorem zi_270_609 : zraw 270 609 = some (.ireturn, 1) ∧ (zinf 270).2.2.2.1 = 2 := by decide +kernel
theorem zi_270_610 : zraw 270 610 = some (.goto 813, 3) ∧ ((610 : Nat) : Int) + 813 = Int.ofNat 1423 := by decide +kernel
theorem zi_270_613 : zraw 270 613 = some (.aload_n 1, 1) ∧ 613 + 1 = 614 := by decide +kernel
theorem zi_270_614 : zraw 270 614 = some (.aload_n 0, 1) ∧ 614 + 1 = 615 := by decide +kernel
theorem zi_270_615 : zraw 270 615 = some (.iload 4, 2) ∧ 615 + 2 = 617 := by decide +kernel
theorem zi_270_617 : zraw 270 617 = some (.iconst 1, 1) ∧ zin 128 1 = true ∧ 617 + 1 = 618 := by decide +kernel
theorem zi_270_618 : zraw 270 618 = some (.iadd, 1) ∧ 618 + 1 = 619 := by decide +kernel
theorem zi_270_619 : zraw 270 619 = some (.iaload, 1) ∧ 619 + 1 = 620 := by decide +kernel
theorem zi_270_620 : zraw 270 620 = some (.aload_n 0, 1) ∧ 620 + 1 = 621 := by decide +kernel
theorem zi_270_621 : zraw 270 621 = some (.iload 4, 2) ∧ 621 + 2 = 623 := by decide +kernel
theorem zi_270_623 : zraw 270 623 = some (.iconst 2, 1) ∧ zin 128 2 = true ∧ 623 + 1 = 624 := by decide +kernel
theorem zi_270_624 : zraw 270 624 = some (.iadd, 1) ∧ 624 + 1 = 625 := by decide +kernel
theorem zi_270_625 : zraw 270 625 = some (.iaload, 1) ∧ 625 + 1 = 626 := by decide +kernel
theorem zi_270_626 : zraw 270 626 = some (.aload_n 0, 1) ∧ 626 + 1 = 627 := by decide +kernel
theorem zi_270_627 : zraw 270 627 = some (.iload 4, 2) ∧ 627 + 2 = 629 := by decide +kernel
theorem zi_270_629 : zraw 270 629 = some (.iconst 3, 1) ∧ zin 128 3 = true ∧ 629 + 1 = 630 := by decide +kernel
theorem zi_270_630 : zraw 270 630 = some (.iadd, 1) ∧ 630 + 1 = 631 := by decide +kernel
theorem zi_270_631 : zraw 270 631 = some (.iaload, 1) ∧ 631 + 1 = 632 := by decide +kernel
theorem zi_270_632 : zraw 270 632 = some (.ifCond .eq 7, 3) ∧ ((632 : Nat) : Int) + 7 = Int.ofNat 639 ∧ 632 + 3 = 635 := by decide +kernel
theorem zi_270_635 : zraw 270 635 = some (.iconst 1, 1) ∧ zin 128 1 = true ∧ 635 + 1 = 636 := by decide +kernel
theorem zi_270_636 : zraw 270 636 = some (.goto 4, 3) ∧ ((636 : Nat) : Int) + 4 = Int.ofNat 640 := by decide +kernel
theorem zi_270_639 : zraw 270 639 = some (.iconst 0, 1) ∧ zin 128 0 = true ∧ 639 + 1 = 640 := by decide +kernel
theorem zi_270_640 : zraw 270 640 = some (.aload_n 3, 1) ∧ 640 + 1 = 641 := by decide +kernel
theorem zi_270_641 : zraw 270 641 = some (.invokestatic 119, 3) ∧ zmt (zinf 270).1 119 = some 258 ∧ Nat.ble 9000 258 = false ∧ zinf 258 = (11, 5, 6, 1, 1) ∧ 641 + 3 = 644 := by decide +kernel
theorem zi_270_644 : zraw 270 644 = some (.istore 5, 2) ∧ 644 + 2 = 646 := by decide +kernel
theorem zi_270_646 : zraw 270 646 = some (.aload_n 2, 1) ∧ 646 + 1 = 647 := by decide +kernel
theorem zi_270_647 : zraw 270 647 = some (.aload_n 0, 1) ∧ 647 + 1 = 648 := by decide +kernel
theorem zi_270_648 : zraw 270 648 = some (.iload 4, 2) ∧ 648 + 2 = 650 := by decide +kernel
theorem zi_270_650 : zraw 270 650 = some (.iconst 1, 1) ∧ zin 128 1 = true ∧ 650 + 1 = 651 := by decide +kernel
theorem zi_270_651 : zraw 270 651 = some (.iadd, 1) ∧ 651 + 1 = 652 := by decide +kernel
theorem zi_270_652 : zraw 270 652 = some (.iaload, 1) ∧ 652 + 1 = 653 := by decide +kernel
theorem zi_270_653 : zraw 270 653 = some (.aload_n 0, 1) ∧ 653 + 1 = 654 := by decide +kernel
theorem zi_270_654 : zraw 270 654 = some (.iload 4, 2) ∧ 654 + 2 = 656 := by decide +kernel
theorem zi_270_656 : zraw 270 656 = some (.iconst 2, 1) ∧ zin 128 2 = true ∧ 656 + 1 = 657 := by decide +kernel
theorem zi_270_657 : zraw 270 657 = some (.iadd, 1) ∧ 657 + 1 = 658 := by decide +kernel
theorem zi_270_658 : zraw 270 658 = some (.iaload, 1) ∧ 658 + 1 = 659 := by decide +kernel
theorem zi_270_659 : zraw 270 659 = some (.aload_n 0, 1) ∧ 659 + 1 = 660 := by decide +kernel
theorem zi_270_660 : zraw 270 660 = some (.iload 4, 2) ∧ 660 + 2 = 662 := by decide +kernel
theorem zi_270_662 : zraw 270 662 = some (.iconst 3, 1) ∧ zin 128 3 = true ∧ 662 + 1 = 663 := by decide +kernel
theorem zi_270_663 : zraw 270 663 = some (.iadd, 1) ∧ 663 + 1 = 664 := by decide +kernel
theorem zi_270_664 : zraw 270 664 = some (.iaload, 1) ∧ 664 + 1 = 665 := by decide +kernel
theorem zi_270_665 : zraw 270 665 = some (.ifCond .eq 7, 3) ∧ ((665 : Nat) : Int) + 7 = Int.ofNat 672 ∧ 665 + 3 = 668 := by decide +kernel
theorem zi_270_668 : zraw 270 668 = some (.iconst 1, 1) ∧ zin 128 1 = true ∧ 668 + 1 = 669 := by decide +kernel
theorem zi_270_669 : zraw 270 669 = some (.goto 4, 3) ∧ ((669 : Nat) : Int) + 4 = Int.ofNat 673 := by decide +kernel
theorem zi_270_672 : zraw 270 672 = some (.iconst 0, 1) ∧ zin 128 0 = true ∧ 672 + 1 = 673 := by decide +kernel
theorem zi_270_673 : zraw 270 673 = some (.invokevirtual 122, 3) ∧ zmt (zinf 270).1 122 = some 185 ∧ Nat.ble 9000 185 = false ∧ zinf 185 = (10, 4, 4, 1, 0) ∧ 673 + 3 = 676 := by decide +kernel
theorem zi_270_676 : zraw 270 676 = some (.istore 6, 2) ∧ 676 + 2 = 678 := by decide +kernel
theorem zi_270_678 : zraw 270 678 = some (.aload_n 2, 1) ∧ 678 + 1 = 679 := by decide +kernel
theorem zi_270_679 : zraw 270 679 = some (.invokevirtual 90, 3) ∧ zmt (zinf 270).1 90 = some 140 ∧ Nat.ble 9000 140 = false ∧ zinf 140 = (10, 1, 1, 1, 0) ∧ 679 + 3 = 682 := by decide +kernel
theorem zi_270_682 : zraw 270 682 = some (.iload 5, 2) ∧ 682 + 2 = 684 := by decide +kernel
theorem zi_270_684 : zraw 270 684 = some (.if_icmp .eq 5, 3) ∧ ((684 : Nat) : Int) + 5 = Int.ofNat 689 ∧ 684 + 3 = 687 := by decide +kernel
theorem zi_270_687 : zraw 270 687 = some (.iconst 0, 1) ∧ zin 128 0 = true ∧ 687 + 1 = 688 := by decide +kernel
theorem zi_270_688 : zraw 270 688 = some (.ireturn, 1) ∧ (zinf 270).2.2.2.1 = 2 := by decide +kernel
theorem zi_270_689 : zraw 270 689 = some (.iload 5, 2) ∧ 689 + 2 = 691 := by decide +kernel
theorem zi_270_691 : zraw 270 691 = some (.ifCond .ne 15, 3) ∧ ((691 : Nat) : Int) + 15 = Int.ofNat 706 ∧ 691 + 3 = 694 := by decide +kernel
theorem zi_270_694 : zraw 270 694 = some (.aload_n 3, 1) ∧ 694 + 1 = 695 := by decide +kernel
theorem zi_270_695 : zraw 270 695 = some (.iconst 0, 1) ∧ zin 128 0 = true ∧ 695 + 1 = 696 := by decide +kernel
theorem zi_270_696 : zraw 270 696 = some (.laload, 1) ∧ 696 + 1 = 697 := by decide +kernel
theorem zi_270_697 : zraw 270 697 = some (.iload 6, 2) ∧ 697 + 2 = 699 := by decide +kernel
theorem zi_270_699 : zraw 270 699 = some (.i2l, 1) ∧ 699 + 1 = 700 := by decide +kernel
theorem zi_270_700 : zraw 270 700 = some (.lcmp, 1) ∧ 700 + 1 = 701 := by decide +kernel
theorem zi_270_701 : zraw 270 701 = some (.ifCond .eq 5, 3) ∧ ((701 : Nat) : Int) + 5 = Int.ofNat 706 ∧ 701 + 3 = 704 := by decide +kernel
theorem zi_270_704 : zraw 270 704 = some (.iconst 0, 1) ∧ zin 128 0 = true ∧ 704 + 1 = 705 := by decide +kernel
theorem zi_270_705 : zraw 270 705 = some (.ireturn, 1) ∧ (zinf 270).2.2.2.1 = 2 := by decide +kernel
theorem zi_270_706 : zraw 270 706 = some (.goto 717, 3) ∧ ((706 : Nat) : Int) + 717 = Int.ofNat 1423 := by decide +kernel
theorem zi_270_709 : zraw 270 709 = some (.aload_n 1, 1) ∧ 709 + 1 = 710 := by decide +kernel
theorem zi_270_710 : zraw 270 710 = some (.aload_n 0, 1) ∧ 710 + 1 = 711 := by decide +kernel
theorem zi_270_711 : zraw 270 711 = some (.iload 4, 2) ∧ 711 + 2 = 713 := by decide +kernel
theorem zi_270_713 : zraw 270 713 = some (.iconst 1, 1) ∧ zin 128 1 = true ∧ 713 + 1 = 714 := by decide +kernel
theorem zi_270_714 : zraw 270 714 = some (.iadd, 1) ∧ 714 + 1 = 715 := by decide +kernel
theorem zi_270_715 : zraw 270 715 = some (.iaload, 1) ∧ 715 + 1 = 716 := by decide +kernel
theorem zi_270_716 : zraw 270 716 = some (.aload_n 3, 1) ∧ 716 + 1 = 717 := by decide +kernel
theorem zi_270_717 : zraw 270 717 = some (.invokestatic 123, 3) ∧ zmt (zinf 270).1 123 = some 259 ∧ Nat.ble 9000 259 = false ∧ zinf 259 = (11, 3, 4, 1, 1) ∧ 717 + 3 = 720 := by decide +kernel
theorem zi_270_720 : zraw 270 720 = some (.istore 5, 2) ∧ 720 + 2 = 722 := by decide +kernel
theorem zi_270_722 : zraw 270 722 = some (.aload_n 2, 1) ∧ 722 + 1 = 723 := by decide +kernel
theorem zi_270_723 : zraw 270 723 = some (.aload_n 0, 1) ∧ 723 + 1 = 724 := by decide +kernel
theorem zi_270_724 : zraw 270 724 = some (.iload 4, 2) ∧ 724 + 2 = 726 := by decide +kernel
theorem zi_270_726 : zraw 270 726 = some (.iconst 1, 1) ∧ zin 128 1 = true ∧ 726 + 1 = 727 := by decide +kernel
theorem zi_270_727 : zraw 270 727 = some (.iadd, 1) ∧ 727 + 1 = 728 := by decide +kernel
theorem zi_270_728 : zraw 270 728 = some (.iaload, 1) ∧ 728 + 1 = 729 := by decide +kernel
theorem zi_270_729 : zraw 270 729 = some (.invokevirtual 125, 3) ∧ zmt (zinf 270).1 125 = some 187 ∧ Nat.ble 9000 187 = false ∧ zinf 187 = (10, 2, 2, 1, 0) ∧ 729 + 3 = 732 := by decide +kernel
theorem zi_270_732 : zraw 270 732 = some (.istore 6, 2) ∧ 732 + 2 = 734 := by decide +kernel
theorem zi_270_734 : zraw 270 734 = some (.aload_n 2, 1) ∧ 734 + 1 = 735 := by decide +kernel
theorem zi_270_735 : zraw 270 735 = some (.invokevirtual 90, 3) ∧ zmt (zinf 270).1 90 = some 140 ∧ Nat.ble 9000 140 = false ∧ zinf 140 = (10, 1, 1, 1, 0) ∧ 735 + 3 = 738 := by decide +kernel
theorem zi_270_738 : zraw 270 738 = some (.iload 5, 2) ∧ 738 + 2 = 740 := by decide +kernel
theorem zi_270_740 : zraw 270 740 = some (.if_icmp .eq 5, 3) ∧ ((740 : Nat) : Int) + 5 = Int.ofNat 745 ∧ 740 + 3 = 743 := by decide +kernel
theorem zi_270_743 : zraw 270 743 = some (.iconst 0, 1) ∧ zin 128 0 = true ∧ 743 + 1 = 744 := by decide +kernel
theorem zi_270_744 : zraw 270 744 = some (.ireturn, 1) ∧ (zinf 270).2.2.2.1 = 2 := by decide +kernel
theorem zi_270_745 : zraw 270 745 = some (.iload 5, 2) ∧ 745 + 2 = 747 := by decide +kernel
theorem zi_270_747 : zraw 270 747 = some (.ifCond .ne 15, 3) ∧ ((747 : Nat) : Int) + 15 = Int.ofNat 762 ∧ 747 + 3 = 750 := by decide +kernel
theorem zi_270_750 : zraw 270 750 = some (.aload_n 3, 1) ∧ 750 + 1 = 751 := by decide +kernel
theorem zi_270_751 : zraw 270 751 = some (.iconst 0, 1) ∧ zin 128 0 = true ∧ 751 + 1 = 752 := by decide +kernel
theorem zi_270_752 : zraw 270 752 = some (.laload, 1) ∧ 752 + 1 = 753 := by decide +kernel
theorem zi_270_753 : zraw 270 753 = some (.iload 6, 2) ∧ 753 + 2 = 755 := by decide +kernel
theorem zi_270_755 : zraw 270 755 = some (.i2l, 1) ∧ 755 + 1 = 756 := by decide +kernel
theorem zi_270_756 : zraw 270 756 = some (.lcmp, 1) ∧ 756 + 1 = 757 := by decide +kernel
theorem zi_270_757 : zraw 270 757 = some (.ifCond .eq 5, 3) ∧ ((757 : Nat) : Int) + 5 = Int.ofNat 762 ∧ 757 + 3 = 760 := by decide +kernel
theorem zi_270_760 : zraw 270 760 = some (.iconst 0, 1) ∧ zin 128 0 = true ∧ 760 + 1 = 761 := by decide +kernel
theorem zi_270_761 : zraw 270 761 = some (.ireturn, 1) ∧ (zinf 270).2.2.2.1 = 2 := by decide +kernel
theorem zi_270_762 : zraw 270 762 = some (.goto 661, 3) ∧ ((762 : Nat) : Int) + 661 = Int.ofNat 1423 := by decide +kernel
theorem zi_270_765 : zraw 270 765 = some (.aload_n 1, 1) ∧ 765 + 1 = 766 := by decide +kernel
theorem zi_270_766 : zraw 270 766 = some (.aload_n 0, 1) ∧ 766 + 1 = 767 := by decide +kernel
theorem zi_270_767 : zraw 270 767 = some (.iload 4, 2) ∧ 767 + 2 = 769 := by decide +kernel
theorem zi_270_769 : zraw 270 769 = some (.iconst 1, 1) ∧ zin 128 1 = true ∧ 769 + 1 = 770 := by decide +kernel
theorem zi_270_770 : zraw 270 770 = some (.iadd, 1) ∧ 770 + 1 = 771 := by decide +kernel
theorem zi_270_771 : zraw 270 771 = some (.iaload, 1) ∧ 771 + 1 = 772 := by decide +kernel
theorem zi_270_772 : zraw 270 772 = some (.aload_n 3, 1) ∧ 772 + 1 = 773 := by decide +kernel
theorem zi_270_773 : zraw 270 773 = some (.invokestatic 126, 3) ∧ zmt (zinf 270).1 126 = some 260 ∧ Nat.ble 9000 260 = false ∧ zinf 260 = (11, 3, 4, 1, 1) ∧ 773 + 3 = 776 := by decide +kernel
theorem zi_270_776 : zraw 270 776 = some (.istore 5, 2) ∧ 776 + 2 = 778 := by decide +kernel
theorem zi_270_778 : zraw 270 778 = some (.aload_n 2, 1) ∧ 778 + 1 = 779 := by decide +kernel
theorem zi_270_779 : zraw 270 779 = some (.aload_n 0, 1) ∧ 779 + 1 = 780 := by decide +kernel
theorem zi_270_780 : zraw 270 780 = some (.iload 4, 2) ∧ 780 + 2 = 782 := by decide +kernel
theorem zi_270_782 : zraw 270 782 = some (.iconst 1, 1) ∧ zin 128 1 = true ∧ 782 + 1 = 783 := by decide +kernel
theorem zi_270_783 : zraw 270 783 = some (.iadd, 1) ∧ 783 + 1 = 784 := by decide +kernel
theorem zi_270_784 : zraw 270 784 = some (.iaload, 1) ∧ 784 + 1 = 785 := by decide +kernel
theorem zi_270_785 : zraw 270 785 = some (.invokevirtual 128, 3) ∧ zmt (zinf 270).1 128 = some 188 ∧ Nat.ble 9000 188 = false ∧ zinf 188 = (10, 2, 2, 1, 0) ∧ 785 + 3 = 788 := by decide +kernel
theorem zi_270_788 : zraw 270 788 = some (.istore 6, 2) ∧ 788 + 2 = 790 := by decide +kernel
theorem zi_270_790 : zraw 270 790 = some (.aload_n 2, 1) ∧ 790 + 1 = 791 := by decide +kernel
theorem zi_270_791 : zraw 270 791 = some (.invokevirtual 90, 3) ∧ zmt (zinf 270).1 90 = some 140 ∧ Nat.ble 9000 140 = false ∧ zinf 140 = (10, 1, 1, 1, 0) ∧ 791 + 3 = 794 := by decide +kernel
theorem zi_270_794 : zraw 270 794 = some (.iload 5, 2) ∧ 794 + 2 = 796 := by decide +kernel
theorem zi_270_796 : zraw 270 796 = some (.if_icmp .eq 5, 3) ∧ ((796 : Nat) : Int) + 5 = Int.ofNat 801 ∧ 796 + 3 = 799 := by decide +kernel
theorem zi_270_799 : zraw 270 799 = some (.iconst 0, 1) ∧ zin 128 0 = true ∧ 799 + 1 = 800 := by decide +kernel
theorem zi_270_800 : zraw 270 800 = some (.ireturn, 1) ∧ (zinf 270).2.2.2.1 = 2 := by decide +kernel
theorem zi_270_801 : zraw 270 801 = some (.iload 5, 2) ∧ 801 + 2 = 803 := by decide +kernel
theorem zi_270_803 : zraw 270 803 = some (.ifCond .ne 15, 3) ∧ ((803 : Nat) : Int) + 15 = Int.ofNat 818 ∧ 803 + 3 = 806 := by decide +kernel
theorem zi_270_806 : zraw 270 806 = some (.aload_n 3, 1) ∧ 806 + 1 = 807 := by decide +kernel
theorem zi_270_807 : zraw 270 807 = some (.iconst 0, 1) ∧ zin 128 0 = true ∧ 807 + 1 = 808 := by decide +kernel
theorem zi_270_808 : zraw 270 808 = some (.laload, 1) ∧ 808 + 1 = 809 := by decide +kernel
theorem zi_270_809 : zraw 270 809 = some (.iload 6, 2) ∧ 809 + 2 = 811 := by decide +kernel
theorem zi_270_811 : zraw 270 811 = some (.i2l, 1) ∧ 811 + 1 = 812 := by decide +kernel
theorem zi_270_812 : zraw 270 812 = some (.lcmp, 1) ∧ 812 + 1 = 813 := by decide +kernel
theorem zi_270_813 : zraw 270 813 = some (.ifCond .eq 5, 3) ∧ ((813 : Nat) : Int) + 5 = Int.ofNat 818 ∧ 813 + 3 = 816 := by decide +kernel
theorem zi_270_816 : zraw 270 816 = some (.iconst 0, 1) ∧ zin 128 0 = true ∧ 816 + 1 = 817 := by decide +kernel
theorem zi_270_817 : zraw 270 817 = some (.ireturn, 1) ∧ (zinf 270).2.2.2.1 = 2 := by decide +kernel
theorem zi_270_818 : zraw 270 818 = some (.goto 605, 3) ∧ ((818 : Nat) : Int) + 605 = Int.ofNat 1423 := by decide +kernel
theorem zi_270_821 : zraw 270 821 = some (.aload_n 1, 1) ∧ 821 + 1 = 822 := by decide +kernel
theorem zi_270_822 : zraw 270 822 = some (.aload_n 0, 1) ∧ 822 + 1 = 823 := by decide +kernel
theorem zi_270_823 : zraw 270 823 = some (.iload 4, 2) ∧ 823 + 2 = 825 := by decide +kernel
theorem zi_270_825 : zraw 270 825 = some (.iconst 1, 1) ∧ zin 128 1 = true ∧ 825 + 1 = 826 := by decide +kernel
theorem zi_270_826 : zraw 270 826 = some (.iadd, 1) ∧ 826 + 1 = 827 := by decide +kernel
theorem zi_270_827 : zraw 270 827 = some (.iaload, 1) ∧ 827 + 1 = 828 := by decide +kernel
theorem zi_270_828 : zraw 270 828 = some (.aload_n 3, 1) ∧ 828 + 1 = 829 := by decide +kernel
theorem zi_270_829 : zraw 270 829 = some (.invokestatic 129, 3) ∧ zmt (zinf 270).1 129 = some 261 ∧ Nat.ble 9000 261 = false ∧ zinf 261 = (11, 3, 4, 1, 1) ∧ 829 + 3 = 832 := by decide +kernel
theorem zi_270_832 : zraw 270 832 = some (.istore 5, 2) ∧ 832 + 2 = 834 := by decide +kernel
theorem zi_270_834 : zraw 270 834 = some (.aload_n 2, 1) ∧ 834 + 1 = 835 := by decide +kernel
theorem zi_270_835 : zraw 270 835 = some (.aload_n 0, 1) ∧ 835 + 1 = 836 := by decide +kernel
theorem zi_270_836 : zraw 270 836 = some (.iload 4, 2) ∧ 836 + 2 = 838 := by decide +kernel
theorem zi_270_838 : zraw 270 838 = some (.iconst 1, 1) ∧ zin 128 1 = true ∧ 838 + 1 = 839 := by decide +kernel
theorem zi_270_839 : zraw 270 839 = some (.iadd, 1) ∧ 839 + 1 = 840 := by decide +kernel
theorem zi_270_840 : zraw 270 840 = some (.iaload, 1) ∧ 840 + 1 = 841 := by decide +kernel
theorem zi_270_841 : zraw 270 841 = some (.invokevirtual 131, 3) ∧ zmt (zinf 270).1 131 = some 208 ∧ Nat.ble 9000 208 = false ∧ zinf 208 = (10, 2, 2, 1, 0) ∧ 841 + 3 = 844 := by decide +kernel
theorem zi_270_844 : zraw 270 844 = some (.istore 6, 2) ∧ 844 + 2 = 846 := by decide +kernel
theorem zi_270_846 : zraw 270 846 = some (.aload_n 2, 1) ∧ 846 + 1 = 847 := by decide +kernel
theorem zi_270_847 : zraw 270 847 = some (.invokevirtual 90, 3) ∧ zmt (zinf 270).1 90 = some 140 ∧ Nat.ble 9000 140 = false ∧ zinf 140 = (10, 1, 1, 1, 0) ∧ 847 + 3 = 850 := by decide +kernel
theorem zi_270_850 : zraw 270 850 = some (.iload 5, 2) ∧ 850 + 2 = 852 := by decide +kernel
theorem zi_270_852 : zraw 270 852 = some (.if_icmp .eq 5, 3) ∧ ((852 : Nat) : Int) + 5 = Int.ofNat 857 ∧ 852 + 3 = 855 := by decide +kernel
theorem zi_270_855 : zraw 270 855 = some (.iconst 0, 1) ∧ zin 128 0 = true ∧ 855 + 1 = 856 := by decide +kernel
theorem zi_270_856 : zraw 270 856 = some (.ireturn, 1) ∧ (zinf 270).2.2.2.1 = 2 := by decide +kernel
theorem zi_270_857 : zraw 270 857 = some (.iload 5, 2) ∧ 857 + 2 = 859 := by decide +kernel
theorem zi_270_859 : zraw 270 859 = some (.ifCond .ne 15, 3) ∧ ((859 : Nat) : Int) + 15 = Int.ofNat 874 ∧ 859 + 3 = 862 := by decide +kernel
theorem zi_270_862 : zraw 270 862 = some (.aload_n 3, 1) ∧ 862 + 1 = 863 := by decide +kernel
theorem zi_270_863 : zraw 270 863 = some (.iconst 0, 1) ∧ zin 128 0 = true ∧ 863 + 1 = 864 := by decide +kernel
theorem zi_270_864 : zraw 270 864 = some (.laload, 1) ∧ 864 + 1 = 865 := by decide +kernel
theorem zi_270_865 : zraw 270 865 = some (.iload 6, 2) ∧ 865 + 2 = 867 := by decide +kernel
theorem zi_270_867 : zraw 270 867 = some (.i2l, 1) ∧ 867 + 1 = 868 := by decide +kernel
theorem zi_270_868 : zraw 270 868 = some (.lcmp, 1) ∧ 868 + 1 = 869 := by decide +kernel
theorem zi_270_869 : zraw 270 869 = some (.ifCond .eq 5, 3) ∧ ((869 : Nat) : Int) + 5 = Int.ofNat 874 ∧ 869 + 3 = 872 := by decide +kernel
theorem zi_270_872 : zraw 270 872 = some (.iconst 0, 1) ∧ zin 128 0 = true ∧ 872 + 1 = 873 := by decide +kernel
theorem zi_270_873 : zraw 270 873 = some (.ireturn, 1) ∧ (zinf 270).2.2.2.1 = 2 := by decide +kernel
theorem zi_270_874 : zraw 270 874 = some (.goto 549, 3) ∧ ((874 : Nat) : Int) + 549 = Int.ofNat 1423 := by decide +kernel
theorem zi_270_877 : zraw 270 877 = some (.aload_n 1, 1) ∧ 877 + 1 = 878 := by decide +kernel
theorem zi_270_878 : zraw 270 878 = some (.aload_n 0, 1) ∧ 878 + 1 = 879 := by decide +kernel
theorem zi_270_879 : zraw 270 879 = some (.iload 4, 2) ∧ 879 + 2 = 881 := by decide +kernel
theorem zi_270_881 : zraw 270 881 = some (.iconst 1, 1) ∧ zin 128 1 = true ∧ 881 + 1 = 882 := by decide +kernel
theorem zi_270_882 : zraw 270 882 = some (.iadd, 1) ∧ 882 + 1 = 883 := by decide +kernel
theorem zi_270_883 : zraw 270 883 = some (.iaload, 1) ∧ 883 + 1 = 884 := by decide +kernel
theorem zi_270_884 : zraw 270 884 = some (.aload_n 3, 1) ∧ 884 + 1 = 885 := by decide +kernel
theorem zi_270_885 : zraw 270 885 = some (.invokestatic 132, 3) ∧ zmt (zinf 270).1 132 = some 262 ∧ Nat.ble 9000 262 = false ∧ zinf 262 = (11, 3, 4, 1, 1) ∧ 885 + 3 = 888 := by decide +kernel
theorem zi_270_888 : zraw 270 888 = some (.istore 5, 2) ∧ 888 + 2 = 890 := by decide +kernel
theorem zi_270_890 : zraw 270 890 = some (.aload_n 2, 1) ∧ 890 + 1 = 891 := by decide +kernel
theorem zi_270_891 : zraw 270 891 = some (.aload_n 0, 1) ∧ 891 + 1 = 892 := by decide +kernel
theorem zi_270_892 : zraw 270 892 = some (.iload 4, 2) ∧ 892 + 2 = 894 := by decide +kernel
theorem zi_270_894 : zraw 270 894 = some (.iconst 1, 1) ∧ zin 128 1 = true ∧ 894 + 1 = 895 := by decide +kernel
theorem zi_270_895 : zraw 270 895 = some (.iadd, 1) ∧ 895 + 1 = 896 := by decide +kernel
theorem zi_270_896 : zraw 270 896 = some (.iaload, 1) ∧ 896 + 1 = 897 := by decide +kernel
theorem zi_270_897 : zraw 270 897 = some (.invokevirtual 134, 3) ∧ zmt (zinf 270).1 134 = some 209 ∧ Nat.ble 9000 209 = false ∧ zinf 209 = (10, 2, 2, 1, 0) ∧ 897 + 3 = 900 := by decide +kernel
theorem zi_270_900 : zraw 270 900 = some (.istore 6, 2) ∧ 900 + 2 = 902 := by decide +kernel
theorem zi_270_902 : zraw 270 902 = some (.aload_n 2, 1) ∧ 902 + 1 = 903 := by decide +kernel
theorem zi_270_903 : zraw 270 903 = some (.invokevirtual 90, 3) ∧ zmt (zinf 270).1 90 = some 140 ∧ Nat.ble 9000 140 = false ∧ zinf 140 = (10, 1, 1, 1, 0) ∧ 903 + 3 = 906 := by decide +kernel
theorem zi_270_906 : zraw 270 906 = some (.iload 5, 2) ∧ 906 + 2 = 908 := by decide +kernel
theorem zi_270_908 : zraw 270 908 = some (.if_icmp .eq 5, 3) ∧ ((908 : Nat) : Int) + 5 = Int.ofNat 913 ∧ 908 + 3 = 911 := by decide +kernel
theorem zi_270_911 : zraw 270 911 = some (.iconst 0, 1) ∧ zin 128 0 = true ∧ 911 + 1 = 912 := by decide +kernel
theorem zi_270_912 : zraw 270 912 = some (.ireturn, 1) ∧ (zinf 270).2.2.2.1 = 2 := by decide +kernel
theorem zi_270_913 : zraw 270 913 = some (.iload 5, 2) ∧ 913 + 2 = 915 := by decide +kernel
theorem zi_270_915 : zraw 270 915 = some (.ifCond .ne 15, 3) ∧ ((915 : Nat) : Int) + 15 = Int.ofNat 930 ∧ 915 + 3 = 918 := by decide +kernel
theorem zi_270_918 : zraw 270 918 = some (.aload_n 3, 1) ∧ 918 + 1 = 919 := by decide +kernel
theorem zi_270_919 : zraw 270 919 = some (.iconst 0, 1) ∧ zin 128 0 = true ∧ 919 + 1 = 920 := by decide +kernel
theorem zi_270_920 : zraw 270 920 = some (.laload, 1) ∧ 920 + 1 = 921 := by decide +kernel
theorem zi_270_921 : zraw 270 921 = some (.iload 6, 2) ∧ 921 + 2 = 923 := by decide +kernel
theorem zi_270_923 : zraw 270 923 = some (.i2l, 1) ∧ 923 + 1 = 924 := by decide +kernel
theorem zi_270_924 : zraw 270 924 = some (.lcmp, 1) ∧ 924 + 1 = 925 := by decide +kernel
theorem zi_270_925 : zraw 270 925 = some (.ifCond .eq 5, 3) ∧ ((925 : Nat) : Int) + 5 = Int.ofNat 930 ∧ 925 + 3 = 928 := by decide +kernel
theorem zi_270_928 : zraw 270 928 = some (.iconst 0, 1) ∧ zin 128 0 = true ∧ 928 + 1 = 929 := by decide +kernel
theorem zi_270_929 : zraw 270 929 = some (.ireturn, 1) ∧ (zinf 270).2.2.2.1 = 2 := by decide +kernel
theorem zi_270_930 : zraw 270 930 = some (.goto 493, 3) ∧ ((930 : Nat) : Int) + 493 = Int.ofNat 1423 := by decide +kernel
theorem zi_270_933 : zraw 270 933 = some (.aload_n 1, 1) ∧ 933 + 1 = 934 := by decide +kernel
theorem zi_270_934 : zraw 270 934 = some (.aload_n 0, 1) ∧ 934 + 1 = 935 := by decide +kernel
theorem zi_270_935 : zraw 270 935 = some (.iload 4, 2) ∧ 935 + 2 = 937 := by decide +kernel
theorem zi_270_937 : zraw 270 937 = some (.iconst 1, 1) ∧ zin 128 1 = true ∧ 937 + 1 = 938 := by decide +kernel
theorem zi_270_938 : zraw 270 938 = some (.iadd, 1) ∧ 938 + 1 = 939 := by decide +kernel
theorem zi_270_939 : zraw 270 939 = some (.iaload, 1) ∧ 939 + 1 = 940 := by decide +kernel
theorem zi_270_940 : zraw 270 940 = some (.aload_n 0, 1) ∧ 940 + 1 = 941 := by decide +kernel
theorem zi_270_941 : zraw 270 941 = some (.iload 4, 2) ∧ 941 + 2 = 943 := by decide +kernel
theorem zi_270_943 : zraw 270 943 = some (.iconst 2, 1) ∧ zin 128 2 = true ∧ 943 + 1 = 944 := by decide +kernel
theorem zi_270_944 : zraw 270 944 = some (.iadd, 1) ∧ 944 + 1 = 945 := by decide +kernel
theorem zi_270_945 : zraw 270 945 = some (.iaload, 1) ∧ 945 + 1 = 946 := by decide +kernel
theorem zi_270_946 : zraw 270 946 = some (.aload_n 0, 1) ∧ 946 + 1 = 947 := by decide +kernel
theorem zi_270_947 : zraw 270 947 = some (.iload 4, 2) ∧ 947 + 2 = 949 := by decide +kernel
theorem zi_270_949 : zraw 270 949 = some (.iconst 3, 1) ∧ zin 128 3 = true ∧ 949 + 1 = 950 := by decide +kernel
theorem zi_270_950 : zraw 270 950 = some (.iadd, 1) ∧ 950 + 1 = 951 := by decide +kernel
theorem zi_270_951 : zraw 270 951 = some (.iaload, 1) ∧ 951 + 1 = 952 := by decide +kernel
theorem zi_270_952 : zraw 270 952 = some (.aload_n 3, 1) ∧ 952 + 1 = 953 := by decide +kernel
theorem zi_270_953 : zraw 270 953 = some (.invokestatic 135, 3) ∧ zmt (zinf 270).1 135 = some 263 ∧ Nat.ble 9000 263 = false ∧ zinf 263 = (11, 5, 6, 1, 1) ∧ 953 + 3 = 956 := by decide +kernel
theorem zi_270_956 : zraw 270 956 = some (.istore 5, 2) ∧ 956 + 2 = 958 := by decide +kernel
theorem zi_270_958 : zraw 270 958 = some (.aload_n 2, 1) ∧ 958 + 1 = 959 := by decide +kernel
theorem zi_270_959 : zraw 270 959 = some (.aload_n 0, 1) ∧ 959 + 1 = 960 := by decide +kernel
theorem zi_270_960 : zraw 270 960 = some (.iload 4, 2) ∧ 960 + 2 = 962 := by decide +kernel
theorem zi_270_962 : zraw 270 962 = some (.iconst 1, 1) ∧ zin 128 1 = true ∧ 962 + 1 = 963 := by decide +kernel
theorem zi_270_963 : zraw 270 963 = some (.iadd, 1) ∧ 963 + 1 = 964 := by decide +kernel
theorem zi_270_964 : zraw 270 964 = some (.iaload, 1) ∧ 964 + 1 = 965 := by decide +kernel
theorem zi_270_965 : zraw 270 965 = some (.aload_n 0, 1) ∧ 965 + 1 = 966 := by decide +kernel
theorem zi_270_966 : zraw 270 966 = some (.iload 4, 2) ∧ 966 + 2 = 968 := by decide +kernel
theorem zi_270_968 : zraw 270 968 = some (.iconst 2, 1) ∧ zin 128 2 = true ∧ 968 + 1 = 969 := by decide +kernel
theorem zi_270_969 : zraw 270 969 = some (.iadd, 1) ∧ 969 + 1 = 970 := by decide +kernel
theorem zi_270_970 : zraw 270 970 = some (.iaload, 1) ∧ 970 + 1 = 971 := by decide +kernel
theorem zi_270_971 : zraw 270 971 = some (.aload_n 0, 1) ∧ 971 + 1 = 972 := by decide +kernel
theorem zi_270_972 : zraw 270 972 = some (.iload 4, 2) ∧ 972 + 2 = 974 := by decide +kernel
theorem zi_270_974 : zraw 270 974 = some (.iconst 3, 1) ∧ zin 128 3 = true ∧ 974 + 1 = 975 := by decide +kernel
theorem zi_270_975 : zraw 270 975 = some (.iadd, 1) ∧ 975 + 1 = 976 := by decide +kernel
theorem zi_270_976 : zraw 270 976 = some (.iaload, 1) ∧ 976 + 1 = 977 := by decide +kernel
theorem zi_270_977 : zraw 270 977 = some (.invokevirtual 138, 3) ∧ zmt (zinf 270).1 138 = some 212 ∧ Nat.ble 9000 212 = false ∧ zinf 212 = (10, 4, 4, 1, 0) ∧ 977 + 3 = 980 := by decide +kernel
theorem zi_270_980 : zraw 270 980 = some (.istore 6, 2) ∧ 980 + 2 = 982 := by decide +kernel
theorem zi_270_982 : zraw 270 982 = some (.aload_n 2, 1) ∧ 982 + 1 = 983 := by decide +kernel
theorem zi_270_983 : zraw 270 983 = some (.invokevirtual 90, 3) ∧ zmt (zinf 270).1 90 = some 140 ∧ Nat.ble 9000 140 = false ∧ zinf 140 = (10, 1, 1, 1, 0) ∧ 983 + 3 = 986 := by decide +kernel
theorem zi_270_986 : zraw 270 986 = some (.iload 5, 2) ∧ 986 + 2 = 988 := by decide +kernel
theorem zi_270_988 : zraw 270 988 = some (.if_icmp .eq 5, 3) ∧ ((988 : Nat) : Int) + 5 = Int.ofNat 993 ∧ 988 + 3 = 991 := by decide +kernel
theorem zi_270_991 : zraw 270 991 = some (.iconst 0, 1) ∧ zin 128 0 = true ∧ 991 + 1 = 992 := by decide +kernel
theorem zi_270_992 : zraw 270 992 = some (.ireturn, 1) ∧ (zinf 270).2.2.2.1 = 2 := by decide +kernel
theorem zi_270_993 : zraw 270 993 = some (.iload 5, 2) ∧ 993 + 2 = 995 := by decide +kernel
theorem zi_270_995 : zraw 270 995 = some (.ifCond .ne 15, 3) ∧ ((995 : Nat) : Int) + 15 = Int.ofNat 1010 ∧ 995 + 3 = 998 := by decide +kernel
theorem zi_270_998 : zraw 270 998 = some (.aload_n 3, 1) ∧ 998 + 1 = 999 := by decide +kernel
theorem zi_270_999 : zraw 270 999 = some (.iconst 0, 1) ∧ zin 128 0 = true ∧ 999 + 1 = 1000 := by decide +kernel
theorem zi_270_1000 : zraw 270 1000 = some (.laload, 1) ∧ 1000 + 1 = 1001 := by decide +kernel
theorem zi_270_1001 : zraw 270 1001 = some (.iload 6, 2) ∧ 1001 + 2 = 1003 := by decide +kernel
theorem zi_270_1003 : zraw 270 1003 = some (.i2l, 1) ∧ 1003 + 1 = 1004 := by decide +kernel
theorem zi_270_1004 : zraw 270 1004 = some (.lcmp, 1) ∧ 1004 + 1 = 1005 := by decide +kernel
theorem zi_270_1005 : zraw 270 1005 = some (.ifCond .eq 5, 3) ∧ ((1005 : Nat) : Int) + 5 = Int.ofNat 1010 ∧ 1005 + 3 = 1008 := by decide +kernel
theorem zi_270_1008 : zraw 270 1008 = some (.iconst 0, 1) ∧ zin 128 0 = true ∧ 1008 + 1 = 1009 := by decide +kernel
theorem zi_270_1009 : zraw 270 1009 = some (.ireturn, 1) ∧ (zinf 270).2.2.2.1 = 2 := by decide +kernel
theorem zi_270_1010 : zraw 270 1010 = some (.goto 413, 3) ∧ ((1010 : Nat) : Int) + 413 = Int.ofNat 1423 := by decide +kernel
theorem zi_270_1013 : zraw 270 1013 = some (.aload_n 1, 1) ∧ 1013 + 1 = 1014 := by decide +kernel
theorem zi_270_1014 : zraw 270 1014 = some (.aload_n 0, 1) ∧ 1014 + 1 = 1015 := by decide +kernel
theorem zi_270_1015 : zraw 270 1015 = some (.iload 4, 2) ∧ 1015 + 2 = 1017 := by decide +kernel
theorem zi_270_1017 : zraw 270 1017 = some (.iconst 1, 1) ∧ zin 128 1 = true ∧ 1017 + 1 = 1018 := by decide +kernel
theorem zi_270_1018 : zraw 270 1018 = some (.iadd, 1) ∧ 1018 + 1 = 1019 := by decide +kernel
theorem zi_270_1019 : zraw 270 1019 = some (.iaload, 1) ∧ 1019 + 1 = 1020 := by decide +kernel
theorem zi_270_1020 : zraw 270 1020 = some (.aload_n 0, 1) ∧ 1020 + 1 = 1021 := by decide +kernel
theorem zi_270_1021 : zraw 270 1021 = some (.iload 4, 2) ∧ 1021 + 2 = 1023 := by decide +kernel
theorem zi_270_1023 : zraw 270 1023 = some (.iconst 2, 1) ∧ zin 128 2 = true ∧ 1023 + 1 = 1024 := by decide +kernel
theorem zi_270_1024 : zraw 270 1024 = some (.iadd, 1) ∧ 1024 + 1 = 1025 := by decide +kernel
theorem zi_270_1025 : zraw 270 1025 = some (.iaload, 1) ∧ 1025 + 1 = 1026 := by decide +kernel
theorem zi_270_1026 : zraw 270 1026 = some (.aload_n 0, 1) ∧ 1026 + 1 = 1027 := by decide +kernel
theorem zi_270_1027 : zraw 270 1027 = some (.iload 4, 2) ∧ 1027 + 2 = 1029 := by decide +kernel
theorem zi_270_1029 : zraw 270 1029 = some (.iconst 3, 1) ∧ zin 128 3 = true ∧ 1029 + 1 = 1030 := by decide +kernel
theorem zi_270_1030 : zraw 270 1030 = some (.iadd, 1) ∧ 1030 + 1 = 1031 := by decide +kernel
theorem zi_270_1031 : zraw 270 1031 = some (.iaload, 1) ∧ 1031 + 1 = 1032 := by decide +kernel
theorem zi_270_1032 : zraw 270 1032 = some (.aload_n 3, 1) ∧ 1032 + 1 = 1033 := by decide +kernel
theorem zi_270_1033 : zraw 270 1033 = some (.invokestatic 139, 3) ∧ zmt (zinf 270).1 139 = some 264 ∧ Nat.ble 9000 264 = false ∧ zinf 264 = (11, 5, 6, 1, 1) ∧ 1033 + 3 = 1036 := by decide +kernel
theorem zi_270_1036 : zraw 270 1036 = some (.istore 5, 2) ∧ 1036 + 2 = 1038 := by decide +kernel
theorem zi_270_1038 : zraw 270 1038 = some (.aload_n 2, 1) ∧ 1038 + 1 = 1039 := by decide +kernel
theorem zi_270_1039 : zraw 270 1039 = some (.aload_n 0, 1) ∧ 1039 + 1 = 1040 := by decide +kernel
theorem zi_270_1040 : zraw 270 1040 = some (.iload 4, 2) ∧ 1040 + 2 = 1042 := by decide +kernel
theorem zi_270_1042 : zraw 270 1042 = some (.iconst 1, 1) ∧ zin 128 1 = true ∧ 1042 + 1 = 1043 := by decide +kernel
theorem zi_270_1043 : zraw 270 1043 = some (.iadd, 1) ∧ 1043 + 1 = 1044 := by decide +kernel
theorem zi_270_1044 : zraw 270 1044 = some (.iaload, 1) ∧ 1044 + 1 = 1045 := by decide +kernel
theorem zi_270_1045 : zraw 270 1045 = some (.aload_n 0, 1) ∧ 1045 + 1 = 1046 := by decide +kernel
theorem zi_270_1046 : zraw 270 1046 = some (.iload 4, 2) ∧ 1046 + 2 = 1048 := by decide +kernel
theorem zi_270_1048 : zraw 270 1048 = some (.iconst 2, 1) ∧ zin 128 2 = true ∧ 1048 + 1 = 1049 := by decide +kernel
theorem zi_270_1049 : zraw 270 1049 = some (.iadd, 1) ∧ 1049 + 1 = 1050 := by decide +kernel
theorem zi_270_1050 : zraw 270 1050 = some (.iaload, 1) ∧ 1050 + 1 = 1051 := by decide +kernel
theorem zi_270_1051 : zraw 270 1051 = some (.aload_n 0, 1) ∧ 1051 + 1 = 1052 := by decide +kernel
theorem zi_270_1052 : zraw 270 1052 = some (.iload 4, 2) ∧ 1052 + 2 = 1054 := by decide +kernel
theorem zi_270_1054 : zraw 270 1054 = some (.iconst 3, 1) ∧ zin 128 3 = true ∧ 1054 + 1 = 1055 := by decide +kernel
theorem zi_270_1055 : zraw 270 1055 = some (.iadd, 1) ∧ 1055 + 1 = 1056 := by decide +kernel
theorem zi_270_1056 : zraw 270 1056 = some (.iaload, 1) ∧ 1056 + 1 = 1057 := by decide +kernel
theorem zi_270_1057 : zraw 270 1057 = some (.invokevirtual 141, 3) ∧ zmt (zinf 270).1 141 = some 213 ∧ Nat.ble 9000 213 = false ∧ zinf 213 = (10, 4, 4, 1, 0) ∧ 1057 + 3 = 1060 := by decide +kernel
theorem zi_270_1060 : zraw 270 1060 = some (.istore 6, 2) ∧ 1060 + 2 = 1062 := by decide +kernel
theorem zi_270_1062 : zraw 270 1062 = some (.aload_n 2, 1) ∧ 1062 + 1 = 1063 := by decide +kernel
theorem zi_270_1063 : zraw 270 1063 = some (.invokevirtual 90, 3) ∧ zmt (zinf 270).1 90 = some 140 ∧ Nat.ble 9000 140 = false ∧ zinf 140 = (10, 1, 1, 1, 0) ∧ 1063 + 3 = 1066 := by decide +kernel
theorem zi_270_1066 : zraw 270 1066 = some (.iload 5, 2) ∧ 1066 + 2 = 1068 := by decide +kernel
theorem zi_270_1068 : zraw 270 1068 = some (.if_icmp .eq 5, 3) ∧ ((1068 : Nat) : Int) + 5 = Int.ofNat 1073 ∧ 1068 + 3 = 1071 := by decide +kernel
theorem zi_270_1071 : zraw 270 1071 = some (.iconst 0, 1) ∧ zin 128 0 = true ∧ 1071 + 1 = 1072 := by decide +kernel
theorem zi_270_1072 : zraw 270 1072 = some (.ireturn, 1) ∧ (zinf 270).2.2.2.1 = 2 := by decide +kernel
theorem zi_270_1073 : zraw 270 1073 = some (.iload 5, 2) ∧ 1073 + 2 = 1075 := by decide +kernel
theorem zi_270_1075 : zraw 270 1075 = some (.ifCond .ne 15, 3) ∧ ((1075 : Nat) : Int) + 15 = Int.ofNat 1090 ∧ 1075 + 3 = 1078 := by decide +kernel
theorem zi_270_1078 : zraw 270 1078 = some (.aload_n 3, 1) ∧ 1078 + 1 = 1079 := by decide +kernel
theorem zi_270_1079 : zraw 270 1079 = some (.iconst 0, 1) ∧ zin 128 0 = true ∧ 1079 + 1 = 1080 := by decide +kernel
theorem zi_270_1080 : zraw 270 1080 = some (.laload, 1) ∧ 1080 + 1 = 1081 := by decide +kernel
theorem zi_270_1081 : zraw 270 1081 = some (.iload 6, 2) ∧ 1081 + 2 = 1083 := by decide +kernel
theorem zi_270_1083 : zraw 270 1083 = some (.i2l, 1) ∧ 1083 + 1 = 1084 := by decide +kernel
theorem zi_270_1084 : zraw 270 1084 = some (.lcmp, 1) ∧ 1084 + 1 = 1085 := by decide +kernel
theorem zi_270_1085 : zraw 270 1085 = some (.ifCond .eq 5, 3) ∧ ((1085 : Nat) : Int) + 5 = Int.ofNat 1090 ∧ 1085 + 3 = 1088 := by decide +kernel
theorem zi_270_1088 : zraw 270 1088 = some (.iconst 0, 1) ∧ zin 128 0 = true ∧ 1088 + 1 = 1089 := by decide +kernel
theorem zi_270_1089 : zraw 270 1089 = some (.ireturn, 1) ∧ (zinf 270).2.2.2.1 = 2 := by decide +kernel
theorem zi_270_1090 : zraw 270 1090 = some (.goto 333, 3) ∧ ((1090 : Nat) : Int) + 333 = Int.ofNat 1423 := by decide +kernel
theorem zi_270_1093 : zraw 270 1093 = some (.aload_n 1, 1) ∧ 1093 + 1 = 1094 := by decide +kernel
theorem zi_270_1094 : zraw 270 1094 = some (.aload_n 0, 1) ∧ 1094 + 1 = 1095 := by decide +kernel
theorem zi_270_1095 : zraw 270 1095 = some (.iload 4, 2) ∧ 1095 + 2 = 1097 := by decide +kernel
theorem zi_270_1097 : zraw 270 1097 = some (.iconst 1, 1) ∧ zin 128 1 = true ∧ 1097 + 1 = 1098 := by decide +kernel
theorem zi_270_1098 : zraw 270 1098 = some (.iadd, 1) ∧ 1098 + 1 = 1099 := by decide +kernel
theorem zi_270_1099 : zraw 270 1099 = some (.iaload, 1) ∧ 1099 + 1 = 1100 := by decide +kernel
theorem zi_270_1100 : zraw 270 1100 = some (.aload_n 0, 1) ∧ 1100 + 1 = 1101 := by decide +kernel
theorem zi_270_1101 : zraw 270 1101 = some (.iload 4, 2) ∧ 1101 + 2 = 1103 := by decide +kernel
theorem zi_270_1103 : zraw 270 1103 = some (.iconst 2, 1) ∧ zin 128 2 = true ∧ 1103 + 1 = 1104 := by decide +kernel
theorem zi_270_1104 : zraw 270 1104 = some (.iadd, 1) ∧ 1104 + 1 = 1105 := by decide +kernel
theorem zi_270_1105 : zraw 270 1105 = some (.iaload, 1) ∧ 1105 + 1 = 1106 := by decide +kernel
theorem zi_270_1106 : zraw 270 1106 = some (.aload_n 3, 1) ∧ 1106 + 1 = 1107 := by decide +kernel
theorem zi_270_1107 : zraw 270 1107 = some (.invokestatic 142, 3) ∧ zmt (zinf 270).1 142 = some 265 ∧ Nat.ble 9000 265 = false ∧ zinf 265 = (11, 4, 5, 1, 1) ∧ 1107 + 3 = 1110 := by decide +kernel
theorem zi_270_1110 : zraw 270 1110 = some (.istore 5, 2) ∧ 1110 + 2 = 1112 := by decide +kernel
theorem zi_270_1112 : zraw 270 1112 = some (.aload_n 2, 1) ∧ 1112 + 1 = 1113 := by decide +kernel
theorem zi_270_1113 : zraw 270 1113 = some (.aload_n 0, 1) ∧ 1113 + 1 = 1114 := by decide +kernel
theorem zi_270_1114 : zraw 270 1114 = some (.iload 4, 2) ∧ 1114 + 2 = 1116 := by decide +kernel
theorem zi_270_1116 : zraw 270 1116 = some (.iconst 1, 1) ∧ zin 128 1 = true ∧ 1116 + 1 = 1117 := by decide +kernel
theorem zi_270_1117 : zraw 270 1117 = some (.iadd, 1) ∧ 1117 + 1 = 1118 := by decide +kernel
theorem zi_270_1118 : zraw 270 1118 = some (.iaload, 1) ∧ 1118 + 1 = 1119 := by decide +kernel
theorem zi_270_1119 : zraw 270 1119 = some (.aload_n 0, 1) ∧ 1119 + 1 = 1120 := by decide +kernel
theorem zi_270_1120 : zraw 270 1120 = some (.iload 4, 2) ∧ 1120 + 2 = 1122 := by decide +kernel
theorem zi_270_1122 : zraw 270 1122 = some (.iconst 2, 1) ∧ zin 128 2 = true ∧ 1122 + 1 = 1123 := by decide +kernel
theorem zi_270_1123 : zraw 270 1123 = some (.iadd, 1) ∧ 1123 + 1 = 1124 := by decide +kernel
theorem zi_270_1124 : zraw 270 1124 = some (.iaload, 1) ∧ 1124 + 1 = 1125 := by decide +kernel
theorem zi_270_1125 : zraw 270 1125 = some (.invokevirtual 144, 3) ∧ zmt (zinf 270).1 144 = some 220 ∧ Nat.ble 9000 220 = false ∧ zinf 220 = (10, 3, 4, 1, 0) ∧ 1125 + 3 = 1128 := by decide +kernel
theorem zi_270_1128 : zraw 270 1128 = some (.istore 6, 2) ∧ 1128 + 2 = 1130 := by decide +kernel
theorem zi_270_1130 : zraw 270 1130 = some (.aload_n 2, 1) ∧ 1130 + 1 = 1131 := by decide +kernel
theorem zi_270_1131 : zraw 270 1131 = some (.invokevirtual 90, 3) ∧ zmt (zinf 270).1 90 = some 140 ∧ Nat.ble 9000 140 = false ∧ zinf 140 = (10, 1, 1, 1, 0) ∧ 1131 + 3 = 1134 := by decide +kernel
theorem zi_270_1134 : zraw 270 1134 = some (.iload 5, 2) ∧ 1134 + 2 = 1136 := by decide +kernel
theorem zi_270_1136 : zraw 270 1136 = some (.if_icmp .eq 5, 3) ∧ ((1136 : Nat) : Int) + 5 = Int.ofNat 1141 ∧ 1136 + 3 = 1139 := by decide +kernel
theorem zi_270_1139 : zraw 270 1139 = some (.iconst 0, 1) ∧ zin 128 0 = true ∧ 1139 + 1 = 1140 := by decide +kernel
theorem zi_270_1140 : zraw 270 1140 = some (.ireturn, 1) ∧ (zinf 270).2.2.2.1 = 2 := by decide +kernel
theorem zi_270_1141 : zraw 270 1141 = some (.iload 5, 2) ∧ 1141 + 2 = 1143 := by decide +kernel
theorem zi_270_1143 : zraw 270 1143 = some (.ifCond .ne 15, 3) ∧ ((1143 : Nat) : Int) + 15 = Int.ofNat 1158 ∧ 1143 + 3 = 1146 := by decide +kernel
theorem zi_270_1146 : zraw 270 1146 = some (.aload_n 3, 1) ∧ 1146 + 1 = 1147 := by decide +kernel
theorem zi_270_1147 : zraw 270 1147 = some (.iconst 0, 1) ∧ zin 128 0 = true ∧ 1147 + 1 = 1148 := by decide +kernel
theorem zi_270_1148 : zraw 270 1148 = some (.laload, 1) ∧ 1148 + 1 = 1149 := by decide +kernel
theorem zi_270_1149 : zraw 270 1149 = some (.iload 6, 2) ∧ 1149 + 2 = 1151 := by decide +kernel
theorem zi_270_1151 : zraw 270 1151 = some (.i2l, 1) ∧ 1151 + 1 = 1152 := by decide +kernel
theorem zi_270_1152 : zraw 270 1152 = some (.lcmp, 1) ∧ 1152 + 1 = 1153 := by decide +kernel
theorem zi_270_1153 : zraw 270 1153 = some (.ifCond .eq 5, 3) ∧ ((1153 : Nat) : Int) + 5 = Int.ofNat 1158 ∧ 1153 + 3 = 1156 := by decide +kernel
theorem zi_270_1156 : zraw 270 1156 = some (.iconst 0, 1) ∧ zin 128 0 = true ∧ 1156 + 1 = 1157 := by decide +kernel
theorem zi_270_1157 : zraw 270 1157 = some (.ireturn, 1) ∧ (zinf 270).2.2.2.1 = 2 := by decide +kernel
theorem zi_270_1158 : zraw 270 1158 = some (.goto 265, 3) ∧ ((1158 : Nat) : Int) + 265 = Int.ofNat 1423 := by decide +kernel
theorem zi_270_1161 : zraw 270 1161 = some (.aload_n 1, 1) ∧ 1161 + 1 = 1162 := by decide +kernel
theorem zi_270_1162 : zraw 270 1162 = some (.aload_n 0, 1) ∧ 1162 + 1 = 1163 := by decide +kernel
theorem zi_270_1163 : zraw 270 1163 = some (.iload 4, 2) ∧ 1163 + 2 = 1165 := by decide +kernel
theorem zi_270_1165 : zraw 270 1165 = some (.iconst 1, 1) ∧ zin 128 1 = true ∧ 1165 + 1 = 1166 := by decide +kernel
theorem zi_270_1166 : zraw 270 1166 = some (.iadd, 1) ∧ 1166 + 1 = 1167 := by decide +kernel
theorem zi_270_1167 : zraw 270 1167 = some (.iaload, 1) ∧ 1167 + 1 = 1168 := by decide +kernel
theorem zi_270_1168 : zraw 270 1168 = some (.aload_n 3, 1) ∧ 1168 + 1 = 1169 := by decide +kernel
theorem zi_270_1169 : zraw 270 1169 = some (.invokestatic 145, 3) ∧ zmt (zinf 270).1 145 = some 266 ∧ Nat.ble 9000 266 = false ∧ zinf 266 = (11, 3, 4, 1, 1) ∧ 1169 + 3 = 1172 := by decide +kernel
theorem zi_270_1172 : zraw 270 1172 = some (.istore 5, 2) ∧ 1172 + 2 = 1174 := by decide +kernel
theorem zi_270_1174 : zraw 270 1174 = some (.aload_n 2, 1) ∧ 1174 + 1 = 1175 := by decide +kernel
theorem zi_270_1175 : zraw 270 1175 = some (.aload_n 0, 1) ∧ 1175 + 1 = 1176 := by decide +kernel
theorem zi_270_1176 : zraw 270 1176 = some (.iload 4, 2) ∧ 1176 + 2 = 1178 := by decide +kernel
theorem zi_270_1178 : zraw 270 1178 = some (.iconst 1, 1) ∧ zin 128 1 = true ∧ 1178 + 1 = 1179 := by decide +kernel
theorem zi_270_1179 : zraw 270 1179 = some (.iadd, 1) ∧ 1179 + 1 = 1180 := by decide +kernel
theorem zi_270_1180 : zraw 270 1180 = some (.iaload, 1) ∧ 1180 + 1 = 1181 := by decide +kernel
theorem zi_270_1181 : zraw 270 1181 = some (.invokevirtual 147, 3) ∧ zmt (zinf 270).1 147 = some 240 ∧ Nat.ble 9000 240 = false ∧ zinf 240 = (10, 2, 5, 1, 0) ∧ 1181 + 3 = 1184 := by decide +kernel
theorem zi_270_1184 : zraw 270 1184 = some (.istore 6, 2) ∧ 1184 + 2 = 1186 := by decide +kernel
theorem zi_270_1186 : zraw 270 1186 = some (.aload_n 2, 1) ∧ 1186 + 1 = 1187 := by decide +kernel
theorem zi_270_1187 : zraw 270 1187 = some (.invokevirtual 90, 3) ∧ zmt (zinf 270).1 90 = some 140 ∧ Nat.ble 9000 140 = false ∧ zinf 140 = (10, 1, 1, 1, 0) ∧ 1187 + 3 = 1190 := by decide +kernel
theorem zi_270_1190 : zraw 270 1190 = some (.iload 5, 2) ∧ 1190 + 2 = 1192 := by decide +kernel
theorem zi_270_1192 : zraw 270 1192 = some (.if_icmp .eq 5, 3) ∧ ((1192 : Nat) : Int) + 5 = Int.ofNat 1197 ∧ 1192 + 3 = 1195 := by decide +kernel
theorem zi_270_1195 : zraw 270 1195 = some (.iconst 0, 1) ∧ zin 128 0 = true ∧ 1195 + 1 = 1196 := by decide +kernel
theorem zi_270_1196 : zraw 270 1196 = some (.ireturn, 1) ∧ (zinf 270).2.2.2.1 = 2 := by decide +kernel
theorem zi_270_1197 : zraw 270 1197 = some (.iload 5, 2) ∧ 1197 + 2 = 1199 := by decide +kernel
theorem zi_270_1199 : zraw 270 1199 = some (.ifCond .ne 15, 3) ∧ ((1199 : Nat) : Int) + 15 = Int.ofNat 1214 ∧ 1199 + 3 = 1202 := by decide +kernel
theorem zi_270_1202 : zraw 270 1202 = some (.aload_n 3, 1) ∧ 1202 + 1 = 1203 := by decide +kernel
theorem zi_270_1203 : zraw 270 1203 = some (.iconst 0, 1) ∧ zin 128 0 = true ∧ 1203 + 1 = 1204 := by decide +kernel
theorem zi_270_1204 : zraw 270 1204 = some (.laload, 1) ∧ 1204 + 1 = 1205 := by decide +kernel
theorem zi_270_1205 : zraw 270 1205 = some (.iload 6, 2) ∧ 1205 + 2 = 1207 := by decide +kernel
theorem zi_270_1207 : zraw 270 1207 = some (.i2l, 1) ∧ 1207 + 1 = 1208 := by decide +kernel
theorem zi_270_1208 : zraw 270 1208 = some (.lcmp, 1) ∧ 1208 + 1 = 1209 := by decide +kernel
theorem zi_270_1209 : zraw 270 1209 = some (.ifCond .eq 5, 3) ∧ ((1209 : Nat) : Int) + 5 = Int.ofNat 1214 ∧ 1209 + 3 = 1212 := by decide +kernel
theorem zi_270_1212 : zraw 270 1212 = some (.iconst 0, 1) ∧ zin 128 0 = true ∧ 1212 + 1 = 1213 := by decide +kernel
theorem zi_270_1213 : zraw 270 1213 = some (.ireturn, 1) ∧ (zinf 270).2.2.2.1 = 2 := by decide +kernel
theorem zi_270_1214 : zraw 270 1214 = some (.goto 209, 3) ∧ ((1214 : Nat) : Int) + 209 = Int.ofNat 1423 := by decide +kernel
theorem zi_270_1217 : zraw 270 1217 = some (.aload_n 1, 1) ∧ 1217 + 1 = 1218 := by decide +kernel
theorem zi_270_1218 : zraw 270 1218 = some (.aload_n 0, 1) ∧ 1218 + 1 = 1219 := by decide +kernel
theorem zi_270_1219 : zraw 270 1219 = some (.iload 4, 2) ∧ 1219 + 2 = 1221 := by decide +kernel
theorem zi_270_1221 : zraw 270 1221 = some (.iconst 1, 1) ∧ zin 128 1 = true ∧ 1221 + 1 = 1222 := by decide +kernel
theorem zi_270_1222 : zraw 270 1222 = some (.iadd, 1) ∧ 1222 + 1 = 1223 := by decide +kernel
theorem zi_270_1223 : zraw 270 1223 = some (.iaload, 1) ∧ 1223 + 1 = 1224 := by decide +kernel
theorem zi_270_1224 : zraw 270 1224 = some (.aload_n 3, 1) ∧ 1224 + 1 = 1225 := by decide +kernel
theorem zi_270_1225 : zraw 270 1225 = some (.invokestatic 148, 3) ∧ zmt (zinf 270).1 148 = some 267 ∧ Nat.ble 9000 267 = false ∧ zinf 267 = (11, 3, 4, 1, 1) ∧ 1225 + 3 = 1228 := by decide +kernel
theorem zi_270_1228 : zraw 270 1228 = some (.istore 5, 2) ∧ 1228 + 2 = 1230 := by decide +kernel
theorem zi_270_1230 : zraw 270 1230 = some (.aload_n 2, 1) ∧ 1230 + 1 = 1231 := by decide +kernel
theorem zi_270_1231 : zraw 270 1231 = some (.aload_n 0, 1) ∧ 1231 + 1 = 1232 := by decide +kernel
theorem zi_270_1232 : zraw 270 1232 = some (.iload 4, 2) ∧ 1232 + 2 = 1234 := by decide +kernel
theorem zi_270_1234 : zraw 270 1234 = some (.iconst 1, 1) ∧ zin 128 1 = true ∧ 1234 + 1 = 1235 := by decide +kernel
theorem zi_270_1235 : zraw 270 1235 = some (.iadd, 1) ∧ 1235 + 1 = 1236 := by decide +kernel
theorem zi_270_1236 : zraw 270 1236 = some (.iaload, 1) ∧ 1236 + 1 = 1237 := by decide +kernel
theorem zi_270_1237 : zraw 270 1237 = some (.invokevirtual 150, 3) ∧ zmt (zinf 270).1 150 = some 245 ∧ Nat.ble 9000 245 = false ∧ zinf 245 = (10, 2, 6, 1, 0) ∧ 1237 + 3 = 1240 := by decide +kernel
theorem zi_270_1240 : zraw 270 1240 = some (.istore 6, 2) ∧ 1240 + 2 = 1242 := by decide +kernel
theorem zi_270_1242 : zraw 270 1242 = some (.aload_n 2, 1) ∧ 1242 + 1 = 1243 := by decide +kernel
theorem zi_270_1243 : zraw 270 1243 = some (.invokevirtual 90, 3) ∧ zmt (zinf 270).1 90 = some 140 ∧ Nat.ble 9000 140 = false ∧ zinf 140 = (10, 1, 1, 1, 0) ∧ 1243 + 3 = 1246 := by decide +kernel
theorem zi_270_1246 : zraw 270 1246 = some (.iload 5, 2) ∧ 1246 + 2 = 1248 := by decide +kernel
theorem zi_270_1248 : zraw 270 1248 = some (.if_icmp .eq 5, 3) ∧ ((1248 : Nat) : Int) + 5 = Int.ofNat 1253 ∧ 1248 + 3 = 1251 := by decide +kernel
theorem zi_270_1251 : zraw 270 1251 = some (.iconst 0, 1) ∧ zin 128 0 = true ∧ 1251 + 1 = 1252 := by decide +kernel
theorem zi_270_1252 : zraw 270 1252 = some (.ireturn, 1) ∧ (zinf 270).2.2.2.1 = 2 := by decide +kernel
theorem zi_270_1253 : zraw 270 1253 = some (.iload 5, 2) ∧ 1253 + 2 = 1255 := by decide +kernel
theorem zi_270_1255 : zraw 270 1255 = some (.ifCond .ne 15, 3) ∧ ((1255 : Nat) : Int) + 15 = Int.ofNat 1270 ∧ 1255 + 3 = 1258 := by decide +kernel
theorem zi_270_1258 : zraw 270 1258 = some (.aload_n 3, 1) ∧ 1258 + 1 = 1259 := by decide +kernel
theorem zi_270_1259 : zraw 270 1259 = some (.iconst 0, 1) ∧ zin 128 0 = true ∧ 1259 + 1 = 1260 := by decide +kernel
theorem zi_270_1260 : zraw 270 1260 = some (.laload, 1) ∧ 1260 + 1 = 1261 := by decide +kernel
theorem zi_270_1261 : zraw 270 1261 = some (.iload 6, 2) ∧ 1261 + 2 = 1263 := by decide +kernel
theorem zi_270_1263 : zraw 270 1263 = some (.i2l, 1) ∧ 1263 + 1 = 1264 := by decide +kernel
theorem zi_270_1264 : zraw 270 1264 = some (.lcmp, 1) ∧ 1264 + 1 = 1265 := by decide +kernel
theorem zi_270_1265 : zraw 270 1265 = some (.ifCond .eq 5, 3) ∧ ((1265 : Nat) : Int) + 5 = Int.ofNat 1270 ∧ 1265 + 3 = 1268 := by decide +kernel
theorem zi_270_1268 : zraw 270 1268 = some (.iconst 0, 1) ∧ zin 128 0 = true ∧ 1268 + 1 = 1269 := by decide +kernel
theorem zi_270_1269 : zraw 270 1269 = some (.ireturn, 1) ∧ (zinf 270).2.2.2.1 = 2 := by decide +kernel
theorem zi_270_1270 : zraw 270 1270 = some (.goto 153, 3) ∧ ((1270 : Nat) : Int) + 153 = Int.ofNat 1423 := by decide +kernel
theorem zi_270_1273 : zraw 270 1273 = some (.aload_n 1, 1) ∧ 1273 + 1 = 1274 := by decide +kernel
theorem zi_270_1274 : zraw 270 1274 = some (.aload_n 0, 1) ∧ 1274 + 1 = 1275 := by decide +kernel
theorem zi_270_1275 : zraw 270 1275 = some (.iload 4, 2) ∧ 1275 + 2 = 1277 := by decide +kernel
theorem zi_270_1277 : zraw 270 1277 = some (.iconst 1, 1) ∧ zin 128 1 = true ∧ 1277 + 1 = 1278 := by decide +kernel
theorem zi_270_1278 : zraw 270 1278 = some (.iadd, 1) ∧ 1278 + 1 = 1279 := by decide +kernel
theorem zi_270_1279 : zraw 270 1279 = some (.iaload, 1) ∧ 1279 + 1 = 1280 := by decide +kernel
theorem zi_270_1280 : zraw 270 1280 = some (.aload_n 3, 1) ∧ 1280 + 1 = 1281 := by decide +kernel
theorem zi_270_1281 : zraw 270 1281 = some (.invokestatic 151, 3) ∧ zmt (zinf 270).1 151 = some 268 ∧ Nat.ble 9000 268 = false ∧ zinf 268 = (11, 3, 4, 1, 1) ∧ 1281 + 3 = 1284 := by decide +kernel
theorem zi_270_1284 : zraw 270 1284 = some (.istore 5, 2) ∧ 1284 + 2 = 1286 := by decide +kernel
theorem zi_270_1286 : zraw 270 1286 = some (.aload_n 2, 1) ∧ 1286 + 1 = 1287 := by decide +kernel
theorem zi_270_1287 : zraw 270 1287 = some (.aload_n 0, 1) ∧ 1287 + 1 = 1288 := by decide +kernel
theorem zi_270_1288 : zraw 270 1288 = some (.iload 4, 2) ∧ 1288 + 2 = 1290 := by decide +kernel
theorem zi_270_1290 : zraw 270 1290 = some (.iconst 1, 1) ∧ zin 128 1 = true ∧ 1290 + 1 = 1291 := by decide +kernel
theorem zi_270_1291 : zraw 270 1291 = some (.iadd, 1) ∧ 1291 + 1 = 1292 := by decide +kernel
theorem zi_270_1292 : zraw 270 1292 = some (.iaload, 1) ∧ 1292 + 1 = 1293 := by decide +kernel
theorem zi_270_1293 : zraw 270 1293 = some (.invokevirtual 153, 3) ∧ zmt (zinf 270).1 153 = some 248 ∧ Nat.ble 9000 248 = false ∧ zinf 248 = (10, 2, 5, 1, 0) ∧ 1293 + 3 = 1296 := by decide +kernel
theorem zi_270_1296 : zraw 270 1296 = some (.istore 6, 2) ∧ 1296 + 2 = 1298 := by decide +kernel
theorem zi_270_1298 : zraw 270 1298 = some (.aload_n 2, 1) ∧ 1298 + 1 = 1299 := by decide +kernel
theorem zi_270_1299 : zraw 270 1299 = some (.invokevirtual 90, 3) ∧ zmt (zinf 270).1 90 = some 140 ∧ Nat.ble 9000 140 = false ∧ zinf 140 = (10, 1, 1, 1, 0) ∧ 1299 + 3 = 1302 := by decide +kernel
theorem zi_270_1302 : zraw 270 1302 = some (.iload 5, 2) ∧ 1302 + 2 = 1304 := by decide +kernel
theorem zi_270_1304 : zraw 270 1304 = some (.if_icmp .eq 5, 3) ∧ ((1304 : Nat) : Int) + 5 = Int.ofNat 1309 ∧ 1304 + 3 = 1307 := by decide +kernel
theorem zi_270_1307 : zraw 270 1307 = some (.iconst 0, 1) ∧ zin 128 0 = true ∧ 1307 + 1 = 1308 := by decide +kernel
theorem zi_270_1308 : zraw 270 1308 = some (.ireturn, 1) ∧ (zinf 270).2.2.2.1 = 2 := by decide +kernel
theorem zi_270_1309 : zraw 270 1309 = some (.iload 5, 2) ∧ 1309 + 2 = 1311 := by decide +kernel
theorem zi_270_1311 : zraw 270 1311 = some (.ifCond .ne 15, 3) ∧ ((1311 : Nat) : Int) + 15 = Int.ofNat 1326 ∧ 1311 + 3 = 1314 := by decide +kernel
theorem zi_270_1314 : zraw 270 1314 = some (.aload_n 3, 1) ∧ 1314 + 1 = 1315 := by decide +kernel
theorem zi_270_1315 : zraw 270 1315 = some (.iconst 0, 1) ∧ zin 128 0 = true ∧ 1315 + 1 = 1316 := by decide +kernel
theorem zi_270_1316 : zraw 270 1316 = some (.laload, 1) ∧ 1316 + 1 = 1317 := by decide +kernel
theorem zi_270_1317 : zraw 270 1317 = some (.iload 6, 2) ∧ 1317 + 2 = 1319 := by decide +kernel
theorem zi_270_1319 : zraw 270 1319 = some (.i2l, 1) ∧ 1319 + 1 = 1320 := by decide +kernel
theorem zi_270_1320 : zraw 270 1320 = some (.lcmp, 1) ∧ 1320 + 1 = 1321 := by decide +kernel
theorem zi_270_1321 : zraw 270 1321 = some (.ifCond .eq 5, 3) ∧ ((1321 : Nat) : Int) + 5 = Int.ofNat 1326 ∧ 1321 + 3 = 1324 := by decide +kernel
theorem zi_270_1324 : zraw 270 1324 = some (.iconst 0, 1) ∧ zin 128 0 = true ∧ 1324 + 1 = 1325 := by decide +kernel
theorem zi_270_1325 : zraw 270 1325 = some (.ireturn, 1) ∧ (zinf 270).2.2.2.1 = 2 := by decide +kernel
theorem zi_270_1326 : zraw 270 1326 = some (.goto 97, 3) ∧ ((1326 : Nat) : Int) + 97 = Int.ofNat 1423 := by decide +kernel
theorem zi_270_1329 : zraw 270 1329 = some (.aload_n 1, 1) ∧ 1329 + 1 = 1330 := by decide +kernel
theorem zi_270_1330 : zraw 270 1330 = some (.aload_n 0, 1) ∧ 1330 + 1 = 1331 := by decide +kernel
theorem zi_270_1331 : zraw 270 1331 = some (.iload 4, 2) ∧ 1331 + 2 = 1333 := by decide +kernel
theorem zi_270_1333 : zraw 270 1333 = some (.iconst 1, 1) ∧ zin 128 1 = true ∧ 1333 + 1 = 1334 := by decide +kernel
theorem zi_270_1334 : zraw 270 1334 = some (.iadd, 1) ∧ 1334 + 1 = 1335 := by decide +kernel
theorem zi_270_1335 : zraw 270 1335 = some (.iaload, 1) ∧ 1335 + 1 = 1336 := by decide +kernel
theorem zi_270_1336 : zraw 270 1336 = some (.aload_n 0, 1) ∧ 1336 + 1 = 1337 := by decide +kernel
theorem zi_270_1337 : zraw 270 1337 = some (.iload 4, 2) ∧ 1337 + 2 = 1339 := by decide +kernel
theorem zi_270_1339 : zraw 270 1339 = some (.iconst 2, 1) ∧ zin 128 2 = true ∧ 1339 + 1 = 1340 := by decide +kernel
theorem zi_270_1340 : zraw 270 1340 = some (.iadd, 1) ∧ 1340 + 1 = 1341 := by decide +kernel
theorem zi_270_1341 : zraw 270 1341 = some (.iaload, 1) ∧ 1341 + 1 = 1342 := by decide +kernel
theorem zi_270_1342 : zraw 270 1342 = some (.aload_n 3, 1) ∧ 1342 + 1 = 1343 := by decide +kernel
theorem zi_270_1343 : zraw 270 1343 = some (.invokestatic 154, 3) ∧ zmt (zinf 270).1 154 = some 269 ∧ Nat.ble 9000 269 = false ∧ zinf 269 = (11, 4, 5, 1, 1) ∧ 1343 + 3 = 1346 := by decide +kernel
theorem zi_270_1346 : zraw 270 1346 = some (.istore 5, 2) ∧ 1346 + 2 = 1348 := by decide +kernel
theorem zi_270_1348 : zraw 270 1348 = some (.aload_n 2, 1) ∧ 1348 + 1 = 1349 := by decide +kernel
theorem zi_270_1349 : zraw 270 1349 = some (.aload_n 0, 1) ∧ 1349 + 1 = 1350 := by decide +kernel
theorem zi_270_1350 : zraw 270 1350 = some (.iload 4, 2) ∧ 1350 + 2 = 1352 := by decide +kernel
theorem zi_270_1352 : zraw 270 1352 = some (.iconst 1, 1) ∧ zin 128 1 = true ∧ 1352 + 1 = 1353 := by decide +kernel
theorem zi_270_1353 : zraw 270 1353 = some (.iadd, 1) ∧ 1353 + 1 = 1354 := by decide +kernel
theorem zi_270_1354 : zraw 270 1354 = some (.iaload, 1) ∧ 1354 + 1 = 1355 := by decide +kernel
theorem zi_270_1355 : zraw 270 1355 = some (.aload_n 0, 1) ∧ 1355 + 1 = 1356 := by decide +kernel
theorem zi_270_1356 : zraw 270 1356 = some (.iload 4, 2) ∧ 1356 + 2 = 1358 := by decide +kernel
theorem zi_270_1358 : zraw 270 1358 = some (.iconst 2, 1) ∧ zin 128 2 = true ∧ 1358 + 1 = 1359 := by decide +kernel
theorem zi_270_1359 : zraw 270 1359 = some (.iadd, 1) ∧ 1359 + 1 = 1360 := by decide +kernel
theorem zi_270_1360 : zraw 270 1360 = some (.iaload, 1) ∧ 1360 + 1 = 1361 := by decide +kernel
theorem zi_270_1361 : zraw 270 1361 = some (.invokevirtual 156, 3) ∧ zmt (zinf 270).1 156 = some 249 ∧ Nat.ble 9000 249 = false ∧ zinf 249 = (10, 3, 3, 1, 0) ∧ 1361 + 3 = 1364 := by decide +kernel
theorem zi_270_1364 : zraw 270 1364 = some (.istore 6, 2) ∧ 1364 + 2 = 1366 := by decide +kernel
theorem zi_270_1366 : zraw 270 1366 = some (.aload_n 2, 1) ∧ 1366 + 1 = 1367 := by decide +kernel
theorem zi_270_1367 : zraw 270 1367 = some (.invokevirtual 90, 3) ∧ zmt (zinf 270).1 90 = some 140 ∧ Nat.ble 9000 140 = false ∧ zinf 140 = (10, 1, 1, 1, 0) ∧ 1367 + 3 = 1370 := by decide +kernel
theorem zi_270_1370 : zraw 270 1370 = some (.iload 5, 2) ∧ 1370 + 2 = 1372 := by decide +kernel
theorem zi_270_1372 : zraw 270 1372 = some (.if_icmp .eq 5, 3) ∧ ((1372 : Nat) : Int) + 5 = Int.ofNat 1377 ∧ 1372 + 3 = 1375 := by decide +kernel
theorem zi_270_1375 : zraw 270 1375 = some (.iconst 0, 1) ∧ zin 128 0 = true ∧ 1375 + 1 = 1376 := by decide +kernel
theorem zi_270_1376 : zraw 270 1376 = some (.ireturn, 1) ∧ (zinf 270).2.2.2.1 = 2 := by decide +kernel
theorem zi_270_1377 : zraw 270 1377 = some (.iload 5, 2) ∧ 1377 + 2 = 1379 := by decide +kernel
theorem zi_270_1379 : zraw 270 1379 = some (.ifCond .ne 15, 3) ∧ ((1379 : Nat) : Int) + 15 = Int.ofNat 1394 ∧ 1379 + 3 = 1382 := by decide +kernel
theorem zi_270_1382 : zraw 270 1382 = some (.aload_n 3, 1) ∧ 1382 + 1 = 1383 := by decide +kernel
theorem zi_270_1383 : zraw 270 1383 = some (.iconst 0, 1) ∧ zin 128 0 = true ∧ 1383 + 1 = 1384 := by decide +kernel
theorem zi_270_1384 : zraw 270 1384 = some (.laload, 1) ∧ 1384 + 1 = 1385 := by decide +kernel
theorem zi_270_1385 : zraw 270 1385 = some (.iload 6, 2) ∧ 1385 + 2 = 1387 := by decide +kernel
theorem zi_270_1387 : zraw 270 1387 = some (.i2l, 1) ∧ 1387 + 1 = 1388 := by decide +kernel
theorem zi_270_1388 : zraw 270 1388 = some (.lcmp, 1) ∧ 1388 + 1 = 1389 := by decide +kernel
theorem zi_270_1389 : zraw 270 1389 = some (.ifCond .eq 5, 3) ∧ ((1389 : Nat) : Int) + 5 = Int.ofNat 1394 ∧ 1389 + 3 = 1392 := by decide +kernel
theorem zi_270_1392 : zraw 270 1392 = some (.iconst 0, 1) ∧ zin 128 0 = true ∧ 1392 + 1 = 1393 := by decide +kernel
theorem zi_270_1393 : zraw 270 1393 = some (.ireturn, 1) ∧ (zinf 270).2.2.2.1 = 2 := by decide +kernel
theorem zi_270_1394 : zraw 270 1394 = some (.goto 29, 3) ∧ ((1394 : Nat) : Int) + 29 = Int.ofNat 1423 := by decide +kernel
theorem zi_270_1397 : zraw 270 1397 = some (.aload_n 1, 1) ∧ 1397 + 1 = 1398 := by decide +kernel
theorem zi_270_1398 : zraw 270 1398 = some (.aload_n 0, 1) ∧ 1398 + 1 = 1399 := by decide +kernel
theorem zi_270_1399 : zraw 270 1399 = some (.iload 4, 2) ∧ 1399 + 2 = 1401 := by decide +kernel
theorem zi_270_1401 : zraw 270 1401 = some (.iconst 1, 1) ∧ zin 128 1 = true ∧ 1401 + 1 = 1402 := by decide +kernel
theorem zi_270_1402 : zraw 270 1402 = some (.iadd, 1) ∧ 1402 + 1 = 1403 := by decide +kernel
theorem zi_270_1403 : zraw 270 1403 = some (.iaload, 1) ∧ 1403 + 1 = 1404 := by decide +kernel
theorem zi_270_1404 : zraw 270 1404 = some (.invokevirtual 157, 3) ∧ zmt (zinf 270).1 157 = some 124 ∧ Nat.ble 9000 124 = false ∧ zinf 124 = (9, 2, 2, 3, 0) ∧ 1404 + 3 = 1407 := by decide +kernel
theorem zi_270_1407 : zraw 270 1407 = some (.aload_n 2, 1) ∧ 1407 + 1 = 1408 := by decide +kernel
theorem zi_270_1408 : zraw 270 1408 = some (.aload_n 0, 1) ∧ 1408 + 1 = 1409 := by decide +kernel
theorem zi_270_1409 : zraw 270 1409 = some (.iload 4, 2) ∧ 1409 + 2 = 1411 := by decide +kernel
theorem zi_270_1411 : zraw 270 1411 = some (.iconst 1, 1) ∧ zin 128 1 = true ∧ 1411 + 1 = 1412 := by decide +kernel
theorem zi_270_1412 : zraw 270 1412 = some (.iadd, 1) ∧ 1412 + 1 = 1413 := by decide +kernel
theorem zi_270_1413 : zraw 270 1413 = some (.iaload, 1) ∧ 1413 + 1 = 1414 := by decide +kernel
theorem zi_270_1414 : zraw 270 1414 = some (.invokevirtual 161, 3) ∧ zmt (zinf 270).1 161 = some 250 ∧ Nat.ble 9000 250 = false ∧ zinf 250 = (10, 2, 7, 3, 0) ∧ 1414 + 3 = 1417 := by decide +kernel
theorem zi_270_1417 : zraw 270 1417 = some (.lcmp, 1) ∧ 1417 + 1 = 1418 := by decide +kernel
theorem zi_270_1418 : zraw 270 1418 = some (.ifCond .eq 5, 3) ∧ ((1418 : Nat) : Int) + 5 = Int.ofNat 1423 ∧ 1418 + 3 = 1421 := by decide +kernel
theorem zi_270_1421 : zraw 270 1421 = some (.iconst 0, 1) ∧ zin 128 0 = true ∧ 1421 + 1 = 1422 := by decide +kernel
theorem zi_270_1422 : zraw 270 1422 = some (.ireturn, 1) ∧ (zinf 270).2.2.2.1 = 2 := by decide +kernel
theorem zi_270_1423 : zraw 270 1423 = some (.iinc 4 4, 3) ∧ zin 32768 4 = true ∧ 1423 + 3 = 1426 := by decide +kernel
theorem zi_270_1426 : zraw 270 1426 = some (.goto (-1403), 3) ∧ ((1426 : Nat) : Int) + (-1403) = Int.ofNat 23 := by decide +kernel
theorem zi_270_1429 : zraw 270 1429 = some (.iconst 1, 1) ∧ zin 128 1 = true ∧ 1429 + 1 = 1430 := by decide +kernel
theorem zi_270_1430 : zraw 270 1430 = some (.ireturn, 1) ∧ (zinf 270).2.2.2.1 = 2 := by decide +kernel
theorem zj_270_23 {K : List zF} {σ : zW} {x4 : Int} {o5 : Option zV} {o6 : Option zV} (hK : K.length < 60) : zEv true ((270, 23, [some (.inr (.inr 99999)), some (.inr (.inr 1)), some (.inr (.inr 122)), some (.inr (.inr 186)), some (.inl x4), o5, o6], []) :: K) σ = (if (w32 ((gI σ 99998 0) - 4)) < x4 then zRet true K (some (.inl 1)) σ else (0 ≤ x4 ∧ x4 < (gI σ 99998 0)) ∧ (if (zand (gI σ 99999 x4.toNat) 31) = 0 then (0 ≤ (w32 (x4 + 1)) ∧ (w32 (x4 + 1)) < (gI σ 99998 0)) ∧ ((0 ≤ (w32 (x4 + 2)) ∧ (w32 (x4 + 2)) < (gI σ 99998 0)) ∧ ((0 ≤ (w32 (x4 + 3)) ∧ (w32 (x4 + 3)) < (gI σ 99998 0)) ∧ zEv true (zent 251 [.inr (.inr 1), .inr (.inl ((zlshl (zi2l (gI σ 99999 (w32 (x4 + 1)).toNat)) 32) ||| ((zi2l (gI σ 99999 (w32 (x4 + 2)).toNat)) &&& 4294967295))), .inl (gI σ 99999 (w32 (x4 + 3)).toNat), .inr (.inr 186)] :: (270, 169, [some (.inr (.inr 99999)), some (.inr (.inr 1)), some (.inr (.inr 122)), some (.inr (.inr 186)), some (.inl x4), o5, o6], []) :: K) σ)) else if (zand (gI σ 99999 x4.toNat) 31) = 1 then (0 ≤ (w32 (x4 + 1)) ∧ (w32 (x4 + 1)) < (gI σ 99998 0)) ∧ zEv true (zent 252 [.inr (.inr 1), .inl (gI σ 99999 (w32 (x4 + 1)).toNat), .inr (.inr 186)] :: (270, 247, [some (.inr (.inr 99999)), some (.inr (.inr 1)), some (.inr (.inr 122)), some (.inr (.inr 186)), some (.inl x4), o5, o6], []) :: K) σ else if (zand (gI σ 99999 x4.toNat) 31) = 2 then zEv true (zent 253 [.inr (.inr 1), .inr (.inr 186)] :: (270, 297, [some (.inr (.inr 99999)), some (.inr (.inr 1)), some (.inr (.inr 122)), some (.inr (.inr 186)), some (.inl x4), o5, o6], []) :: K) σ else if (zand (gI σ 99999 x4.toNat) 31) = 3 then zEv true (zent 254 [.inr (.inr 1), .inr (.inr 186)] :: (270, 341, [some (.inr (.inr 99999)), some (.inr (.inr 1)), some (.inr (.inr 122)), some (.inr (.inr 186)), some (.inl x4), o5, o6], []) :: K) σ else if (zand (gI σ 99999 x4.toNat) 31) = 4 then (0 ≤ (w32 (x4 + 1)) ∧ (w32 (x4 + 1)) < (gI σ 99998 0)) ∧ zEv true (zent 108 [.inr (.inr 1), .inl (if (gI σ 99999 (w32 (x4 + 1)).toNat) = 0 then 0 else 1 : Int)] :: (270, 398, [some (.inr (.inr 99999)), some (.inr (.inr 1)), some (.inr (.inr 122)), some (.inr (.inr 186)), some (.inl x4), o5, o6], []) :: K) σ else if (zand (gI σ 99999 x4.toNat) 31) = 5 then (0 ≤ (w32 (x4 + 1)) ∧ (w32 (x4 + 1)) < (gI σ 99998 0)) ∧ zEv true (zent 255 [.inr (.inr 1), .inl (gI σ 99999 (w32 (x4 + 1)).toNat), .inr (.inr 186)] :: (270, 432, [some (.inr (.inr 99999)), some (.inr (.inr 1)), some (.inr (.inr 122)), some (.inr (.inr 186)), some (.inl x4), o5, o6], []) :: K) σ else if (zand (gI σ 99999 x4.toNat) 31) = 6 then (0 ≤ (w32 (x4 + 1)) ∧ (w32 (x4 + 1)) < (gI σ 99998 0)) ∧ ((0 ≤ (w32 (x4 + 2)) ∧ (w32 (x4 + 2)) < (gI σ 99998 0)) ∧ zEv true (zent 256 [.inr (.inr 1), .inl (gI σ 99999 (w32 (x4 + 1)).toNat), .inl (gI σ 99999 (w32 (x4 + 2)).toNat), .inr (.inr 186)] :: (270, 494, [some (.inr (.inr 99999)), some (.inr (.inr 1)), some (.inr (.inr 122)), some (.inr (.inr 186)), some (.inl x4), o5, o6], []) :: K) σ) else if (zand (gI σ 99999 x4.toNat) 31) = 7 then (0 ≤ (w32 (x4 + 1)) ∧ (w32 (x4 + 1)) < (gI σ 99998 0)) ∧ ((0 ≤ (w32 (x4 + 2)) ∧ (w32 (x4 + 2)) < (gI σ 99998 0)) ∧ zEv true (zent 257 [.inr (.inr 1), .inl (gI σ 99999 (w32 (x4 + 1)).toNat), .inl (gI σ 99999 (w32 (x4 + 2)).toNat), .inr (.inr 186)] :: (270, 562, [some (.inr (.inr 99999)), some (.inr (.inr 1)), some (.inr (.inr 122)), some (.inr (.inr 186)), some (.inl x4), o5, o6], []) :: K) σ) else if (zand (gI σ 99999 x4.toNat) 31) = 8 then (0 ≤ (w32 (x4 + 1)) ∧ (w32 (x4 + 1)) < (gI σ 99998 0)) ∧ ((0 ≤ (w32 (x4 + 2)) ∧ (w32 (x4 + 2)) < (gI σ 99998 0)) ∧ ((0 ≤ (w32 (x4 + 3)) ∧ (w32 (x4 + 3)) < (gI σ 99998 0)) ∧ zEv true (zent 258 [.inr (.inr 1), .inl (gI σ 99999 (w32 (x4 + 1)).toNat), .inl (gI σ 99999 (w32 (x4 + 2)).toNat), .inl (if (gI σ 99999 (w32 (x4 + 3)).toNat) = 0 then 0 else 1 : Int), .inr (.inr 186)] :: (270, 644, [some (.inr (.inr 99999)), some (.inr (.inr 1)), some (.inr (.inr 122)), some (.inr (.inr 186)), some (.inl x4), o5, o6], []) :: K) σ)) else if (zand (gI σ 99999 x4.toNat) 31) = 9 then (0 ≤ (w32 (x4 + 1)) ∧ (w32 (x4 + 1)) < (gI σ 99998 0)) ∧ zEv true (zent 259 [.inr (.inr 1), .inl (gI σ 99999 (w32 (x4 + 1)).toNat), .inr (.inr 186)] :: (270, 720, [some (.inr (.inr 99999)), some (.inr (.inr 1)), some (.inr (.inr 122)), some (.inr (.inr 186)), some (.inl x4), o5, o6], []) :: K) σ else if (zand (gI σ 99999 x4.toNat) 31) = 10 then (0 ≤ (w32 (x4 + 1)) ∧ (w32 (x4 + 1)) < (gI σ 99998 0)) ∧ zEv true (zent 260 [.inr (.inr 1), .inl (gI σ 99999 (w32 (x4 + 1)).toNat), .inr (.inr 186)] :: (270, 776, [some (.inr (.inr 99999)), some (.inr (.inr 1)), some (.inr (.inr 122)), some (.inr (.inr 186)), some (.inl x4), o5, o6], []) :: K) σ else if (zand (gI σ 99999 x4.toNat) 31) = 11 then (0 ≤ (w32 (x4 + 1)) ∧ (w32 (x4 + 1)) < (gI σ 99998 0)) ∧ zEv true (zent 261 [.inr (.inr 1), .inl (gI σ 99999 (w32 (x4 + 1)).toNat), .inr (.inr 186)] :: (270, 832, [some (.inr (.inr 99999)), some (.inr (.inr 1)), some (.inr (.inr 122)), some (.inr (.inr 186)), some (.inl x4), o5, o6], []) :: K) σ else if (zand (gI σ 99999 x4.toNat) 31) = 12 then (0 ≤ (w32 (x4 + 1)) ∧ (w32 (x4 + 1)) < (gI σ 99998 0)) ∧ zEv true (zent 262 [.inr (.inr 1), .inl (gI σ 99999 (w32 (x4 + 1)).toNat), .inr (.inr 186)] :: (270, 888, [some (.inr (.inr 99999)), some (.inr (.inr 1)), some (.inr (.inr 122)), some (.inr (.inr 186)), some (.inl x4), o5, o6], []) :: K) σ else if (zand (gI σ 99999 x4.toNat) 31) = 13 then (0 ≤ (w32 (x4 + 1)) ∧ (w32 (x4 + 1)) < (gI σ 99998 0)) ∧ ((0 ≤ (w32 (x4 + 2)) ∧ (w32 (x4 + 2)) < (gI σ 99998 0)) ∧ ((0 ≤ (w32 (x4 + 3)) ∧ (w32 (x4 + 3)) < (gI σ 99998 0)) ∧ zEv true (zent 263 [.inr (.inr 1), .inl (gI σ 99999 (w32 (x4 + 1)).toNat), .inl (gI σ 99999 (w32 (x4 + 2)).toNat), .inl (gI σ 99999 (w32 (x4 + 3)).toNat), .inr (.inr 186)] :: (270, 956, [some (.inr (.inr 99999)), some (.inr (.inr 1)), some (.inr (.inr 122)), some (.inr (.inr 186)), some (.inl x4), o5, o6], []) :: K) σ)) else if (zand (gI σ 99999 x4.toNat) 31) = 14 then (0 ≤ (w32 (x4 + 1)) ∧ (w32 (x4 + 1)) < (gI σ 99998 0)) ∧ ((0 ≤ (w32 (x4 + 2)) ∧ (w32 (x4 + 2)) < (gI σ 99998 0)) ∧ ((0 ≤ (w32 (x4 + 3)) ∧ (w32 (x4 + 3)) < (gI σ 99998 0)) ∧ zEv true (zent 264 [.inr (.inr 1), .inl (gI σ 99999 (w32 (x4 + 1)).toNat), .inl (gI σ 99999 (w32 (x4 + 2)).toNat), .inl (gI σ 99999 (w32 (x4 + 3)).toNat), .inr (.inr 186)] :: (270, 1036, [some (.inr (.inr 99999)), some (.inr (.inr 1)), some (.inr (.inr 122)), some (.inr (.inr 186)), some (.inl x4), o5, o6], []) :: K) σ)) else if (zand (gI σ 99999 x4.toNat) 31) = 15 then (0 ≤ (w32 (x4 + 1)) ∧ (w32 (x4 + 1)) < (gI σ 99998 0)) ∧ ((0 ≤ (w32 (x4 + 2)) ∧ (w32 (x4 + 2)) < (gI σ 99998 0)) ∧ zEv true (zent 265 [.inr (.inr 1), .inl (gI σ 99999 (w32 (x4 + 1)).toNat), .inl (gI σ 99999 (w32 (x4 + 2)).toNat), .inr (.inr 186)] :: (270, 1110, [some (.inr (.inr 99999)), some (.inr (.inr 1)), some (.inr (.inr 122)), some (.inr (.inr 186)), some (.inl x4), o5, o6], []) :: K) σ) else if (zand (gI σ 99999 x4.toNat) 31) = 16 then (0 ≤ (w32 (x4 + 1)) ∧ (w32 (x4 + 1)) < (gI σ 99998 0)) ∧ zEv true (zent 266 [.inr (.inr 1), .inl (gI σ 99999 (w32 (x4 + 1)).toNat), .inr (.inr 186)] :: (270, 1172, [some (.inr (.inr 99999)), some (.inr (.inr 1)), some (.inr (.inr 122)), some (.inr (.inr 186)), some (.inl x4), o5, o6], []) :: K) σ else if (zand (gI σ 99999 x4.toNat) 31) = 17 then (0 ≤ (w32 (x4 + 1)) ∧ (w32 (x4 + 1)) < (gI σ 99998 0)) ∧ zEv true (zent 267 [.inr (.inr 1), .inl (gI σ 99999 (w32 (x4 + 1)).toNat), .inr (.inr 186)] :: (270, 1228, [some (.inr (.inr 99999)), some (.inr (.inr 1)), some (.inr (.inr 122)), some (.inr (.inr 186)), some (.inl x4), o5, o6], []) :: K) σ else if (zand (gI σ 99999 x4.toNat) 31) = 18 then (0 ≤ (w32 (x4 + 1)) ∧ (w32 (x4 + 1)) < (gI σ 99998 0)) ∧ zEv true (zent 268 [.inr (.inr 1), .inl (gI σ 99999 (w32 (x4 + 1)).toNat), .inr (.inr 186)] :: (270, 1284, [some (.inr (.inr 99999)), some (.inr (.inr 1)), some (.inr (.inr 122)), some (.inr (.inr 186)), some (.inl x4), o5, o6], []) :: K) σ else if (zand (gI σ 99999 x4.toNat) 31) = 19 then (0 ≤ (w32 (x4 + 1)) ∧ (w32 (x4 + 1)) < (gI σ 99998 0)) ∧ ((0 ≤ (w32 (x4 + 2)) ∧ (w32 (x4 + 2)) < (gI σ 99998 0)) ∧ zEv true (zent 269 [.inr (.inr 1), .inl (gI σ 99999 (w32 (x4 + 1)).toNat), .inl (gI σ 99999 (w32 (x4 + 2)).toNat), .inr (.inr 186)] :: (270, 1346, [some (.inr (.inr 99999)), some (.inr (.inr 1)), some (.inr (.inr 122)), some (.inr (.inr 186)), some (.inl x4), o5, o6], []) :: K) σ) else if (zand (gI σ 99999 x4.toNat) 31) = 20 then (0 ≤ (w32 (x4 + 1)) ∧ (w32 (x4 + 1)) < (gI σ 99998 0)) ∧ zEv true (zent 124 [.inr (.inr 1), .inl (gI σ 99999 (w32 (x4 + 1)).toNat)] :: (270, 1407, [some (.inr (.inr 99999)), some (.inr (.inr 1)), some (.inr (.inr 122)), some (.inr (.inr 186)), some (.inl x4), o5, o6], []) :: K) σ else zEv true ((270, 23, [some (.inr (.inr 99999)), some (.inr (.inr 1)), some (.inr (.inr 122)), some (.inr (.inr 186)), some (.inl (w32 (x4 + 4))), o5, o6], []) :: K) σ)) :=
  yI_iload zi_270_23 rfl <| yI_aload_n zi_270_25 rfl <| yI_slen zi_270_26 <| yI_iconst zi_270_27 <| yI_isub zi_270_28 <| yI_ic_gt zi_270_29 <| yBr (yI_iconst zi_270_1429 <| yI_zreturn zi_270_1430 (by decide)) (yI_aload_n zi_270_32 rfl <| yI_iload zi_270_33 rfl <| yI_scr zi_270_35 <| yI_bipush zi_270_36 <| yI_iand zi_270_38 <| yI_tsw (q := if (zand (gI σ 99999 x4.toNat) 31) = 0 then 136 else if (zand (gI σ 99999 x4.toNat) 31) = 1 then 236 else if (zand (gI σ 99999 x4.toNat) 31) = 2 then 292 else if (zand (gI σ 99999 x4.toNat) 31) = 3 then 336 else if (zand (gI σ 99999 x4.toNat) 31) = 4 then 380 else if (zand (gI σ 99999 x4.toNat) 31) = 5 then 421 else if (zand (gI σ 99999 x4.toNat) 31) = 6 then 477 else if (zand (gI σ 99999 x4.toNat) 31) = 7 then 545 else if (zand (gI σ 99999 x4.toNat) 31) = 8 then 613 else if (zand (gI σ 99999 x4.toNat) 31) = 9 then 709 else if (zand (gI σ 99999 x4.toNat) 31) = 10 then 765 else if (zand (gI σ 99999 x4.toNat) 31) = 11 then 821 else if (zand (gI σ 99999 x4.toNat) 31) = 12 then 877 else if (zand (gI σ 99999 x4.toNat) 31) = 13 then 933 else if (zand (gI σ 99999 x4.toNat) 31) = 14 then 1013 else if (zand (gI σ 99999 x4.toNat) 31) = 15 then 1093 else if (zand (gI σ 99999 x4.toNat) 31) = 16 then 1161 else if (zand (gI σ 99999 x4.toNat) 31) = 17 then 1217 else if (zand (gI σ 99999 x4.toNat) 31) = 18 then 1273 else if (zand (gI σ 99999 x4.toNat) 31) = 19 then 1329 else if (zand (gI σ 99999 x4.toNat) 31) = 20 then 1397 else 1423) zi_270_39 (by with_unfolding_all rfl) <| yBr (yI_aload_n zi_270_136 rfl <| yI_aload_n zi_270_137 rfl <| yI_iload zi_270_138 rfl <| yI_iconst zi_270_140 <| yI_iadd zi_270_141 <| yI_scr zi_270_142 <| yI_i2l zi_270_143 <| yI_bipush zi_270_144 <| yI_lshl zi_270_146 <| yI_aload_n zi_270_147 rfl <| yI_iload zi_270_148 rfl <| yI_iconst zi_270_150 <| yI_iadd zi_270_151 <| yI_scr zi_270_152 <| yI_i2l zi_270_153 <| yI_ldc2_w zi_270_154 <| yI_land zi_270_157 <| yI_lor zi_270_158 <| yI_aload_n zi_270_159 rfl <| yI_iload zi_270_160 rfl <| yI_iconst zi_270_162 <| yI_iadd zi_270_163 <| yI_scr zi_270_164 <| yI_aload_n zi_270_165 rfl <| yI_cs zi_270_166 rfl rfl hK) (yBr (yI_aload_n zi_270_236 rfl <| yI_aload_n zi_270_237 rfl <| yI_iload zi_270_238 rfl <| yI_iconst zi_270_240 <| yI_iadd zi_270_241 <| yI_scr zi_270_242 <| yI_aload_n zi_270_243 rfl <| yI_cs zi_270_244 rfl rfl hK) (yBr (yI_aload_n zi_270_292 rfl <| yI_aload_n zi_270_293 rfl <| yI_cs zi_270_294 rfl rfl hK) (yBr (yI_aload_n zi_270_336 rfl <| yI_aload_n zi_270_337 rfl <| yI_cs zi_270_338 rfl rfl hK) (yBr (yI_aload_n zi_270_380 rfl <| yI_aload_n zi_270_381 rfl <| yI_iload zi_270_382 rfl <| yI_iconst zi_270_384 <| yI_iadd zi_270_385 <| yI_scr zi_270_386 <| yI_if_eq zi_270_387 <| yMi0 (j := 395) (ls2 := [some (.inr (.inr 99999)), some (.inr (.inr 1)), some (.inr (.inr 122)), some (.inr (.inr 186)), some (.inl x4), o5, o6]) (st2 := [.inr (.inr 1)]) (x := 0) (y := 1) (σ2 := σ) (yI_iconst zi_270_394 <| rfl) (yI_iconst zi_270_390 <| yI_goto zi_270_391 <| rfl) <| yI_cv zi_270_395 rfl rfl zk_1 hK) (yBr (yI_aload_n zi_270_421 rfl <| yI_aload_n zi_270_422 rfl <| yI_iload zi_270_423 rfl <| yI_iconst zi_270_425 <| yI_iadd zi_270_426 <| yI_scr zi_270_427 <| yI_aload_n zi_270_428 rfl <| yI_cs zi_270_429 rfl rfl hK) (yBr (yI_aload_n zi_270_477 rfl <| yI_aload_n zi_270_478 rfl <| yI_iload zi_270_479 rfl <| yI_iconst zi_270_481 <| yI_iadd zi_270_482 <| yI_scr zi_270_483 <| yI_aload_n zi_270_484 rfl <| yI_iload zi_270_485 rfl <| yI_iconst zi_270_487 <| yI_iadd zi_270_488 <| yI_scr zi_270_489 <| yI_aload_n zi_270_490 rfl <| yI_cs zi_270_491 rfl rfl hK) (yBr (yI_aload_n zi_270_545 rfl <| yI_aload_n zi_270_546 rfl <| yI_iload zi_270_547 rfl <| yI_iconst zi_270_549 <| yI_iadd zi_270_550 <| yI_scr zi_270_551 <| yI_aload_n zi_270_552 rfl <| yI_iload zi_270_553 rfl <| yI_iconst zi_270_555 <| yI_iadd zi_270_556 <| yI_scr zi_270_557 <| yI_aload_n zi_270_558 rfl <| yI_cs zi_270_559 rfl rfl hK) (yBr (yI_aload_n zi_270_613 rfl <| yI_aload_n zi_270_614 rfl <| yI_iload zi_270_615 rfl <| yI_iconst zi_270_617 <| yI_iadd zi_270_618 <| yI_scr zi_270_619 <| yI_aload_n zi_270_620 rfl <| yI_iload zi_270_621 rfl <| yI_iconst zi_270_623 <| yI_iadd zi_270_624 <| yI_scr zi_270_625 <| yI_aload_n zi_270_626 rfl <| yI_iload zi_270_627 rfl <| yI_iconst zi_270_629 <| yI_iadd zi_270_630 <| yI_scr zi_270_631 <| yI_if_eq zi_270_632 <| yMi0 (j := 640) (ls2 := [some (.inr (.inr 99999)), some (.inr (.inr 1)), some (.inr (.inr 122)), some (.inr (.inr 186)), some (.inl x4), o5, o6]) (st2 := [.inl (gI σ 99999 (w32 (x4 + 2)).toNat), .inl (gI σ 99999 (w32 (x4 + 1)).toNat), .inr (.inr 1)]) (x := 0) (y := 1) (σ2 := σ) (yI_iconst zi_270_639 <| rfl) (yI_iconst zi_270_635 <| yI_goto zi_270_636 <| rfl) <| yI_aload_n zi_270_640 rfl <| yI_cs zi_270_641 rfl rfl hK) (yBr (yI_aload_n zi_270_709 rfl <| yI_aload_n zi_270_710 rfl <| yI_iload zi_270_711 rfl <| yI_iconst zi_270_713 <| yI_iadd zi_270_714 <| yI_scr zi_270_715 <| yI_aload_n zi_270_716 rfl <| yI_cs zi_270_717 rfl rfl hK) (yBr (yI_aload_n zi_270_765 rfl <| yI_aload_n zi_270_766 rfl <| yI_iload zi_270_767 rfl <| yI_iconst zi_270_769 <| yI_iadd zi_270_770 <| yI_scr zi_270_771 <| yI_aload_n zi_270_772 rfl <| yI_cs zi_270_773 rfl rfl hK) (yBr (yI_aload_n zi_270_821 rfl <| yI_aload_n zi_270_822 rfl <| yI_iload zi_270_823 rfl <| yI_iconst zi_270_825 <| yI_iadd zi_270_826 <| yI_scr zi_270_827 <| yI_aload_n zi_270_828 rfl <| yI_cs zi_270_829 rfl rfl hK) (yBr (yI_aload_n zi_270_877 rfl <| yI_aload_n zi_270_878 rfl <| yI_iload zi_270_879 rfl <| yI_iconst zi_270_881 <| yI_iadd zi_270_882 <| yI_scr zi_270_883 <| yI_aload_n zi_270_884 rfl <| yI_cs zi_270_885 rfl rfl hK) (yBr (yI_aload_n zi_270_933 rfl <| yI_aload_n zi_270_934 rfl <| yI_iload zi_270_935 rfl <| yI_iconst zi_270_937 <| yI_iadd zi_270_938 <| yI_scr zi_270_939 <| yI_aload_n zi_270_940 rfl <| yI_iload zi_270_941 rfl <| yI_iconst zi_270_943 <| yI_iadd zi_270_944 <| yI_scr zi_270_945 <| yI_aload_n zi_270_946 rfl <| yI_iload zi_270_947 rfl <| yI_iconst zi_270_949 <| yI_iadd zi_270_950 <| yI_scr zi_270_951 <| yI_aload_n zi_270_952 rfl <| yI_cs zi_270_953 rfl rfl hK) (yBr (yI_aload_n zi_270_1013 rfl <| yI_aload_n zi_270_1014 rfl <| yI_iload zi_270_1015 rfl <| yI_iconst zi_270_1017 <| yI_iadd zi_270_1018 <| yI_scr zi_270_1019 <| yI_aload_n zi_270_1020 rfl <| yI_iload zi_270_1021 rfl <| yI_iconst zi_270_1023 <| yI_iadd zi_270_1024 <| yI_scr zi_270_1025 <| yI_aload_n zi_270_1026 rfl <| yI_iload zi_270_1027 rfl <| yI_iconst zi_270_1029 <| yI_iadd zi_270_1030 <| yI_scr zi_270_1031 <| yI_aload_n zi_270_1032 rfl <| yI_cs zi_270_1033 rfl rfl hK) (yBr (yI_aload_n zi_270_1093 rfl <| yI_aload_n zi_270_1094 rfl <| yI_iload zi_270_1095 rfl <| yI_iconst zi_270_1097 <| yI_iadd zi_270_1098 <| yI_scr zi_270_1099 <| yI_aload_n zi_270_1100 rfl <| yI_iload zi_270_1101 rfl <| yI_iconst zi_270_1103 <| yI_iadd zi_270_1104 <| yI_scr zi_270_1105 <| yI_aload_n zi_270_1106 rfl <| yI_cs zi_270_1107 rfl rfl hK) (yBr (yI_aload_n zi_270_1161 rfl <| yI_aload_n zi_270_1162 rfl <| yI_iload zi_270_1163 rfl <| yI_iconst zi_270_1165 <| yI_iadd zi_270_1166 <| yI_scr zi_270_1167 <| yI_aload_n zi_270_1168 rfl <| yI_cs zi_270_1169 rfl rfl hK) (yBr (yI_aload_n zi_270_1217 rfl <| yI_aload_n zi_270_1218 rfl <| yI_iload zi_270_1219 rfl <| yI_iconst zi_270_1221 <| yI_iadd zi_270_1222 <| yI_scr zi_270_1223 <| yI_aload_n zi_270_1224 rfl <| yI_cs zi_270_1225 rfl rfl hK) (yBr (yI_aload_n zi_270_1273 rfl <| yI_aload_n zi_270_1274 rfl <| yI_iload zi_270_1275 rfl <| yI_iconst zi_270_1277 <| yI_iadd zi_270_1278 <| yI_scr zi_270_1279 <| yI_aload_n zi_270_1280 rfl <| yI_cs zi_270_1281 rfl rfl hK) (yBr (yI_aload_n zi_270_1329 rfl <| yI_aload_n zi_270_1330 rfl <| yI_iload zi_270_1331 rfl <| yI_iconst zi_270_1333 <| yI_iadd zi_270_1334 <| yI_scr zi_270_1335 <| yI_aload_n zi_270_1336 rfl <| yI_iload zi_270_1337 rfl <| yI_iconst zi_270_1339 <| yI_iadd zi_270_1340 <| yI_scr zi_270_1341 <| yI_aload_n zi_270_1342 rfl <| yI_cs zi_270_1343 rfl rfl hK) (yBr (yI_aload_n zi_270_1397 rfl <| yI_aload_n zi_270_1398 rfl <| yI_iload zi_270_1399 rfl <| yI_iconst zi_270_1401 <| yI_iadd zi_270_1402 <| yI_scr zi_270_1403 <| yI_cv zi_270_1404 rfl rfl zk_1 hK) (yI_iinc (l := [some (.inr (.inr 99999)), some (.inr (.inr 1)), some (.inr (.inr 122)), some (.inr (.inr 186)), some (.inl (w32 (x4 + 4))), o5, o6]) zi_270_1423 rfl rfl rfl <| yI_goto zi_270_1426 <| rfl))))))))))))))))))))))
theorem zr_270_169 {K : List zF} {σ : zW} {x4 : Int} {o5 : Option zV} {o6 : Option zV} {v : Int} (hK : K.length < 60) : zRet true ((270, 169, [some (.inr (.inr 99999)), some (.inr (.inr 1)), some (.inr (.inr 122)), some (.inr (.inr 186)), some (.inl x4), o5, o6], []) :: K) (some (.inl v)) σ = ((0 ≤ (w32 (x4 + 1)) ∧ (w32 (x4 + 1)) < (gI σ 99998 0)) ∧ ((0 ≤ (w32 (x4 + 2)) ∧ (w32 (x4 + 2)) < (gI σ 99998 0)) ∧ ((0 ≤ (w32 (x4 + 3)) ∧ (w32 (x4 + 3)) < (gI σ 99998 0)) ∧ zEv true (zent 170 [.inr (.inr 122), .inr (.inl ((zlshl (zi2l (gI σ 99999 (w32 (x4 + 1)).toNat)) 32) ||| ((zi2l (gI σ 99999 (w32 (x4 + 2)).toNat)) &&& 4294967295))), .inl (gI σ 99999 (w32 (x4 + 3)).toNat)] :: (270, 203, [some (.inr (.inr 99999)), some (.inr (.inr 1)), some (.inr (.inr 122)), some (.inr (.inr 186)), some (.inl x4), some (.inl v), o6], []) :: K) σ))) :=
  yT_rt (yI_istore (l := [some (.inr (.inr 99999)), some (.inr (.inr 1)), some (.inr (.inr 122)), some (.inr (.inr 186)), some (.inl x4), some (.inl v), o6]) zi_270_169 rfl rfl <| yI_aload_n zi_270_171 rfl <| yI_aload_n zi_270_172 rfl <| yI_iload zi_270_173 rfl <| yI_iconst zi_270_175 <| yI_iadd zi_270_176 <| yI_scr zi_270_177 <| yI_i2l zi_270_178 <| yI_bipush zi_270_179 <| yI_lshl zi_270_181 <| yI_aload_n zi_270_182 rfl <| yI_iload zi_270_183 rfl <| yI_iconst zi_270_185 <| yI_iadd zi_270_186 <| yI_scr zi_270_187 <| yI_i2l zi_270_188 <| yI_ldc2_w zi_270_189 <| yI_land zi_270_192 <| yI_lor zi_270_193 <| yI_aload_n zi_270_194 rfl <| yI_iload zi_270_195 rfl <| yI_iconst zi_270_197 <| yI_iadd zi_270_198 <| yI_scr zi_270_199 <| yI_cv zi_270_200 rfl rfl zk_122 hK)
theorem zr_270_247 {K : List zF} {σ : zW} {x4 : Int} {o5 : Option zV} {o6 : Option zV} {v : Int} (hK : K.length < 60) : zRet true ((270, 247, [some (.inr (.inr 99999)), some (.inr (.inr 1)), some (.inr (.inr 122)), some (.inr (.inr 186)), some (.inl x4), o5, o6], []) :: K) (some (.inl v)) σ = ((0 ≤ (w32 (x4 + 1)) ∧ (w32 (x4 + 1)) < (gI σ 99998 0)) ∧ zEv true (zent 173 [.inr (.inr 122), .inl (gI σ 99999 (w32 (x4 + 1)).toNat)] :: (270, 259, [some (.inr (.inr 99999)), some (.inr (.inr 1)), some (.inr (.inr 122)), some (.inr (.inr 186)), some (.inl x4), some (.inl v), o6], []) :: K) σ) :=
  yT_rt (yI_istore (l := [some (.inr (.inr 99999)), some (.inr (.inr 1)), some (.inr (.inr 122)), some (.inr (.inr 186)), some (.inl x4), some (.inl v), o6]) zi_270_247 rfl rfl <| yI_aload_n zi_270_249 rfl <| yI_aload_n zi_270_250 rfl <| yI_iload zi_270_251 rfl <| yI_iconst zi_270_253 <| yI_iadd zi_270_254 <| yI_scr zi_270_255 <| yI_cv zi_270_256 rfl rfl zk_122 hK)
theorem zr_270_297 {K : List zF} {σ : zW} {x4 : Int} {o5 : Option zV} {o6 : Option zV} {v : Int} (hK : K.length < 60) : zRet true ((270, 297, [some (.inr (.inr 99999)), some (.inr (.inr 1)), some (.inr (.inr 122)), some (.inr (.inr 186)), some (.inl x4), o5, o6], []) :: K) (some (.inl v)) σ = (zEv true (zent 174 [.inr (.inr 122)] :: (270, 303, [some (.inr (.inr 99999)), some (.inr (.inr 1)), some (.inr (.inr 122)), some (.inr (.inr 186)), some (.inl x4), some (.inl v), o6], []) :: K) σ) :=
  yT_rt (yI_istore (l := [some (.inr (.inr 99999)), some (.inr (.inr 1)), some (.inr (.inr 122)), some (.inr (.inr 186)), some (.inl x4), some (.inl v), o6]) zi_270_297 rfl rfl <| yI_aload_n zi_270_299 rfl <| yI_cv zi_270_300 rfl rfl zk_122 hK)
theorem zr_270_341 {K : List zF} {σ : zW} {x4 : Int} {o5 : Option zV} {o6 : Option zV} {v : Int} (hK : K.length < 60) : zRet true ((270, 341, [some (.inr (.inr 99999)), some (.inr (.inr 1)), some (.inr (.inr 122)), some (.inr (.inr 186)), some (.inl x4), o5, o6], []) :: K) (some (.inl v)) σ = (zEv true (zent 175 [.inr (.inr 122)] :: (270, 347, [some (.inr (.inr 99999)), some (.inr (.inr 1)), some (.inr (.inr 122)), some (.inr (.inr 186)), some (.inl x4), some (.inl v), o6], []) :: K) σ) :=
  yT_rt (yI_istore (l := [some (.inr (.inr 99999)), some (.inr (.inr 1)), some (.inr (.inr 122)), some (.inr (.inr 186)), some (.inl x4), some (.inl v), o6]) zi_270_341 rfl rfl <| yI_aload_n zi_270_343 rfl <| yI_cv zi_270_344 rfl rfl zk_122 hK)
theorem zr_270_398 {K : List zF} {σ : zW} {x4 : Int} {o5 : Option zV} {o6 : Option zV} {v : Int} (hK : K.length < 60) : zRet true ((270, 398, [some (.inr (.inr 99999)), some (.inr (.inr 1)), some (.inr (.inr 122)), some (.inr (.inr 186)), some (.inl x4), o5, o6], []) :: K) (some (.inl v)) σ = ((0 ≤ (w32 (x4 + 1)) ∧ (w32 (x4 + 1)) < (gI σ 99998 0)) ∧ zEv true (zent 176 [.inr (.inr 122), .inl (if (gI σ 99999 (w32 (x4 + 1)).toNat) = 0 then 0 else 1 : Int)] :: (270, 416, [some (.inr (.inr 99999)), some (.inr (.inr 1)), some (.inr (.inr 122)), some (.inr (.inr 186)), some (.inl x4), o5, o6], [.inl v]) :: K) σ) :=
  yT_rt (yI_aload_n zi_270_398 rfl <| yI_aload_n zi_270_399 rfl <| yI_iload zi_270_400 rfl <| yI_iconst zi_270_402 <| yI_iadd zi_270_403 <| yI_scr zi_270_404 <| yI_if_eq zi_270_405 <| yMi0 (j := 413) (ls2 := [some (.inr (.inr 99999)), some (.inr (.inr 1)), some (.inr (.inr 122)), some (.inr (.inr 186)), some (.inl x4), o5, o6]) (st2 := [.inr (.inr 122), .inl v]) (x := 0) (y := 1) (σ2 := σ) (yI_iconst zi_270_412 <| rfl) (yI_iconst zi_270_408 <| yI_goto zi_270_409 <| rfl) <| yI_cv zi_270_413 rfl rfl zk_122 hK)
theorem zr_270_432 {K : List zF} {σ : zW} {x4 : Int} {o5 : Option zV} {o6 : Option zV} {v : Int} (hK : K.length < 60) : zRet true ((270, 432, [some (.inr (.inr 99999)), some (.inr (.inr 1)), some (.inr (.inr 122)), some (.inr (.inr 186)), some (.inl x4), o5, o6], []) :: K) (some (.inl v)) σ = ((0 ≤ (w32 (x4 + 1)) ∧ (w32 (x4 + 1)) < (gI σ 99998 0)) ∧ zEv true (zent 177 [.inr (.inr 122), .inl (gI σ 99999 (w32 (x4 + 1)).toNat)] :: (270, 444, [some (.inr (.inr 99999)), some (.inr (.inr 1)), some (.inr (.inr 122)), some (.inr (.inr 186)), some (.inl x4), some (.inl v), o6], []) :: K) σ) :=
  yT_rt (yI_istore (l := [some (.inr (.inr 99999)), some (.inr (.inr 1)), some (.inr (.inr 122)), some (.inr (.inr 186)), some (.inl x4), some (.inl v), o6]) zi_270_432 rfl rfl <| yI_aload_n zi_270_434 rfl <| yI_aload_n zi_270_435 rfl <| yI_iload zi_270_436 rfl <| yI_iconst zi_270_438 <| yI_iadd zi_270_439 <| yI_scr zi_270_440 <| yI_cv zi_270_441 rfl rfl zk_122 hK)
theorem zr_270_494 {K : List zF} {σ : zW} {x4 : Int} {o5 : Option zV} {o6 : Option zV} {v : Int} (hK : K.length < 60) : zRet true ((270, 494, [some (.inr (.inr 99999)), some (.inr (.inr 1)), some (.inr (.inr 122)), some (.inr (.inr 186)), some (.inl x4), o5, o6], []) :: K) (some (.inl v)) σ = ((0 ≤ (w32 (x4 + 1)) ∧ (w32 (x4 + 1)) < (gI σ 99998 0)) ∧ ((0 ≤ (w32 (x4 + 2)) ∧ (w32 (x4 + 2)) < (gI σ 99998 0)) ∧ zEv true (zent 179 [.inr (.inr 122), .inl (gI σ 99999 (w32 (x4 + 1)).toNat), .inl (gI σ 99999 (w32 (x4 + 2)).toNat)] :: (270, 512, [some (.inr (.inr 99999)), some (.inr (.inr 1)), some (.inr (.inr 122)), some (.inr (.inr 186)), some (.inl x4), some (.inl v), o6], []) :: K) σ)) :=
  yT_rt (yI_istore (l := [some (.inr (.inr 99999)), some (.inr (.inr 1)), some (.inr (.inr 122)), some (.inr (.inr 186)), some (.inl x4), some (.inl v), o6]) zi_270_494 rfl rfl <| yI_aload_n zi_270_496 rfl <| yI_aload_n zi_270_497 rfl <| yI_iload zi_270_498 rfl <| yI_iconst zi_270_500 <| yI_iadd zi_270_501 <| yI_scr zi_270_502 <| yI_aload_n zi_270_503 rfl <| yI_iload zi_270_504 rfl <| yI_iconst zi_270_506 <| yI_iadd zi_270_507 <| yI_scr zi_270_508 <| yI_cv zi_270_509 rfl rfl zk_122 hK)
theorem zr_270_562 {K : List zF} {σ : zW} {x4 : Int} {o5 : Option zV} {o6 : Option zV} {v : Int} (hK : K.length < 60) : zRet true ((270, 562, [some (.inr (.inr 99999)), some (.inr (.inr 1)), some (.inr (.inr 122)), some (.inr (.inr 186)), some (.inl x4), o5, o6], []) :: K) (some (.inl v)) σ = ((0 ≤ (w32 (x4 + 1)) ∧ (w32 (x4 + 1)) < (gI σ 99998 0)) ∧ ((0 ≤ (w32 (x4 + 2)) ∧ (w32 (x4 + 2)) < (gI σ 99998 0)) ∧ zEv true (zent 184 [.inr (.inr 122), .inl (gI σ 99999 (w32 (x4 + 1)).toNat), .inl (gI σ 99999 (w32 (x4 + 2)).toNat)] :: (270, 580, [some (.inr (.inr 99999)), some (.inr (.inr 1)), some (.inr (.inr 122)), some (.inr (.inr 186)), some (.inl x4), some (.inl v), o6], []) :: K) σ)) :=
  yT_rt (yI_istore (l := [some (.inr (.inr 99999)), some (.inr (.inr 1)), some (.inr (.inr 122)), some (.inr (.inr 186)), some (.inl x4), some (.inl v), o6]) zi_270_562 rfl rfl <| yI_aload_n zi_270_564 rfl <| yI_aload_n zi_270_565 rfl <| yI_iload zi_270_566 rfl <| yI_iconst zi_270_568 <| yI_iadd zi_270_569 <| yI_scr zi_270_570 <| yI_aload_n zi_270_571 rfl <| yI_iload zi_270_572 rfl <| yI_iconst zi_270_574 <| yI_iadd zi_270_575 <| yI_scr zi_270_576 <| yI_cv zi_270_577 rfl rfl zk_122 hK)
theorem zr_270_644 {K : List zF} {σ : zW} {x4 : Int} {o5 : Option zV} {o6 : Option zV} {v : Int} (hK : K.length < 60) : zRet true ((270, 644, [some (.inr (.inr 99999)), some (.inr (.inr 1)), some (.inr (.inr 122)), some (.inr (.inr 186)), some (.inl x4), o5, o6], []) :: K) (some (.inl v)) σ = ((0 ≤ (w32 (x4 + 1)) ∧ (w32 (x4 + 1)) < (gI σ 99998 0)) ∧ ((0 ≤ (w32 (x4 + 2)) ∧ (w32 (x4 + 2)) < (gI σ 99998 0)) ∧ ((0 ≤ (w32 (x4 + 3)) ∧ (w32 (x4 + 3)) < (gI σ 99998 0)) ∧ zEv true (zent 185 [.inr (.inr 122), .inl (gI σ 99999 (w32 (x4 + 1)).toNat), .inl (gI σ 99999 (w32 (x4 + 2)).toNat), .inl (if (gI σ 99999 (w32 (x4 + 3)).toNat) = 0 then 0 else 1 : Int)] :: (270, 676, [some (.inr (.inr 99999)), some (.inr (.inr 1)), some (.inr (.inr 122)), some (.inr (.inr 186)), some (.inl x4), some (.inl v), o6], []) :: K) σ))) :=
  yT_rt (yI_istore (l := [some (.inr (.inr 99999)), some (.inr (.inr 1)), some (.inr (.inr 122)), some (.inr (.inr 186)), some (.inl x4), some (.inl v), o6]) zi_270_644 rfl rfl <| yI_aload_n zi_270_646 rfl <| yI_aload_n zi_270_647 rfl <| yI_iload zi_270_648 rfl <| yI_iconst zi_270_650 <| yI_iadd zi_270_651 <| yI_scr zi_270_652 <| yI_aload_n zi_270_653 rfl <| yI_iload zi_270_654 rfl <| yI_iconst zi_270_656 <| yI_iadd zi_270_657 <| yI_scr zi_270_658 <| yI_aload_n zi_270_659 rfl <| yI_iload zi_270_660 rfl <| yI_iconst zi_270_662 <| yI_iadd zi_270_663 <| yI_scr zi_270_664 <| yI_if_eq zi_270_665 <| yMi0 (j := 673) (ls2 := [some (.inr (.inr 99999)), some (.inr (.inr 1)), some (.inr (.inr 122)), some (.inr (.inr 186)), some (.inl x4), some (.inl v), o6]) (st2 := [.inl (gI σ 99999 (w32 (x4 + 2)).toNat), .inl (gI σ 99999 (w32 (x4 + 1)).toNat), .inr (.inr 122)]) (x := 0) (y := 1) (σ2 := σ) (yI_iconst zi_270_672 <| rfl) (yI_iconst zi_270_668 <| yI_goto zi_270_669 <| rfl) <| yI_cv zi_270_673 rfl rfl zk_122 hK)
theorem zr_270_720 {K : List zF} {σ : zW} {x4 : Int} {o5 : Option zV} {o6 : Option zV} {v : Int} (hK : K.length < 60) : zRet true ((270, 720, [some (.inr (.inr 99999)), some (.inr (.inr 1)), some (.inr (.inr 122)), some (.inr (.inr 186)), some (.inl x4), o5, o6], []) :: K) (some (.inl v)) σ = ((0 ≤ (w32 (x4 + 1)) ∧ (w32 (x4 + 1)) < (gI σ 99998 0)) ∧ zEv true (zent 187 [.inr (.inr 122), .inl (gI σ 99999 (w32 (x4 + 1)).toNat)] :: (270, 732, [some (.inr (.inr 99999)), some (.inr (.inr 1)), some (.inr (.inr 122)), some (.inr (.inr 186)), some (.inl x4), some (.inl v), o6], []) :: K) σ) :=
  yT_rt (yI_istore (l := [some (.inr (.inr 99999)), some (.inr (.inr 1)), some (.inr (.inr 122)), some (.inr (.inr 186)), some (.inl x4), some (.inl v), o6]) zi_270_720 rfl rfl <| yI_aload_n zi_270_722 rfl <| yI_aload_n zi_270_723 rfl <| yI_iload zi_270_724 rfl <| yI_iconst zi_270_726 <| yI_iadd zi_270_727 <| yI_scr zi_270_728 <| yI_cv zi_270_729 rfl rfl zk_122 hK)
theorem zr_270_776 {K : List zF} {σ : zW} {x4 : Int} {o5 : Option zV} {o6 : Option zV} {v : Int} (hK : K.length < 60) : zRet true ((270, 776, [some (.inr (.inr 99999)), some (.inr (.inr 1)), some (.inr (.inr 122)), some (.inr (.inr 186)), some (.inl x4), o5, o6], []) :: K) (some (.inl v)) σ = ((0 ≤ (w32 (x4 + 1)) ∧ (w32 (x4 + 1)) < (gI σ 99998 0)) ∧ zEv true (zent 188 [.inr (.inr 122), .inl (gI σ 99999 (w32 (x4 + 1)).toNat)] :: (270, 788, [some (.inr (.inr 99999)), some (.inr (.inr 1)), some (.inr (.inr 122)), some (.inr (.inr 186)), some (.inl x4), some (.inl v), o6], []) :: K) σ) :=
  yT_rt (yI_istore (l := [some (.inr (.inr 99999)), some (.inr (.inr 1)), some (.inr (.inr 122)), some (.inr (.inr 186)), some (.inl x4), some (.inl v), o6]) zi_270_776 rfl rfl <| yI_aload_n zi_270_778 rfl <| yI_aload_n zi_270_779 rfl <| yI_iload zi_270_780 rfl <| yI_iconst zi_270_782 <| yI_iadd zi_270_783 <| yI_scr zi_270_784 <| yI_cv zi_270_785 rfl rfl zk_122 hK)
theorem zr_270_832 {K : List zF} {σ : zW} {x4 : Int} {o5 : Option zV} {o6 : Option zV} {v : Int} (hK : K.length < 60) : zRet true ((270, 832, [some (.inr (.inr 99999)), some (.inr (.inr 1)), some (.inr (.inr 122)), some (.inr (.inr 186)), some (.inl x4), o5, o6], []) :: K) (some (.inl v)) σ = ((0 ≤ (w32 (x4 + 1)) ∧ (w32 (x4 + 1)) < (gI σ 99998 0)) ∧ zEv true (zent 208 [.inr (.inr 122), .inl (gI σ 99999 (w32 (x4 + 1)).toNat)] :: (270, 844, [some (.inr (.inr 99999)), some (.inr (.inr 1)), some (.inr (.inr 122)), some (.inr (.inr 186)), some (.inl x4), some (.inl v), o6], []) :: K) σ) :=
  yT_rt (yI_istore (l := [some (.inr (.inr 99999)), some (.inr (.inr 1)), some (.inr (.inr 122)), some (.inr (.inr 186)), some (.inl x4), some (.inl v), o6]) zi_270_832 rfl rfl <| yI_aload_n zi_270_834 rfl <| yI_aload_n zi_270_835 rfl <| yI_iload zi_270_836 rfl <| yI_iconst zi_270_838 <| yI_iadd zi_270_839 <| yI_scr zi_270_840 <| yI_cv zi_270_841 rfl rfl zk_122 hK)
theorem zr_270_888 {K : List zF} {σ : zW} {x4 : Int} {o5 : Option zV} {o6 : Option zV} {v : Int} (hK : K.length < 60) : zRet true ((270, 888, [some (.inr (.inr 99999)), some (.inr (.inr 1)), some (.inr (.inr 122)), some (.inr (.inr 186)), some (.inl x4), o5, o6], []) :: K) (some (.inl v)) σ = ((0 ≤ (w32 (x4 + 1)) ∧ (w32 (x4 + 1)) < (gI σ 99998 0)) ∧ zEv true (zent 209 [.inr (.inr 122), .inl (gI σ 99999 (w32 (x4 + 1)).toNat)] :: (270, 900, [some (.inr (.inr 99999)), some (.inr (.inr 1)), some (.inr (.inr 122)), some (.inr (.inr 186)), some (.inl x4), some (.inl v), o6], []) :: K) σ) :=
  yT_rt (yI_istore (l := [some (.inr (.inr 99999)), some (.inr (.inr 1)), some (.inr (.inr 122)), some (.inr (.inr 186)), some (.inl x4), some (.inl v), o6]) zi_270_888 rfl rfl <| yI_aload_n zi_270_890 rfl <| yI_aload_n zi_270_891 rfl <| yI_iload zi_270_892 rfl <| yI_iconst zi_270_894 <| yI_iadd zi_270_895 <| yI_scr zi_270_896 <| yI_cv zi_270_897 rfl rfl zk_122 hK)
theorem zr_270_956 {K : List zF} {σ : zW} {x4 : Int} {o5 : Option zV} {o6 : Option zV} {v : Int} (hK : K.length < 60) : zRet true ((270, 956, [some (.inr (.inr 99999)), some (.inr (.inr 1)), some (.inr (.inr 122)), some (.inr (.inr 186)), some (.inl x4), o5, o6], []) :: K) (some (.inl v)) σ = ((0 ≤ (w32 (x4 + 1)) ∧ (w32 (x4 + 1)) < (gI σ 99998 0)) ∧ ((0 ≤ (w32 (x4 + 2)) ∧ (w32 (x4 + 2)) < (gI σ 99998 0)) ∧ ((0 ≤ (w32 (x4 + 3)) ∧ (w32 (x4 + 3)) < (gI σ 99998 0)) ∧ zEv true (zent 212 [.inr (.inr 122), .inl (gI σ 99999 (w32 (x4 + 1)).toNat), .inl (gI σ 99999 (w32 (x4 + 2)).toNat), .inl (gI σ 99999 (w32 (x4 + 3)).toNat)] :: (270, 980, [some (.inr (.inr 99999)), some (.inr (.inr 1)), some (.inr (.inr 122)), some (.inr (.inr 186)), some (.inl x4), some (.inl v), o6], []) :: K) σ))) :=
  yT_rt (yI_istore (l := [some (.inr (.inr 99999)), some (.inr (.inr 1)), some (.inr (.inr 122)), some (.inr (.inr 186)), some (.inl x4), some (.inl v), o6]) zi_270_956 rfl rfl <| yI_aload_n zi_270_958 rfl <| yI_aload_n zi_270_959 rfl <| yI_iload zi_270_960 rfl <| yI_iconst zi_270_962 <| yI_iadd zi_270_963 <| yI_scr zi_270_964 <| yI_aload_n zi_270_965 rfl <| yI_iload zi_270_966 rfl <| yI_iconst zi_270_968 <| yI_iadd zi_270_969 <| yI_scr zi_270_970 <| yI_aload_n zi_270_971 rfl <| yI_iload zi_270_972 rfl <| yI_iconst zi_270_974 <| yI_iadd zi_270_975 <| yI_scr zi_270_976 <| yI_cv zi_270_977 rfl rfl zk_122 hK)
theorem zr_270_1036 {K : List zF} {σ : zW} {x4 : Int} {o5 : Option zV} {o6 : Option zV} {v : Int} (hK : K.length < 60) : zRet true ((270, 1036, [some (.inr (.inr 99999)), some (.inr (.inr 1)), some (.inr (.inr 122)), some (.inr (.inr 186)), some (.inl x4), o5, o6], []) :: K) (some (.inl v)) σ = ((0 ≤ (w32 (x4 + 1)) ∧ (w32 (x4 + 1)) < (gI σ 99998 0)) ∧ ((0 ≤ (w32 (x4 + 2)) ∧ (w32 (x4 + 2)) < (gI σ 99998 0)) ∧ ((0 ≤ (w32 (x4 + 3)) ∧ (w32 (x4 + 3)) < (gI σ 99998 0)) ∧ zEv true (zent 213 [.inr (.inr 122), .inl (gI σ 99999 (w32 (x4 + 1)).toNat), .inl (gI σ 99999 (w32 (x4 + 2)).toNat), .inl (gI σ 99999 (w32 (x4 + 3)).toNat)] :: (270, 1060, [some (.inr (.inr 99999)), some (.inr (.inr 1)), some (.inr (.inr 122)), some (.inr (.inr 186)), some (.inl x4), some (.inl v), o6], []) :: K) σ))) :=
  yT_rt (yI_istore (l := [some (.inr (.inr 99999)), some (.inr (.inr 1)), some (.inr (.inr 122)), some (.inr (.inr 186)), some (.inl x4), some (.inl v), o6]) zi_270_1036 rfl rfl <| yI_aload_n zi_270_1038 rfl <| yI_aload_n zi_270_1039 rfl <| yI_iload zi_270_1040 rfl <| yI_iconst zi_270_1042 <| yI_iadd zi_270_1043 <| yI_scr zi_270_1044 <| yI_aload_n zi_270_1045 rfl <| yI_iload zi_270_1046 rfl <| yI_iconst zi_270_1048 <| yI_iadd zi_270_1049 <| yI_scr zi_270_1050 <| yI_aload_n zi_270_1051 rfl <| yI_iload zi_270_1052 rfl <| yI_iconst zi_270_1054 <| yI_iadd zi_270_1055 <| yI_scr zi_270_1056 <| yI_cv zi_270_1057 rfl rfl zk_122 hK)
theorem zr_270_1110 {K : List zF} {σ : zW} {x4 : Int} {o5 : Option zV} {o6 : Option zV} {v : Int} (hK : K.length < 60) : zRet true ((270, 1110, [some (.inr (.inr 99999)), some (.inr (.inr 1)), some (.inr (.inr 122)), some (.inr (.inr 186)), some (.inl x4), o5, o6], []) :: K) (some (.inl v)) σ = ((0 ≤ (w32 (x4 + 1)) ∧ (w32 (x4 + 1)) < (gI σ 99998 0)) ∧ ((0 ≤ (w32 (x4 + 2)) ∧ (w32 (x4 + 2)) < (gI σ 99998 0)) ∧ zEv true (zent 220 [.inr (.inr 122), .inl (gI σ 99999 (w32 (x4 + 1)).toNat), .inl (gI σ 99999 (w32 (x4 + 2)).toNat)] :: (270, 1128, [some (.inr (.inr 99999)), some (.inr (.inr 1)), some (.inr (.inr 122)), some (.inr (.inr 186)), some (.inl x4), some (.inl v), o6], []) :: K) σ)) :=
  yT_rt (yI_istore (l := [some (.inr (.inr 99999)), some (.inr (.inr 1)), some (.inr (.inr 122)), some (.inr (.inr 186)), some (.inl x4), some (.inl v), o6]) zi_270_1110 rfl rfl <| yI_aload_n zi_270_1112 rfl <| yI_aload_n zi_270_1113 rfl <| yI_iload zi_270_1114 rfl <| yI_iconst zi_270_1116 <| yI_iadd zi_270_1117 <| yI_scr zi_270_1118 <| yI_aload_n zi_270_1119 rfl <| yI_iload zi_270_1120 rfl <| yI_iconst zi_270_1122 <| yI_iadd zi_270_1123 <| yI_scr zi_270_1124 <| yI_cv zi_270_1125 rfl rfl zk_122 hK)
theorem zr_270_1172 {K : List zF} {σ : zW} {x4 : Int} {o5 : Option zV} {o6 : Option zV} {v : Int} (hK : K.length < 60) : zRet true ((270, 1172, [some (.inr (.inr 99999)), some (.inr (.inr 1)), some (.inr (.inr 122)), some (.inr (.inr 186)), some (.inl x4), o5, o6], []) :: K) (some (.inl v)) σ = ((0 ≤ (w32 (x4 + 1)) ∧ (w32 (x4 + 1)) < (gI σ 99998 0)) ∧ zEv true (zent 240 [.inr (.inr 122), .inl (gI σ 99999 (w32 (x4 + 1)).toNat)] :: (270, 1184, [some (.inr (.inr 99999)), some (.inr (.inr 1)), some (.inr (.inr 122)), some (.inr (.inr 186)), some (.inl x4), some (.inl v), o6], []) :: K) σ) :=
  yT_rt (yI_istore (l := [some (.inr (.inr 99999)), some (.inr (.inr 1)), some (.inr (.inr 122)), some (.inr (.inr 186)), some (.inl x4), some (.inl v), o6]) zi_270_1172 rfl rfl <| yI_aload_n zi_270_1174 rfl <| yI_aload_n zi_270_1175 rfl <| yI_iload zi_270_1176 rfl <| yI_iconst zi_270_1178 <| yI_iadd zi_270_1179 <| yI_scr zi_270_1180 <| yI_cv zi_270_1181 rfl rfl zk_122 hK)
theorem zr_270_1228 {K : List zF} {σ : zW} {x4 : Int} {o5 : Option zV} {o6 : Option zV} {v : Int} (hK : K.length < 60) : zRet true ((270, 1228, [some (.inr (.inr 99999)), some (.inr (.inr 1)), some (.inr (.inr 122)), some (.inr (.inr 186)), some (.inl x4), o5, o6], []) :: K) (some (.inl v)) σ = ((0 ≤ (w32 (x4 + 1)) ∧ (w32 (x4 + 1)) < (gI σ 99998 0)) ∧ zEv true (zent 245 [.inr (.inr 122), .inl (gI σ 99999 (w32 (x4 + 1)).toNat)] :: (270, 1240, [some (.inr (.inr 99999)), some (.inr (.inr 1)), some (.inr (.inr 122)), some (.inr (.inr 186)), some (.inl x4), some (.inl v), o6], []) :: K) σ) :=
  yT_rt (yI_istore (l := [some (.inr (.inr 99999)), some (.inr (.inr 1)), some (.inr (.inr 122)), some (.inr (.inr 186)), some (.inl x4), some (.inl v), o6]) zi_270_1228 rfl rfl <| yI_aload_n zi_270_1230 rfl <| yI_aload_n zi_270_1231 rfl <| yI_iload zi_270_1232 rfl <| yI_iconst zi_270_1234 <| yI_iadd zi_270_1235 <| yI_scr zi_270_1236 <| yI_cv zi_270_1237 rfl rfl zk_122 hK)
theorem zr_270_1284 {K : List zF} {σ : zW} {x4 : Int} {o5 : Option zV} {o6 : Option zV} {v : Int} (hK : K.length < 60) : zRet true ((270, 1284, [some (.inr (.inr 99999)), some (.inr (.inr 1)), some (.inr (.inr 122)), some (.inr (.inr 186)), some (.inl x4), o5, o6], []) :: K) (some (.inl v)) σ = ((0 ≤ (w32 (x4 + 1)) ∧ (w32 (x4 + 1)) < (gI σ 99998 0)) ∧ zEv true (zent 248 [.inr (.inr 122), .inl (gI σ 99999 (w32 (x4 + 1)).toNat)] :: (270, 1296, [some (.inr (.inr 99999)), some (.inr (.inr 1)), some (.inr (.inr 122)), some (.inr (.inr 186)), some (.inl x4), some (.inl v), o6], []) :: K) σ) :=
  yT_rt (yI_istore (l := [some (.inr (.inr 99999)), some (.inr (.inr 1)), some (.inr (.inr 122)), some (.inr (.inr 186)), some (.inl x4), some (.inl v), o6]) zi_270_1284 rfl rfl <| yI_aload_n zi_270_1286 rfl <| yI_aload_n zi_270_1287 rfl <| yI_iload zi_270_1288 rfl <| yI_iconst zi_270_1290 <| yI_iadd zi_270_1291 <| yI_scr zi_270_1292 <| yI_cv zi_270_1293 rfl rfl zk_122 hK)
theorem zr_270_1346 {K : List zF} {σ : zW} {x4 : Int} {o5 : Option zV} {o6 : Option zV} {v : Int} (hK : K.length < 60) : zRet true ((270, 1346, [some (.inr (.inr 99999)), some (.inr (.inr 1)), some (.inr (.inr 122)), some (.inr (.inr 186)), some (.inl x4), o5, o6], []) :: K) (some (.inl v)) σ = ((0 ≤ (w32 (x4 + 1)) ∧ (w32 (x4 + 1)) < (gI σ 99998 0)) ∧ ((0 ≤ (w32 (x4 + 2)) ∧ (w32 (x4 + 2)) < (gI σ 99998 0)) ∧ zEv true (zent 249 [.inr (.inr 122), .inl (gI σ 99999 (w32 (x4 + 1)).toNat), .inl (gI σ 99999 (w32 (x4 + 2)).toNat)] :: (270, 1364, [some (.inr (.inr 99999)), some (.inr (.inr 1)), some (.inr (.inr 122)), some (.inr (.inr 186)), some (.inl x4), some (.inl v), o6], []) :: K) σ)) :=
  yT_rt (yI_istore (l := [some (.inr (.inr 99999)), some (.inr (.inr 1)), some (.inr (.inr 122)), some (.inr (.inr 186)), some (.inl x4), some (.inl v), o6]) zi_270_1346 rfl rfl <| yI_aload_n zi_270_1348 rfl <| yI_aload_n zi_270_1349 rfl <| yI_iload zi_270_1350 rfl <| yI_iconst zi_270_1352 <| yI_iadd zi_270_1353 <| yI_scr zi_270_1354 <| yI_aload_n zi_270_1355 rfl <| yI_iload zi_270_1356 rfl <| yI_iconst zi_270_1358 <| yI_iadd zi_270_1359 <| yI_scr zi_270_1360 <| yI_cv zi_270_1361 rfl rfl zk_122 hK)
theorem zr_270_1407 {K : List zF} {σ : zW} {x4 : Int} {o5 : Option zV} {o6 : Option zV} {v : Int64} (hK : K.length < 60) : zRet true ((270, 1407, [some (.inr (.inr 99999)), some (.inr (.inr 1)), some (.inr (.inr 122)), some (.inr (.inr 186)), some (.inl x4), o5, o6], []) :: K) (some (.inr (.inl v))) σ = ((0 ≤ (w32 (x4 + 1)) ∧ (w32 (x4 + 1)) < (gI σ 99998 0)) ∧ zEv true (zent 250 [.inr (.inr 122), .inl (gI σ 99999 (w32 (x4 + 1)).toNat)] :: (270, 1417, [some (.inr (.inr 99999)), some (.inr (.inr 1)), some (.inr (.inr 122)), some (.inr (.inr 186)), some (.inl x4), o5, o6], [.inr (.inl v)]) :: K) σ) :=
  yT_rt (yI_aload_n zi_270_1407 rfl <| yI_aload_n zi_270_1408 rfl <| yI_iload zi_270_1409 rfl <| yI_iconst zi_270_1411 <| yI_iadd zi_270_1412 <| yI_scr zi_270_1413 <| yI_cv zi_270_1414 rfl rfl zk_122 hK)
theorem zr_270_203 {K : List zF} {σ : zW} {x4 : Int} {x5 : Int} {o6 : Option zV} {v : Int} (hK : K.length < 60) : zRet true ((270, 203, [some (.inr (.inr 99999)), some (.inr (.inr 1)), some (.inr (.inr 122)), some (.inr (.inr 186)), some (.inl x4), some (.inl x5), o6], []) :: K) (some (.inl v)) σ = (zEv true (zent 140 [.inr (.inr 122)] :: (270, 209, [some (.inr (.inr 99999)), some (.inr (.inr 1)), some (.inr (.inr 122)), some (.inr (.inr 186)), some (.inl x4), some (.inl x5), some (.inl v)], []) :: K) σ) :=
  yT_rt (yI_istore (l := [some (.inr (.inr 99999)), some (.inr (.inr 1)), some (.inr (.inr 122)), some (.inr (.inr 186)), some (.inl x4), some (.inl x5), some (.inl v)]) zi_270_203 rfl rfl <| yI_aload_n zi_270_205 rfl <| yI_cv zi_270_206 rfl rfl zk_122 hK)
theorem zr_270_259 {K : List zF} {σ : zW} {x4 : Int} {x5 : Int} {o6 : Option zV} {v : Int} (hK : K.length < 60) : zRet true ((270, 259, [some (.inr (.inr 99999)), some (.inr (.inr 1)), some (.inr (.inr 122)), some (.inr (.inr 186)), some (.inl x4), some (.inl x5), o6], []) :: K) (some (.inl v)) σ = (zEv true (zent 140 [.inr (.inr 122)] :: (270, 265, [some (.inr (.inr 99999)), some (.inr (.inr 1)), some (.inr (.inr 122)), some (.inr (.inr 186)), some (.inl x4), some (.inl x5), some (.inl v)], []) :: K) σ) :=
  yT_rt (yI_istore (l := [some (.inr (.inr 99999)), some (.inr (.inr 1)), some (.inr (.inr 122)), some (.inr (.inr 186)), some (.inl x4), some (.inl x5), some (.inl v)]) zi_270_259 rfl rfl <| yI_aload_n zi_270_261 rfl <| yI_cv zi_270_262 rfl rfl zk_122 hK)
theorem zr_270_303 {K : List zF} {σ : zW} {x4 : Int} {x5 : Int} {o6 : Option zV} {v : Int} (hK : K.length < 60) : zRet true ((270, 303, [some (.inr (.inr 99999)), some (.inr (.inr 1)), some (.inr (.inr 122)), some (.inr (.inr 186)), some (.inl x4), some (.inl x5), o6], []) :: K) (some (.inl v)) σ = (zEv true (zent 140 [.inr (.inr 122)] :: (270, 309, [some (.inr (.inr 99999)), some (.inr (.inr 1)), some (.inr (.inr 122)), some (.inr (.inr 186)), some (.inl x4), some (.inl x5), some (.inl v)], []) :: K) σ) :=
  yT_rt (yI_istore (l := [some (.inr (.inr 99999)), some (.inr (.inr 1)), some (.inr (.inr 122)), some (.inr (.inr 186)), some (.inl x4), some (.inl x5), some (.inl v)]) zi_270_303 rfl rfl <| yI_aload_n zi_270_305 rfl <| yI_cv zi_270_306 rfl rfl zk_122 hK)
theorem zr_270_347 {K : List zF} {σ : zW} {x4 : Int} {x5 : Int} {o6 : Option zV} {v : Int} (hK : K.length < 60) : zRet true ((270, 347, [some (.inr (.inr 99999)), some (.inr (.inr 1)), some (.inr (.inr 122)), some (.inr (.inr 186)), some (.inl x4), some (.inl x5), o6], []) :: K) (some (.inl v)) σ = (zEv true (zent 140 [.inr (.inr 122)] :: (270, 353, [some (.inr (.inr 99999)), some (.inr (.inr 1)), some (.inr (.inr 122)), some (.inr (.inr 186)), some (.inl x4), some (.inl x5), some (.inl v)], []) :: K) σ) :=
  yT_rt (yI_istore (l := [some (.inr (.inr 99999)), some (.inr (.inr 1)), some (.inr (.inr 122)), some (.inr (.inr 186)), some (.inl x4), some (.inl x5), some (.inl v)]) zi_270_347 rfl rfl <| yI_aload_n zi_270_349 rfl <| yI_cv zi_270_350 rfl rfl zk_122 hK)
theorem zr_270_416 {K : List zF} {σ : zW} {x4 : Int} {o5 : Option zV} {o6 : Option zV} {s0 : Int} {v : Int} : zRet true ((270, 416, [some (.inr (.inr 99999)), some (.inr (.inr 1)), some (.inr (.inr 122)), some (.inr (.inr 186)), some (.inl x4), o5, o6], [.inl s0]) :: K) (some (.inl v)) σ = (if s0 = v then zEv true ((270, 23, [some (.inr (.inr 99999)), some (.inr (.inr 1)), some (.inr (.inr 122)), some (.inr (.inr 186)), some (.inl (w32 (x4 + 4))), o5, o6], []) :: K) σ else zRet true K (some (.inl 0)) σ) :=
  yT_rt (yI_ic_eq zi_270_416 <| yBr (yI_iinc (l := [some (.inr (.inr 99999)), some (.inr (.inr 1)), some (.inr (.inr 122)), some (.inr (.inr 186)), some (.inl (w32 (x4 + 4))), o5, o6]) zi_270_1423 rfl rfl rfl <| yI_goto zi_270_1426 <| rfl) (yI_iconst zi_270_419 <| yI_zreturn zi_270_420 (by decide)))
theorem zr_270_444 {K : List zF} {σ : zW} {x4 : Int} {x5 : Int} {o6 : Option zV} {v : Int} (hK : K.length < 60) : zRet true ((270, 444, [some (.inr (.inr 99999)), some (.inr (.inr 1)), some (.inr (.inr 122)), some (.inr (.inr 186)), some (.inl x4), some (.inl x5), o6], []) :: K) (some (.inl v)) σ = (zEv true (zent 140 [.inr (.inr 122)] :: (270, 450, [some (.inr (.inr 99999)), some (.inr (.inr 1)), some (.inr (.inr 122)), some (.inr (.inr 186)), some (.inl x4), some (.inl x5), some (.inl v)], []) :: K) σ) :=
  yT_rt (yI_istore (l := [some (.inr (.inr 99999)), some (.inr (.inr 1)), some (.inr (.inr 122)), some (.inr (.inr 186)), some (.inl x4), some (.inl x5), some (.inl v)]) zi_270_444 rfl rfl <| yI_aload_n zi_270_446 rfl <| yI_cv zi_270_447 rfl rfl zk_122 hK)
theorem zr_270_512 {K : List zF} {σ : zW} {x4 : Int} {x5 : Int} {o6 : Option zV} {v : Int} (hK : K.length < 60) : zRet true ((270, 512, [some (.inr (.inr 99999)), some (.inr (.inr 1)), some (.inr (.inr 122)), some (.inr (.inr 186)), some (.inl x4), some (.inl x5), o6], []) :: K) (some (.inl v)) σ = (zEv true (zent 140 [.inr (.inr 122)] :: (270, 518, [some (.inr (.inr 99999)), some (.inr (.inr 1)), some (.inr (.inr 122)), some (.inr (.inr 186)), some (.inl x4), some (.inl x5), some (.inl v)], []) :: K) σ) :=
  yT_rt (yI_istore (l := [some (.inr (.inr 99999)), some (.inr (.inr 1)), some (.inr (.inr 122)), some (.inr (.inr 186)), some (.inl x4), some (.inl x5), some (.inl v)]) zi_270_512 rfl rfl <| yI_aload_n zi_270_514 rfl <| yI_cv zi_270_515 rfl rfl zk_122 hK)
theorem zr_270_580 {K : List zF} {σ : zW} {x4 : Int} {x5 : Int} {o6 : Option zV} {v : Int} (hK : K.length < 60) : zRet true ((270, 580, [some (.inr (.inr 99999)), some (.inr (.inr 1)), some (.inr (.inr 122)), some (.inr (.inr 186)), some (.inl x4), some (.inl x5), o6], []) :: K) (some (.inl v)) σ = (zEv true (zent 140 [.inr (.inr 122)] :: (270, 586, [some (.inr (.inr 99999)), some (.inr (.inr 1)), some (.inr (.inr 122)), some (.inr (.inr 186)), some (.inl x4), some (.inl x5), some (.inl v)], []) :: K) σ) :=
  yT_rt (yI_istore (l := [some (.inr (.inr 99999)), some (.inr (.inr 1)), some (.inr (.inr 122)), some (.inr (.inr 186)), some (.inl x4), some (.inl x5), some (.inl v)]) zi_270_580 rfl rfl <| yI_aload_n zi_270_582 rfl <| yI_cv zi_270_583 rfl rfl zk_122 hK)
theorem zr_270_676 {K : List zF} {σ : zW} {x4 : Int} {x5 : Int} {o6 : Option zV} {v : Int} (hK : K.length < 60) : zRet true ((270, 676, [some (.inr (.inr 99999)), some (.inr (.inr 1)), some (.inr (.inr 122)), some (.inr (.inr 186)), some (.inl x4), some (.inl x5), o6], []) :: K) (some (.inl v)) σ = (zEv true (zent 140 [.inr (.inr 122)] :: (270, 682, [some (.inr (.inr 99999)), some (.inr (.inr 1)), some (.inr (.inr 122)), some (.inr (.inr 186)), some (.inl x4), some (.inl x5), some (.inl v)], []) :: K) σ) :=
  yT_rt (yI_istore (l := [some (.inr (.inr 99999)), some (.inr (.inr 1)), some (.inr (.inr 122)), some (.inr (.inr 186)), some (.inl x4), some (.inl x5), some (.inl v)]) zi_270_676 rfl rfl <| yI_aload_n zi_270_678 rfl <| yI_cv zi_270_679 rfl rfl zk_122 hK)
theorem zr_270_732 {K : List zF} {σ : zW} {x4 : Int} {x5 : Int} {o6 : Option zV} {v : Int} (hK : K.length < 60) : zRet true ((270, 732, [some (.inr (.inr 99999)), some (.inr (.inr 1)), some (.inr (.inr 122)), some (.inr (.inr 186)), some (.inl x4), some (.inl x5), o6], []) :: K) (some (.inl v)) σ = (zEv true (zent 140 [.inr (.inr 122)] :: (270, 738, [some (.inr (.inr 99999)), some (.inr (.inr 1)), some (.inr (.inr 122)), some (.inr (.inr 186)), some (.inl x4), some (.inl x5), some (.inl v)], []) :: K) σ) :=
  yT_rt (yI_istore (l := [some (.inr (.inr 99999)), some (.inr (.inr 1)), some (.inr (.inr 122)), some (.inr (.inr 186)), some (.inl x4), some (.inl x5), some (.inl v)]) zi_270_732 rfl rfl <| yI_aload_n zi_270_734 rfl <| yI_cv zi_270_735 rfl rfl zk_122 hK)
theorem zr_270_788 {K : List zF} {σ : zW} {x4 : Int} {x5 : Int} {o6 : Option zV} {v : Int} (hK : K.length < 60) : zRet true ((270, 788, [some (.inr (.inr 99999)), some (.inr (.inr 1)), some (.inr (.inr 122)), some (.inr (.inr 186)), some (.inl x4), some (.inl x5), o6], []) :: K) (some (.inl v)) σ = (zEv true (zent 140 [.inr (.inr 122)] :: (270, 794, [some (.inr (.inr 99999)), some (.inr (.inr 1)), some (.inr (.inr 122)), some (.inr (.inr 186)), some (.inl x4), some (.inl x5), some (.inl v)], []) :: K) σ) :=
  yT_rt (yI_istore (l := [some (.inr (.inr 99999)), some (.inr (.inr 1)), some (.inr (.inr 122)), some (.inr (.inr 186)), some (.inl x4), some (.inl x5), some (.inl v)]) zi_270_788 rfl rfl <| yI_aload_n zi_270_790 rfl <| yI_cv zi_270_791 rfl rfl zk_122 hK)
theorem zr_270_844 {K : List zF} {σ : zW} {x4 : Int} {x5 : Int} {o6 : Option zV} {v : Int} (hK : K.length < 60) : zRet true ((270, 844, [some (.inr (.inr 99999)), some (.inr (.inr 1)), some (.inr (.inr 122)), some (.inr (.inr 186)), some (.inl x4), some (.inl x5), o6], []) :: K) (some (.inl v)) σ = (zEv true (zent 140 [.inr (.inr 122)] :: (270, 850, [some (.inr (.inr 99999)), some (.inr (.inr 1)), some (.inr (.inr 122)), some (.inr (.inr 186)), some (.inl x4), some (.inl x5), some (.inl v)], []) :: K) σ) :=
  yT_rt (yI_istore (l := [some (.inr (.inr 99999)), some (.inr (.inr 1)), some (.inr (.inr 122)), some (.inr (.inr 186)), some (.inl x4), some (.inl x5), some (.inl v)]) zi_270_844 rfl rfl <| yI_aload_n zi_270_846 rfl <| yI_cv zi_270_847 rfl rfl zk_122 hK)
theorem zr_270_900 {K : List zF} {σ : zW} {x4 : Int} {x5 : Int} {o6 : Option zV} {v : Int} (hK : K.length < 60) : zRet true ((270, 900, [some (.inr (.inr 99999)), some (.inr (.inr 1)), some (.inr (.inr 122)), some (.inr (.inr 186)), some (.inl x4), some (.inl x5), o6], []) :: K) (some (.inl v)) σ = (zEv true (zent 140 [.inr (.inr 122)] :: (270, 906, [some (.inr (.inr 99999)), some (.inr (.inr 1)), some (.inr (.inr 122)), some (.inr (.inr 186)), some (.inl x4), some (.inl x5), some (.inl v)], []) :: K) σ) :=
  yT_rt (yI_istore (l := [some (.inr (.inr 99999)), some (.inr (.inr 1)), some (.inr (.inr 122)), some (.inr (.inr 186)), some (.inl x4), some (.inl x5), some (.inl v)]) zi_270_900 rfl rfl <| yI_aload_n zi_270_902 rfl <| yI_cv zi_270_903 rfl rfl zk_122 hK)
theorem zr_270_980 {K : List zF} {σ : zW} {x4 : Int} {x5 : Int} {o6 : Option zV} {v : Int} (hK : K.length < 60) : zRet true ((270, 980, [some (.inr (.inr 99999)), some (.inr (.inr 1)), some (.inr (.inr 122)), some (.inr (.inr 186)), some (.inl x4), some (.inl x5), o6], []) :: K) (some (.inl v)) σ = (zEv true (zent 140 [.inr (.inr 122)] :: (270, 986, [some (.inr (.inr 99999)), some (.inr (.inr 1)), some (.inr (.inr 122)), some (.inr (.inr 186)), some (.inl x4), some (.inl x5), some (.inl v)], []) :: K) σ) :=
  yT_rt (yI_istore (l := [some (.inr (.inr 99999)), some (.inr (.inr 1)), some (.inr (.inr 122)), some (.inr (.inr 186)), some (.inl x4), some (.inl x5), some (.inl v)]) zi_270_980 rfl rfl <| yI_aload_n zi_270_982 rfl <| yI_cv zi_270_983 rfl rfl zk_122 hK)
theorem zr_270_1060 {K : List zF} {σ : zW} {x4 : Int} {x5 : Int} {o6 : Option zV} {v : Int} (hK : K.length < 60) : zRet true ((270, 1060, [some (.inr (.inr 99999)), some (.inr (.inr 1)), some (.inr (.inr 122)), some (.inr (.inr 186)), some (.inl x4), some (.inl x5), o6], []) :: K) (some (.inl v)) σ = (zEv true (zent 140 [.inr (.inr 122)] :: (270, 1066, [some (.inr (.inr 99999)), some (.inr (.inr 1)), some (.inr (.inr 122)), some (.inr (.inr 186)), some (.inl x4), some (.inl x5), some (.inl v)], []) :: K) σ) :=
  yT_rt (yI_istore (l := [some (.inr (.inr 99999)), some (.inr (.inr 1)), some (.inr (.inr 122)), some (.inr (.inr 186)), some (.inl x4), some (.inl x5), some (.inl v)]) zi_270_1060 rfl rfl <| yI_aload_n zi_270_1062 rfl <| yI_cv zi_270_1063 rfl rfl zk_122 hK)
theorem zr_270_1128 {K : List zF} {σ : zW} {x4 : Int} {x5 : Int} {o6 : Option zV} {v : Int} (hK : K.length < 60) : zRet true ((270, 1128, [some (.inr (.inr 99999)), some (.inr (.inr 1)), some (.inr (.inr 122)), some (.inr (.inr 186)), some (.inl x4), some (.inl x5), o6], []) :: K) (some (.inl v)) σ = (zEv true (zent 140 [.inr (.inr 122)] :: (270, 1134, [some (.inr (.inr 99999)), some (.inr (.inr 1)), some (.inr (.inr 122)), some (.inr (.inr 186)), some (.inl x4), some (.inl x5), some (.inl v)], []) :: K) σ) :=
  yT_rt (yI_istore (l := [some (.inr (.inr 99999)), some (.inr (.inr 1)), some (.inr (.inr 122)), some (.inr (.inr 186)), some (.inl x4), some (.inl x5), some (.inl v)]) zi_270_1128 rfl rfl <| yI_aload_n zi_270_1130 rfl <| yI_cv zi_270_1131 rfl rfl zk_122 hK)
theorem zr_270_1184 {K : List zF} {σ : zW} {x4 : Int} {x5 : Int} {o6 : Option zV} {v : Int} (hK : K.length < 60) : zRet true ((270, 1184, [some (.inr (.inr 99999)), some (.inr (.inr 1)), some (.inr (.inr 122)), some (.inr (.inr 186)), some (.inl x4), some (.inl x5), o6], []) :: K) (some (.inl v)) σ = (zEv true (zent 140 [.inr (.inr 122)] :: (270, 1190, [some (.inr (.inr 99999)), some (.inr (.inr 1)), some (.inr (.inr 122)), some (.inr (.inr 186)), some (.inl x4), some (.inl x5), some (.inl v)], []) :: K) σ) :=
  yT_rt (yI_istore (l := [some (.inr (.inr 99999)), some (.inr (.inr 1)), some (.inr (.inr 122)), some (.inr (.inr 186)), some (.inl x4), some (.inl x5), some (.inl v)]) zi_270_1184 rfl rfl <| yI_aload_n zi_270_1186 rfl <| yI_cv zi_270_1187 rfl rfl zk_122 hK)
theorem zr_270_1240 {K : List zF} {σ : zW} {x4 : Int} {x5 : Int} {o6 : Option zV} {v : Int} (hK : K.length < 60) : zRet true ((270, 1240, [some (.inr (.inr 99999)), some (.inr (.inr 1)), some (.inr (.inr 122)), some (.inr (.inr 186)), some (.inl x4), some (.inl x5), o6], []) :: K) (some (.inl v)) σ = (zEv true (zent 140 [.inr (.inr 122)] :: (270, 1246, [some (.inr (.inr 99999)), some (.inr (.inr 1)), some (.inr (.inr 122)), some (.inr (.inr 186)), some (.inl x4), some (.inl x5), some (.inl v)], []) :: K) σ) :=
  yT_rt (yI_istore (l := [some (.inr (.inr 99999)), some (.inr (.inr 1)), some (.inr (.inr 122)), some (.inr (.inr 186)), some (.inl x4), some (.inl x5), some (.inl v)]) zi_270_1240 rfl rfl <| yI_aload_n zi_270_1242 rfl <| yI_cv zi_270_1243 rfl rfl zk_122 hK)
theorem zr_270_1296 {K : List zF} {σ : zW} {x4 : Int} {x5 : Int} {o6 : Option zV} {v : Int} (hK : K.length < 60) : zRet true ((270, 1296, [some (.inr (.inr 99999)), some (.inr (.inr 1)), some (.inr (.inr 122)), some (.inr (.inr 186)), some (.inl x4), some (.inl x5), o6], []) :: K) (some (.inl v)) σ = (zEv true (zent 140 [.inr (.inr 122)] :: (270, 1302, [some (.inr (.inr 99999)), some (.inr (.inr 1)), some (.inr (.inr 122)), some (.inr (.inr 186)), some (.inl x4), some (.inl x5), some (.inl v)], []) :: K) σ) :=
  yT_rt (yI_istore (l := [some (.inr (.inr 99999)), some (.inr (.inr 1)), some (.inr (.inr 122)), some (.inr (.inr 186)), some (.inl x4), some (.inl x5), some (.inl v)]) zi_270_1296 rfl rfl <| yI_aload_n zi_270_1298 rfl <| yI_cv zi_270_1299 rfl rfl zk_122 hK)
theorem zr_270_1364 {K : List zF} {σ : zW} {x4 : Int} {x5 : Int} {o6 : Option zV} {v : Int} (hK : K.length < 60) : zRet true ((270, 1364, [some (.inr (.inr 99999)), some (.inr (.inr 1)), some (.inr (.inr 122)), some (.inr (.inr 186)), some (.inl x4), some (.inl x5), o6], []) :: K) (some (.inl v)) σ = (zEv true (zent 140 [.inr (.inr 122)] :: (270, 1370, [some (.inr (.inr 99999)), some (.inr (.inr 1)), some (.inr (.inr 122)), some (.inr (.inr 186)), some (.inl x4), some (.inl x5), some (.inl v)], []) :: K) σ) :=
  yT_rt (yI_istore (l := [some (.inr (.inr 99999)), some (.inr (.inr 1)), some (.inr (.inr 122)), some (.inr (.inr 186)), some (.inl x4), some (.inl x5), some (.inl v)]) zi_270_1364 rfl rfl <| yI_aload_n zi_270_1366 rfl <| yI_cv zi_270_1367 rfl rfl zk_122 hK)
theorem zr_270_1417 {K : List zF} {σ : zW} {x4 : Int} {o5 : Option zV} {o6 : Option zV} {s0 : Int64} {v : Int64} : zRet true ((270, 1417, [some (.inr (.inr 99999)), some (.inr (.inr 1)), some (.inr (.inr 122)), some (.inr (.inr 186)), some (.inl x4), o5, o6], [.inr (.inl s0)]) :: K) (some (.inr (.inl v))) σ = (if (zlc s0 v) = 0 then zEv true ((270, 23, [some (.inr (.inr 99999)), some (.inr (.inr 1)), some (.inr (.inr 122)), some (.inr (.inr 186)), some (.inl (w32 (x4 + 4))), o5, o6], []) :: K) σ else zRet true K (some (.inl 0)) σ) :=
  yT_rt (yI_lcmp zi_270_1417 <| yI_if_eq zi_270_1418 <| yBr (yI_iinc (l := [some (.inr (.inr 99999)), some (.inr (.inr 1)), some (.inr (.inr 122)), some (.inr (.inr 186)), some (.inl (w32 (x4 + 4))), o5, o6]) zi_270_1423 rfl rfl rfl <| yI_goto zi_270_1426 <| rfl) (yI_iconst zi_270_1421 <| yI_zreturn zi_270_1422 (by decide)))
theorem zr_270_209 {K : List zF} {σ : zW} {x4 : Int} {x5 : Int} {x6 : Int} {v : Int} : zRet true ((270, 209, [some (.inr (.inr 99999)), some (.inr (.inr 1)), some (.inr (.inr 122)), some (.inr (.inr 186)), some (.inl x4), some (.inl x5), some (.inl x6)], []) :: K) (some (.inl v)) σ = (if v = x5 then if ¬ x5 = 0 then zEv true ((270, 23, [some (.inr (.inr 99999)), some (.inr (.inr 1)), some (.inr (.inr 122)), some (.inr (.inr 186)), some (.inl (w32 (x4 + 4))), some (.inl x5), some (.inl x6)], []) :: K) σ else if (zlc (gL σ 186 0) (zi2l x6)) = 0 then zEv true ((270, 23, [some (.inr (.inr 99999)), some (.inr (.inr 1)), some (.inr (.inr 122)), some (.inr (.inr 186)), some (.inl (w32 (x4 + 4))), some (.inl x5), some (.inl x6)], []) :: K) σ else zRet true K (some (.inl 0)) σ else zRet true K (some (.inl 0)) σ) :=
  yT_rt (yI_iload zi_270_209 rfl <| yI_ic_eq zi_270_211 <| yBr (yI_iload zi_270_216 rfl <| yI_if_ne zi_270_218 <| yBr (yI_goto zi_270_233 <| yI_iinc (l := [some (.inr (.inr 99999)), some (.inr (.inr 1)), some (.inr (.inr 122)), some (.inr (.inr 186)), some (.inl (w32 (x4 + 4))), some (.inl x5), some (.inl x6)]) zi_270_1423 rfl rfl rfl <| yI_goto zi_270_1426 <| rfl) (yI_aload_n zi_270_221 rfl <| yI_iconst zi_270_222 <| yI_laload (v := gL σ 186 0) zi_270_223 za_186 (by decide) rfl <| yI_iload zi_270_224 rfl <| yI_i2l zi_270_226 <| yI_lcmp zi_270_227 <| yI_if_eq zi_270_228 <| yBr (yI_goto zi_270_233 <| yI_iinc (l := [some (.inr (.inr 99999)), some (.inr (.inr 1)), some (.inr (.inr 122)), some (.inr (.inr 186)), some (.inl (w32 (x4 + 4))), some (.inl x5), some (.inl x6)]) zi_270_1423 rfl rfl rfl <| yI_goto zi_270_1426 <| rfl) (yI_iconst zi_270_231 <| yI_zreturn zi_270_232 (by decide)))) (yI_iconst zi_270_214 <| yI_zreturn zi_270_215 (by decide)))
theorem zr_270_265 {K : List zF} {σ : zW} {x4 : Int} {x5 : Int} {x6 : Int} {v : Int} : zRet true ((270, 265, [some (.inr (.inr 99999)), some (.inr (.inr 1)), some (.inr (.inr 122)), some (.inr (.inr 186)), some (.inl x4), some (.inl x5), some (.inl x6)], []) :: K) (some (.inl v)) σ = (if v = x5 then if ¬ x5 = 0 then zEv true ((270, 23, [some (.inr (.inr 99999)), some (.inr (.inr 1)), some (.inr (.inr 122)), some (.inr (.inr 186)), some (.inl (w32 (x4 + 4))), some (.inl x5), some (.inl x6)], []) :: K) σ else if (zlc (gL σ 186 0) (zi2l x6)) = 0 then zEv true ((270, 23, [some (.inr (.inr 99999)), some (.inr (.inr 1)), some (.inr (.inr 122)), some (.inr (.inr 186)), some (.inl (w32 (x4 + 4))), some (.inl x5), some (.inl x6)], []) :: K) σ else zRet true K (some (.inl 0)) σ else zRet true K (some (.inl 0)) σ) :=
  yT_rt (yI_iload zi_270_265 rfl <| yI_ic_eq zi_270_267 <| yBr (yI_iload zi_270_272 rfl <| yI_if_ne zi_270_274 <| yBr (yI_goto zi_270_289 <| yI_iinc (l := [some (.inr (.inr 99999)), some (.inr (.inr 1)), some (.inr (.inr 122)), some (.inr (.inr 186)), some (.inl (w32 (x4 + 4))), some (.inl x5), some (.inl x6)]) zi_270_1423 rfl rfl rfl <| yI_goto zi_270_1426 <| rfl) (yI_aload_n zi_270_277 rfl <| yI_iconst zi_270_278 <| yI_laload (v := gL σ 186 0) zi_270_279 za_186 (by decide) rfl <| yI_iload zi_270_280 rfl <| yI_i2l zi_270_282 <| yI_lcmp zi_270_283 <| yI_if_eq zi_270_284 <| yBr (yI_goto zi_270_289 <| yI_iinc (l := [some (.inr (.inr 99999)), some (.inr (.inr 1)), some (.inr (.inr 122)), some (.inr (.inr 186)), some (.inl (w32 (x4 + 4))), some (.inl x5), some (.inl x6)]) zi_270_1423 rfl rfl rfl <| yI_goto zi_270_1426 <| rfl) (yI_iconst zi_270_287 <| yI_zreturn zi_270_288 (by decide)))) (yI_iconst zi_270_270 <| yI_zreturn zi_270_271 (by decide)))
theorem zr_270_309 {K : List zF} {σ : zW} {x4 : Int} {x5 : Int} {x6 : Int} {v : Int} : zRet true ((270, 309, [some (.inr (.inr 99999)), some (.inr (.inr 1)), some (.inr (.inr 122)), some (.inr (.inr 186)), some (.inl x4), some (.inl x5), some (.inl x6)], []) :: K) (some (.inl v)) σ = (if v = x5 then if ¬ x5 = 0 then zEv true ((270, 23, [some (.inr (.inr 99999)), some (.inr (.inr 1)), some (.inr (.inr 122)), some (.inr (.inr 186)), some (.inl (w32 (x4 + 4))), some (.inl x5), some (.inl x6)], []) :: K) σ else if (zlc (gL σ 186 0) (zi2l x6)) = 0 then zEv true ((270, 23, [some (.inr (.inr 99999)), some (.inr (.inr 1)), some (.inr (.inr 122)), some (.inr (.inr 186)), some (.inl (w32 (x4 + 4))), some (.inl x5), some (.inl x6)], []) :: K) σ else zRet true K (some (.inl 0)) σ else zRet true K (some (.inl 0)) σ) :=
  yT_rt (yI_iload zi_270_309 rfl <| yI_ic_eq zi_270_311 <| yBr (yI_iload zi_270_316 rfl <| yI_if_ne zi_270_318 <| yBr (yI_goto zi_270_333 <| yI_iinc (l := [some (.inr (.inr 99999)), some (.inr (.inr 1)), some (.inr (.inr 122)), some (.inr (.inr 186)), some (.inl (w32 (x4 + 4))), some (.inl x5), some (.inl x6)]) zi_270_1423 rfl rfl rfl <| yI_goto zi_270_1426 <| rfl) (yI_aload_n zi_270_321 rfl <| yI_iconst zi_270_322 <| yI_laload (v := gL σ 186 0) zi_270_323 za_186 (by decide) rfl <| yI_iload zi_270_324 rfl <| yI_i2l zi_270_326 <| yI_lcmp zi_270_327 <| yI_if_eq zi_270_328 <| yBr (yI_goto zi_270_333 <| yI_iinc (l := [some (.inr (.inr 99999)), some (.inr (.inr 1)), some (.inr (.inr 122)), some (.inr (.inr 186)), some (.inl (w32 (x4 + 4))), some (.inl x5), some (.inl x6)]) zi_270_1423 rfl rfl rfl <| yI_goto zi_270_1426 <| rfl) (yI_iconst zi_270_331 <| yI_zreturn zi_270_332 (by decide)))) (yI_iconst zi_270_314 <| yI_zreturn zi_270_315 (by decide)))
theorem zr_270_353 {K : List zF} {σ : zW} {x4 : Int} {x5 : Int} {x6 : Int} {v : Int} : zRet true ((270, 353, [some (.inr (.inr 99999)), some (.inr (.inr 1)), some (.inr (.inr 122)), some (.inr (.inr 186)), some (.inl x4), some (.inl x5), some (.inl x6)], []) :: K) (some (.inl v)) σ = (if v = x5 then if ¬ x5 = 0 then zEv true ((270, 23, [some (.inr (.inr 99999)), some (.inr (.inr 1)), some (.inr (.inr 122)), some (.inr (.inr 186)), some (.inl (w32 (x4 + 4))), some (.inl x5), some (.inl x6)], []) :: K) σ else if (zlc (gL σ 186 0) (zi2l x6)) = 0 then zEv true ((270, 23, [some (.inr (.inr 99999)), some (.inr (.inr 1)), some (.inr (.inr 122)), some (.inr (.inr 186)), some (.inl (w32 (x4 + 4))), some (.inl x5), some (.inl x6)], []) :: K) σ else zRet true K (some (.inl 0)) σ else zRet true K (some (.inl 0)) σ) :=
  yT_rt (yI_iload zi_270_353 rfl <| yI_ic_eq zi_270_355 <| yBr (yI_iload zi_270_360 rfl <| yI_if_ne zi_270_362 <| yBr (yI_goto zi_270_377 <| yI_iinc (l := [some (.inr (.inr 99999)), some (.inr (.inr 1)), some (.inr (.inr 122)), some (.inr (.inr 186)), some (.inl (w32 (x4 + 4))), some (.inl x5), some (.inl x6)]) zi_270_1423 rfl rfl rfl <| yI_goto zi_270_1426 <| rfl) (yI_aload_n zi_270_365 rfl <| yI_iconst zi_270_366 <| yI_laload (v := gL σ 186 0) zi_270_367 za_186 (by decide) rfl <| yI_iload zi_270_368 rfl <| yI_i2l zi_270_370 <| yI_lcmp zi_270_371 <| yI_if_eq zi_270_372 <| yBr (yI_goto zi_270_377 <| yI_iinc (l := [some (.inr (.inr 99999)), some (.inr (.inr 1)), some (.inr (.inr 122)), some (.inr (.inr 186)), some (.inl (w32 (x4 + 4))), some (.inl x5), some (.inl x6)]) zi_270_1423 rfl rfl rfl <| yI_goto zi_270_1426 <| rfl) (yI_iconst zi_270_375 <| yI_zreturn zi_270_376 (by decide)))) (yI_iconst zi_270_358 <| yI_zreturn zi_270_359 (by decide)))
theorem zr_270_450 {K : List zF} {σ : zW} {x4 : Int} {x5 : Int} {x6 : Int} {v : Int} : zRet true ((270, 450, [some (.inr (.inr 99999)), some (.inr (.inr 1)), some (.inr (.inr 122)), some (.inr (.inr 186)), some (.inl x4), some (.inl x5), some (.inl x6)], []) :: K) (some (.inl v)) σ = (if v = x5 then if ¬ x5 = 0 then zEv true ((270, 23, [some (.inr (.inr 99999)), some (.inr (.inr 1)), some (.inr (.inr 122)), some (.inr (.inr 186)), some (.inl (w32 (x4 + 4))), some (.inl x5), some (.inl x6)], []) :: K) σ else if (zlc (gL σ 186 0) (zi2l x6)) = 0 then zEv true ((270, 23, [some (.inr (.inr 99999)), some (.inr (.inr 1)), some (.inr (.inr 122)), some (.inr (.inr 186)), some (.inl (w32 (x4 + 4))), some (.inl x5), some (.inl x6)], []) :: K) σ else zRet true K (some (.inl 0)) σ else zRet true K (some (.inl 0)) σ) :=
  yT_rt (yI_iload zi_270_450 rfl <| yI_ic_eq zi_270_452 <| yBr (yI_iload zi_270_457 rfl <| yI_if_ne zi_270_459 <| yBr (yI_goto zi_270_474 <| yI_iinc (l := [some (.inr (.inr 99999)), some (.inr (.inr 1)), some (.inr (.inr 122)), some (.inr (.inr 186)), some (.inl (w32 (x4 + 4))), some (.inl x5), some (.inl x6)]) zi_270_1423 rfl rfl rfl <| yI_goto zi_270_1426 <| rfl) (yI_aload_n zi_270_462 rfl <| yI_iconst zi_270_463 <| yI_laload (v := gL σ 186 0) zi_270_464 za_186 (by decide) rfl <| yI_iload zi_270_465 rfl <| yI_i2l zi_270_467 <| yI_lcmp zi_270_468 <| yI_if_eq zi_270_469 <| yBr (yI_goto zi_270_474 <| yI_iinc (l := [some (.inr (.inr 99999)), some (.inr (.inr 1)), some (.inr (.inr 122)), some (.inr (.inr 186)), some (.inl (w32 (x4 + 4))), some (.inl x5), some (.inl x6)]) zi_270_1423 rfl rfl rfl <| yI_goto zi_270_1426 <| rfl) (yI_iconst zi_270_472 <| yI_zreturn zi_270_473 (by decide)))) (yI_iconst zi_270_455 <| yI_zreturn zi_270_456 (by decide)))
theorem zr_270_518 {K : List zF} {σ : zW} {x4 : Int} {x5 : Int} {x6 : Int} {v : Int} : zRet true ((270, 518, [some (.inr (.inr 99999)), some (.inr (.inr 1)), some (.inr (.inr 122)), some (.inr (.inr 186)), some (.inl x4), some (.inl x5), some (.inl x6)], []) :: K) (some (.inl v)) σ = (if v = x5 then if ¬ x5 = 0 then zEv true ((270, 23, [some (.inr (.inr 99999)), some (.inr (.inr 1)), some (.inr (.inr 122)), some (.inr (.inr 186)), some (.inl (w32 (x4 + 4))), some (.inl x5), some (.inl x6)], []) :: K) σ else if (zlc (gL σ 186 0) (zi2l x6)) = 0 then zEv true ((270, 23, [some (.inr (.inr 99999)), some (.inr (.inr 1)), some (.inr (.inr 122)), some (.inr (.inr 186)), some (.inl (w32 (x4 + 4))), some (.inl x5), some (.inl x6)], []) :: K) σ else zRet true K (some (.inl 0)) σ else zRet true K (some (.inl 0)) σ) :=
  yT_rt (yI_iload zi_270_518 rfl <| yI_ic_eq zi_270_520 <| yBr (yI_iload zi_270_525 rfl <| yI_if_ne zi_270_527 <| yBr (yI_goto zi_270_542 <| yI_iinc (l := [some (.inr (.inr 99999)), some (.inr (.inr 1)), some (.inr (.inr 122)), some (.inr (.inr 186)), some (.inl (w32 (x4 + 4))), some (.inl x5), some (.inl x6)]) zi_270_1423 rfl rfl rfl <| yI_goto zi_270_1426 <| rfl) (yI_aload_n zi_270_530 rfl <| yI_iconst zi_270_531 <| yI_laload (v := gL σ 186 0) zi_270_532 za_186 (by decide) rfl <| yI_iload zi_270_533 rfl <| yI_i2l zi_270_535 <| yI_lcmp zi_270_536 <| yI_if_eq zi_270_537 <| yBr (yI_goto zi_270_542 <| yI_iinc (l := [some (.inr (.inr 99999)), some (.inr (.inr 1)), some (.inr (.inr 122)), some (.inr (.inr 186)), some (.inl (w32 (x4 + 4))), some (.inl x5), some (.inl x6)]) zi_270_1423 rfl rfl rfl <| yI_goto zi_270_1426 <| rfl) (yI_iconst zi_270_540 <| yI_zreturn zi_270_541 (by decide)))) (yI_iconst zi_270_523 <| yI_zreturn zi_270_524 (by decide)))
theorem zr_270_586 {K : List zF} {σ : zW} {x4 : Int} {x5 : Int} {x6 : Int} {v : Int} : zRet true ((270, 586, [some (.inr (.inr 99999)), some (.inr (.inr 1)), some (.inr (.inr 122)), some (.inr (.inr 186)), some (.inl x4), some (.inl x5), some (.inl x6)], []) :: K) (some (.inl v)) σ = (if v = x5 then if ¬ x5 = 0 then zEv true ((270, 23, [some (.inr (.inr 99999)), some (.inr (.inr 1)), some (.inr (.inr 122)), some (.inr (.inr 186)), some (.inl (w32 (x4 + 4))), some (.inl x5), some (.inl x6)], []) :: K) σ else if (zlc (gL σ 186 0) (zi2l x6)) = 0 then zEv true ((270, 23, [some (.inr (.inr 99999)), some (.inr (.inr 1)), some (.inr (.inr 122)), some (.inr (.inr 186)), some (.inl (w32 (x4 + 4))), some (.inl x5), some (.inl x6)], []) :: K) σ else zRet true K (some (.inl 0)) σ else zRet true K (some (.inl 0)) σ) :=
  yT_rt (yI_iload zi_270_586 rfl <| yI_ic_eq zi_270_588 <| yBr (yI_iload zi_270_593 rfl <| yI_if_ne zi_270_595 <| yBr (yI_goto zi_270_610 <| yI_iinc (l := [some (.inr (.inr 99999)), some (.inr (.inr 1)), some (.inr (.inr 122)), some (.inr (.inr 186)), some (.inl (w32 (x4 + 4))), some (.inl x5), some (.inl x6)]) zi_270_1423 rfl rfl rfl <| yI_goto zi_270_1426 <| rfl) (yI_aload_n zi_270_598 rfl <| yI_iconst zi_270_599 <| yI_laload (v := gL σ 186 0) zi_270_600 za_186 (by decide) rfl <| yI_iload zi_270_601 rfl <| yI_i2l zi_270_603 <| yI_lcmp zi_270_604 <| yI_if_eq zi_270_605 <| yBr (yI_goto zi_270_610 <| yI_iinc (l := [some (.inr (.inr 99999)), some (.inr (.inr 1)), some (.inr (.inr 122)), some (.inr (.inr 186)), some (.inl (w32 (x4 + 4))), some (.inl x5), some (.inl x6)]) zi_270_1423 rfl rfl rfl <| yI_goto zi_270_1426 <| rfl) (yI_iconst zi_270_608 <| yI_zreturn zi_270_609 (by decide)))) (yI_iconst zi_270_591 <| yI_zreturn zi_270_592 (by decide)))
theorem zr_270_682 {K : List zF} {σ : zW} {x4 : Int} {x5 : Int} {x6 : Int} {v : Int} : zRet true ((270, 682, [some (.inr (.inr 99999)), some (.inr (.inr 1)), some (.inr (.inr 122)), some (.inr (.inr 186)), some (.inl x4), some (.inl x5), some (.inl x6)], []) :: K) (some (.inl v)) σ = (if v = x5 then if ¬ x5 = 0 then zEv true ((270, 23, [some (.inr (.inr 99999)), some (.inr (.inr 1)), some (.inr (.inr 122)), some (.inr (.inr 186)), some (.inl (w32 (x4 + 4))), some (.inl x5), some (.inl x6)], []) :: K) σ else if (zlc (gL σ 186 0) (zi2l x6)) = 0 then zEv true ((270, 23, [some (.inr (.inr 99999)), some (.inr (.inr 1)), some (.inr (.inr 122)), some (.inr (.inr 186)), some (.inl (w32 (x4 + 4))), some (.inl x5), some (.inl x6)], []) :: K) σ else zRet true K (some (.inl 0)) σ else zRet true K (some (.inl 0)) σ) :=
  yT_rt (yI_iload zi_270_682 rfl <| yI_ic_eq zi_270_684 <| yBr (yI_iload zi_270_689 rfl <| yI_if_ne zi_270_691 <| yBr (yI_goto zi_270_706 <| yI_iinc (l := [some (.inr (.inr 99999)), some (.inr (.inr 1)), some (.inr (.inr 122)), some (.inr (.inr 186)), some (.inl (w32 (x4 + 4))), some (.inl x5), some (.inl x6)]) zi_270_1423 rfl rfl rfl <| yI_goto zi_270_1426 <| rfl) (yI_aload_n zi_270_694 rfl <| yI_iconst zi_270_695 <| yI_laload (v := gL σ 186 0) zi_270_696 za_186 (by decide) rfl <| yI_iload zi_270_697 rfl <| yI_i2l zi_270_699 <| yI_lcmp zi_270_700 <| yI_if_eq zi_270_701 <| yBr (yI_goto zi_270_706 <| yI_iinc (l := [some (.inr (.inr 99999)), some (.inr (.inr 1)), some (.inr (.inr 122)), some (.inr (.inr 186)), some (.inl (w32 (x4 + 4))), some (.inl x5), some (.inl x6)]) zi_270_1423 rfl rfl rfl <| yI_goto zi_270_1426 <| rfl) (yI_iconst zi_270_704 <| yI_zreturn zi_270_705 (by decide)))) (yI_iconst zi_270_687 <| yI_zreturn zi_270_688 (by decide)))
theorem zr_270_738 {K : List zF} {σ : zW} {x4 : Int} {x5 : Int} {x6 : Int} {v : Int} : zRet true ((270, 738, [some (.inr (.inr 99999)), some (.inr (.inr 1)), some (.inr (.inr 122)), some (.inr (.inr 186)), some (.inl x4), some (.inl x5), some (.inl x6)], []) :: K) (some (.inl v)) σ = (if v = x5 then if ¬ x5 = 0 then zEv true ((270, 23, [some (.inr (.inr 99999)), some (.inr (.inr 1)), some (.inr (.inr 122)), some (.inr (.inr 186)), some (.inl (w32 (x4 + 4))), some (.inl x5), some (.inl x6)], []) :: K) σ else if (zlc (gL σ 186 0) (zi2l x6)) = 0 then zEv true ((270, 23, [some (.inr (.inr 99999)), some (.inr (.inr 1)), some (.inr (.inr 122)), some (.inr (.inr 186)), some (.inl (w32 (x4 + 4))), some (.inl x5), some (.inl x6)], []) :: K) σ else zRet true K (some (.inl 0)) σ else zRet true K (some (.inl 0)) σ) :=
  yT_rt (yI_iload zi_270_738 rfl <| yI_ic_eq zi_270_740 <| yBr (yI_iload zi_270_745 rfl <| yI_if_ne zi_270_747 <| yBr (yI_goto zi_270_762 <| yI_iinc (l := [some (.inr (.inr 99999)), some (.inr (.inr 1)), some (.inr (.inr 122)), some (.inr (.inr 186)), some (.inl (w32 (x4 + 4))), some (.inl x5), some (.inl x6)]) zi_270_1423 rfl rfl rfl <| yI_goto zi_270_1426 <| rfl) (yI_aload_n zi_270_750 rfl <| yI_iconst zi_270_751 <| yI_laload (v := gL σ 186 0) zi_270_752 za_186 (by decide) rfl <| yI_iload zi_270_753 rfl <| yI_i2l zi_270_755 <| yI_lcmp zi_270_756 <| yI_if_eq zi_270_757 <| yBr (yI_goto zi_270_762 <| yI_iinc (l := [some (.inr (.inr 99999)), some (.inr (.inr 1)), some (.inr (.inr 122)), some (.inr (.inr 186)), some (.inl (w32 (x4 + 4))), some (.inl x5), some (.inl x6)]) zi_270_1423 rfl rfl rfl <| yI_goto zi_270_1426 <| rfl) (yI_iconst zi_270_760 <| yI_zreturn zi_270_761 (by decide)))) (yI_iconst zi_270_743 <| yI_zreturn zi_270_744 (by decide)))
theorem zr_270_794 {K : List zF} {σ : zW} {x4 : Int} {x5 : Int} {x6 : Int} {v : Int} : zRet true ((270, 794, [some (.inr (.inr 99999)), some (.inr (.inr 1)), some (.inr (.inr 122)), some (.inr (.inr 186)), some (.inl x4), some (.inl x5), some (.inl x6)], []) :: K) (some (.inl v)) σ = (if v = x5 then if ¬ x5 = 0 then zEv true ((270, 23, [some (.inr (.inr 99999)), some (.inr (.inr 1)), some (.inr (.inr 122)), some (.inr (.inr 186)), some (.inl (w32 (x4 + 4))), some (.inl x5), some (.inl x6)], []) :: K) σ else if (zlc (gL σ 186 0) (zi2l x6)) = 0 then zEv true ((270, 23, [some (.inr (.inr 99999)), some (.inr (.inr 1)), some (.inr (.inr 122)), some (.inr (.inr 186)), some (.inl (w32 (x4 + 4))), some (.inl x5), some (.inl x6)], []) :: K) σ else zRet true K (some (.inl 0)) σ else zRet true K (some (.inl 0)) σ) :=
  yT_rt (yI_iload zi_270_794 rfl <| yI_ic_eq zi_270_796 <| yBr (yI_iload zi_270_801 rfl <| yI_if_ne zi_270_803 <| yBr (yI_goto zi_270_818 <| yI_iinc (l := [some (.inr (.inr 99999)), some (.inr (.inr 1)), some (.inr (.inr 122)), some (.inr (.inr 186)), some (.inl (w32 (x4 + 4))), some (.inl x5), some (.inl x6)]) zi_270_1423 rfl rfl rfl <| yI_goto zi_270_1426 <| rfl) (yI_aload_n zi_270_806 rfl <| yI_iconst zi_270_807 <| yI_laload (v := gL σ 186 0) zi_270_808 za_186 (by decide) rfl <| yI_iload zi_270_809 rfl <| yI_i2l zi_270_811 <| yI_lcmp zi_270_812 <| yI_if_eq zi_270_813 <| yBr (yI_goto zi_270_818 <| yI_iinc (l := [some (.inr (.inr 99999)), some (.inr (.inr 1)), some (.inr (.inr 122)), some (.inr (.inr 186)), some (.inl (w32 (x4 + 4))), some (.inl x5), some (.inl x6)]) zi_270_1423 rfl rfl rfl <| yI_goto zi_270_1426 <| rfl) (yI_iconst zi_270_816 <| yI_zreturn zi_270_817 (by decide)))) (yI_iconst zi_270_799 <| yI_zreturn zi_270_800 (by decide)))
theorem zr_270_850 {K : List zF} {σ : zW} {x4 : Int} {x5 : Int} {x6 : Int} {v : Int} : zRet true ((270, 850, [some (.inr (.inr 99999)), some (.inr (.inr 1)), some (.inr (.inr 122)), some (.inr (.inr 186)), some (.inl x4), some (.inl x5), some (.inl x6)], []) :: K) (some (.inl v)) σ = (if v = x5 then if ¬ x5 = 0 then zEv true ((270, 23, [some (.inr (.inr 99999)), some (.inr (.inr 1)), some (.inr (.inr 122)), some (.inr (.inr 186)), some (.inl (w32 (x4 + 4))), some (.inl x5), some (.inl x6)], []) :: K) σ else if (zlc (gL σ 186 0) (zi2l x6)) = 0 then zEv true ((270, 23, [some (.inr (.inr 99999)), some (.inr (.inr 1)), some (.inr (.inr 122)), some (.inr (.inr 186)), some (.inl (w32 (x4 + 4))), some (.inl x5), some (.inl x6)], []) :: K) σ else zRet true K (some (.inl 0)) σ else zRet true K (some (.inl 0)) σ) :=
  yT_rt (yI_iload zi_270_850 rfl <| yI_ic_eq zi_270_852 <| yBr (yI_iload zi_270_857 rfl <| yI_if_ne zi_270_859 <| yBr (yI_goto zi_270_874 <| yI_iinc (l := [some (.inr (.inr 99999)), some (.inr (.inr 1)), some (.inr (.inr 122)), some (.inr (.inr 186)), some (.inl (w32 (x4 + 4))), some (.inl x5), some (.inl x6)]) zi_270_1423 rfl rfl rfl <| yI_goto zi_270_1426 <| rfl) (yI_aload_n zi_270_862 rfl <| yI_iconst zi_270_863 <| yI_laload (v := gL σ 186 0) zi_270_864 za_186 (by decide) rfl <| yI_iload zi_270_865 rfl <| yI_i2l zi_270_867 <| yI_lcmp zi_270_868 <| yI_if_eq zi_270_869 <| yBr (yI_goto zi_270_874 <| yI_iinc (l := [some (.inr (.inr 99999)), some (.inr (.inr 1)), some (.inr (.inr 122)), some (.inr (.inr 186)), some (.inl (w32 (x4 + 4))), some (.inl x5), some (.inl x6)]) zi_270_1423 rfl rfl rfl <| yI_goto zi_270_1426 <| rfl) (yI_iconst zi_270_872 <| yI_zreturn zi_270_873 (by decide)))) (yI_iconst zi_270_855 <| yI_zreturn zi_270_856 (by decide)))
theorem zr_270_906 {K : List zF} {σ : zW} {x4 : Int} {x5 : Int} {x6 : Int} {v : Int} : zRet true ((270, 906, [some (.inr (.inr 99999)), some (.inr (.inr 1)), some (.inr (.inr 122)), some (.inr (.inr 186)), some (.inl x4), some (.inl x5), some (.inl x6)], []) :: K) (some (.inl v)) σ = (if v = x5 then if ¬ x5 = 0 then zEv true ((270, 23, [some (.inr (.inr 99999)), some (.inr (.inr 1)), some (.inr (.inr 122)), some (.inr (.inr 186)), some (.inl (w32 (x4 + 4))), some (.inl x5), some (.inl x6)], []) :: K) σ else if (zlc (gL σ 186 0) (zi2l x6)) = 0 then zEv true ((270, 23, [some (.inr (.inr 99999)), some (.inr (.inr 1)), some (.inr (.inr 122)), some (.inr (.inr 186)), some (.inl (w32 (x4 + 4))), some (.inl x5), some (.inl x6)], []) :: K) σ else zRet true K (some (.inl 0)) σ else zRet true K (some (.inl 0)) σ) :=
  yT_rt (yI_iload zi_270_906 rfl <| yI_ic_eq zi_270_908 <| yBr (yI_iload zi_270_913 rfl <| yI_if_ne zi_270_915 <| yBr (yI_goto zi_270_930 <| yI_iinc (l := [some (.inr (.inr 99999)), some (.inr (.inr 1)), some (.inr (.inr 122)), some (.inr (.inr 186)), some (.inl (w32 (x4 + 4))), some (.inl x5), some (.inl x6)]) zi_270_1423 rfl rfl rfl <| yI_goto zi_270_1426 <| rfl) (yI_aload_n zi_270_918 rfl <| yI_iconst zi_270_919 <| yI_laload (v := gL σ 186 0) zi_270_920 za_186 (by decide) rfl <| yI_iload zi_270_921 rfl <| yI_i2l zi_270_923 <| yI_lcmp zi_270_924 <| yI_if_eq zi_270_925 <| yBr (yI_goto zi_270_930 <| yI_iinc (l := [some (.inr (.inr 99999)), some (.inr (.inr 1)), some (.inr (.inr 122)), some (.inr (.inr 186)), some (.inl (w32 (x4 + 4))), some (.inl x5), some (.inl x6)]) zi_270_1423 rfl rfl rfl <| yI_goto zi_270_1426 <| rfl) (yI_iconst zi_270_928 <| yI_zreturn zi_270_929 (by decide)))) (yI_iconst zi_270_911 <| yI_zreturn zi_270_912 (by decide)))
theorem zr_270_986 {K : List zF} {σ : zW} {x4 : Int} {x5 : Int} {x6 : Int} {v : Int} : zRet true ((270, 986, [some (.inr (.inr 99999)), some (.inr (.inr 1)), some (.inr (.inr 122)), some (.inr (.inr 186)), some (.inl x4), some (.inl x5), some (.inl x6)], []) :: K) (some (.inl v)) σ = (if v = x5 then if ¬ x5 = 0 then zEv true ((270, 23, [some (.inr (.inr 99999)), some (.inr (.inr 1)), some (.inr (.inr 122)), some (.inr (.inr 186)), some (.inl (w32 (x4 + 4))), some (.inl x5), some (.inl x6)], []) :: K) σ else if (zlc (gL σ 186 0) (zi2l x6)) = 0 then zEv true ((270, 23, [some (.inr (.inr 99999)), some (.inr (.inr 1)), some (.inr (.inr 122)), some (.inr (.inr 186)), some (.inl (w32 (x4 + 4))), some (.inl x5), some (.inl x6)], []) :: K) σ else zRet true K (some (.inl 0)) σ else zRet true K (some (.inl 0)) σ) :=
  yT_rt (yI_iload zi_270_986 rfl <| yI_ic_eq zi_270_988 <| yBr (yI_iload zi_270_993 rfl <| yI_if_ne zi_270_995 <| yBr (yI_goto zi_270_1010 <| yI_iinc (l := [some (.inr (.inr 99999)), some (.inr (.inr 1)), some (.inr (.inr 122)), some (.inr (.inr 186)), some (.inl (w32 (x4 + 4))), some (.inl x5), some (.inl x6)]) zi_270_1423 rfl rfl rfl <| yI_goto zi_270_1426 <| rfl) (yI_aload_n zi_270_998 rfl <| yI_iconst zi_270_999 <| yI_laload (v := gL σ 186 0) zi_270_1000 za_186 (by decide) rfl <| yI_iload zi_270_1001 rfl <| yI_i2l zi_270_1003 <| yI_lcmp zi_270_1004 <| yI_if_eq zi_270_1005 <| yBr (yI_goto zi_270_1010 <| yI_iinc (l := [some (.inr (.inr 99999)), some (.inr (.inr 1)), some (.inr (.inr 122)), some (.inr (.inr 186)), some (.inl (w32 (x4 + 4))), some (.inl x5), some (.inl x6)]) zi_270_1423 rfl rfl rfl <| yI_goto zi_270_1426 <| rfl) (yI_iconst zi_270_1008 <| yI_zreturn zi_270_1009 (by decide)))) (yI_iconst zi_270_991 <| yI_zreturn zi_270_992 (by decide)))
theorem zr_270_1066 {K : List zF} {σ : zW} {x4 : Int} {x5 : Int} {x6 : Int} {v : Int} : zRet true ((270, 1066, [some (.inr (.inr 99999)), some (.inr (.inr 1)), some (.inr (.inr 122)), some (.inr (.inr 186)), some (.inl x4), some (.inl x5), some (.inl x6)], []) :: K) (some (.inl v)) σ = (if v = x5 then if ¬ x5 = 0 then zEv true ((270, 23, [some (.inr (.inr 99999)), some (.inr (.inr 1)), some (.inr (.inr 122)), some (.inr (.inr 186)), some (.inl (w32 (x4 + 4))), some (.inl x5), some (.inl x6)], []) :: K) σ else if (zlc (gL σ 186 0) (zi2l x6)) = 0 then zEv true ((270, 23, [some (.inr (.inr 99999)), some (.inr (.inr 1)), some (.inr (.inr 122)), some (.inr (.inr 186)), some (.inl (w32 (x4 + 4))), some (.inl x5), some (.inl x6)], []) :: K) σ else zRet true K (some (.inl 0)) σ else zRet true K (some (.inl 0)) σ) :=
  yT_rt (yI_iload zi_270_1066 rfl <| yI_ic_eq zi_270_1068 <| yBr (yI_iload zi_270_1073 rfl <| yI_if_ne zi_270_1075 <| yBr (yI_goto zi_270_1090 <| yI_iinc (l := [some (.inr (.inr 99999)), some (.inr (.inr 1)), some (.inr (.inr 122)), some (.inr (.inr 186)), some (.inl (w32 (x4 + 4))), some (.inl x5), some (.inl x6)]) zi_270_1423 rfl rfl rfl <| yI_goto zi_270_1426 <| rfl) (yI_aload_n zi_270_1078 rfl <| yI_iconst zi_270_1079 <| yI_laload (v := gL σ 186 0) zi_270_1080 za_186 (by decide) rfl <| yI_iload zi_270_1081 rfl <| yI_i2l zi_270_1083 <| yI_lcmp zi_270_1084 <| yI_if_eq zi_270_1085 <| yBr (yI_goto zi_270_1090 <| yI_iinc (l := [some (.inr (.inr 99999)), some (.inr (.inr 1)), some (.inr (.inr 122)), some (.inr (.inr 186)), some (.inl (w32 (x4 + 4))), some (.inl x5), some (.inl x6)]) zi_270_1423 rfl rfl rfl <| yI_goto zi_270_1426 <| rfl) (yI_iconst zi_270_1088 <| yI_zreturn zi_270_1089 (by decide)))) (yI_iconst zi_270_1071 <| yI_zreturn zi_270_1072 (by decide)))
theorem zr_270_1134 {K : List zF} {σ : zW} {x4 : Int} {x5 : Int} {x6 : Int} {v : Int} : zRet true ((270, 1134, [some (.inr (.inr 99999)), some (.inr (.inr 1)), some (.inr (.inr 122)), some (.inr (.inr 186)), some (.inl x4), some (.inl x5), some (.inl x6)], []) :: K) (some (.inl v)) σ = (if v = x5 then if ¬ x5 = 0 then zEv true ((270, 23, [some (.inr (.inr 99999)), some (.inr (.inr 1)), some (.inr (.inr 122)), some (.inr (.inr 186)), some (.inl (w32 (x4 + 4))), some (.inl x5), some (.inl x6)], []) :: K) σ else if (zlc (gL σ 186 0) (zi2l x6)) = 0 then zEv true ((270, 23, [some (.inr (.inr 99999)), some (.inr (.inr 1)), some (.inr (.inr 122)), some (.inr (.inr 186)), some (.inl (w32 (x4 + 4))), some (.inl x5), some (.inl x6)], []) :: K) σ else zRet true K (some (.inl 0)) σ else zRet true K (some (.inl 0)) σ) :=
  yT_rt (yI_iload zi_270_1134 rfl <| yI_ic_eq zi_270_1136 <| yBr (yI_iload zi_270_1141 rfl <| yI_if_ne zi_270_1143 <| yBr (yI_goto zi_270_1158 <| yI_iinc (l := [some (.inr (.inr 99999)), some (.inr (.inr 1)), some (.inr (.inr 122)), some (.inr (.inr 186)), some (.inl (w32 (x4 + 4))), some (.inl x5), some (.inl x6)]) zi_270_1423 rfl rfl rfl <| yI_goto zi_270_1426 <| rfl) (yI_aload_n zi_270_1146 rfl <| yI_iconst zi_270_1147 <| yI_laload (v := gL σ 186 0) zi_270_1148 za_186 (by decide) rfl <| yI_iload zi_270_1149 rfl <| yI_i2l zi_270_1151 <| yI_lcmp zi_270_1152 <| yI_if_eq zi_270_1153 <| yBr (yI_goto zi_270_1158 <| yI_iinc (l := [some (.inr (.inr 99999)), some (.inr (.inr 1)), some (.inr (.inr 122)), some (.inr (.inr 186)), some (.inl (w32 (x4 + 4))), some (.inl x5), some (.inl x6)]) zi_270_1423 rfl rfl rfl <| yI_goto zi_270_1426 <| rfl) (yI_iconst zi_270_1156 <| yI_zreturn zi_270_1157 (by decide)))) (yI_iconst zi_270_1139 <| yI_zreturn zi_270_1140 (by decide)))
theorem zr_270_1190 {K : List zF} {σ : zW} {x4 : Int} {x5 : Int} {x6 : Int} {v : Int} : zRet true ((270, 1190, [some (.inr (.inr 99999)), some (.inr (.inr 1)), some (.inr (.inr 122)), some (.inr (.inr 186)), some (.inl x4), some (.inl x5), some (.inl x6)], []) :: K) (some (.inl v)) σ = (if v = x5 then if ¬ x5 = 0 then zEv true ((270, 23, [some (.inr (.inr 99999)), some (.inr (.inr 1)), some (.inr (.inr 122)), some (.inr (.inr 186)), some (.inl (w32 (x4 + 4))), some (.inl x5), some (.inl x6)], []) :: K) σ else if (zlc (gL σ 186 0) (zi2l x6)) = 0 then zEv true ((270, 23, [some (.inr (.inr 99999)), some (.inr (.inr 1)), some (.inr (.inr 122)), some (.inr (.inr 186)), some (.inl (w32 (x4 + 4))), some (.inl x5), some (.inl x6)], []) :: K) σ else zRet true K (some (.inl 0)) σ else zRet true K (some (.inl 0)) σ) :=
  yT_rt (yI_iload zi_270_1190 rfl <| yI_ic_eq zi_270_1192 <| yBr (yI_iload zi_270_1197 rfl <| yI_if_ne zi_270_1199 <| yBr (yI_goto zi_270_1214 <| yI_iinc (l := [some (.inr (.inr 99999)), some (.inr (.inr 1)), some (.inr (.inr 122)), some (.inr (.inr 186)), some (.inl (w32 (x4 + 4))), some (.inl x5), some (.inl x6)]) zi_270_1423 rfl rfl rfl <| yI_goto zi_270_1426 <| rfl) (yI_aload_n zi_270_1202 rfl <| yI_iconst zi_270_1203 <| yI_laload (v := gL σ 186 0) zi_270_1204 za_186 (by decide) rfl <| yI_iload zi_270_1205 rfl <| yI_i2l zi_270_1207 <| yI_lcmp zi_270_1208 <| yI_if_eq zi_270_1209 <| yBr (yI_goto zi_270_1214 <| yI_iinc (l := [some (.inr (.inr 99999)), some (.inr (.inr 1)), some (.inr (.inr 122)), some (.inr (.inr 186)), some (.inl (w32 (x4 + 4))), some (.inl x5), some (.inl x6)]) zi_270_1423 rfl rfl rfl <| yI_goto zi_270_1426 <| rfl) (yI_iconst zi_270_1212 <| yI_zreturn zi_270_1213 (by decide)))) (yI_iconst zi_270_1195 <| yI_zreturn zi_270_1196 (by decide)))
theorem zr_270_1246 {K : List zF} {σ : zW} {x4 : Int} {x5 : Int} {x6 : Int} {v : Int} : zRet true ((270, 1246, [some (.inr (.inr 99999)), some (.inr (.inr 1)), some (.inr (.inr 122)), some (.inr (.inr 186)), some (.inl x4), some (.inl x5), some (.inl x6)], []) :: K) (some (.inl v)) σ = (if v = x5 then if ¬ x5 = 0 then zEv true ((270, 23, [some (.inr (.inr 99999)), some (.inr (.inr 1)), some (.inr (.inr 122)), some (.inr (.inr 186)), some (.inl (w32 (x4 + 4))), some (.inl x5), some (.inl x6)], []) :: K) σ else if (zlc (gL σ 186 0) (zi2l x6)) = 0 then zEv true ((270, 23, [some (.inr (.inr 99999)), some (.inr (.inr 1)), some (.inr (.inr 122)), some (.inr (.inr 186)), some (.inl (w32 (x4 + 4))), some (.inl x5), some (.inl x6)], []) :: K) σ else zRet true K (some (.inl 0)) σ else zRet true K (some (.inl 0)) σ) :=
  yT_rt (yI_iload zi_270_1246 rfl <| yI_ic_eq zi_270_1248 <| yBr (yI_iload zi_270_1253 rfl <| yI_if_ne zi_270_1255 <| yBr (yI_goto zi_270_1270 <| yI_iinc (l := [some (.inr (.inr 99999)), some (.inr (.inr 1)), some (.inr (.inr 122)), some (.inr (.inr 186)), some (.inl (w32 (x4 + 4))), some (.inl x5), some (.inl x6)]) zi_270_1423 rfl rfl rfl <| yI_goto zi_270_1426 <| rfl) (yI_aload_n zi_270_1258 rfl <| yI_iconst zi_270_1259 <| yI_laload (v := gL σ 186 0) zi_270_1260 za_186 (by decide) rfl <| yI_iload zi_270_1261 rfl <| yI_i2l zi_270_1263 <| yI_lcmp zi_270_1264 <| yI_if_eq zi_270_1265 <| yBr (yI_goto zi_270_1270 <| yI_iinc (l := [some (.inr (.inr 99999)), some (.inr (.inr 1)), some (.inr (.inr 122)), some (.inr (.inr 186)), some (.inl (w32 (x4 + 4))), some (.inl x5), some (.inl x6)]) zi_270_1423 rfl rfl rfl <| yI_goto zi_270_1426 <| rfl) (yI_iconst zi_270_1268 <| yI_zreturn zi_270_1269 (by decide)))) (yI_iconst zi_270_1251 <| yI_zreturn zi_270_1252 (by decide)))
theorem zr_270_1302 {K : List zF} {σ : zW} {x4 : Int} {x5 : Int} {x6 : Int} {v : Int} : zRet true ((270, 1302, [some (.inr (.inr 99999)), some (.inr (.inr 1)), some (.inr (.inr 122)), some (.inr (.inr 186)), some (.inl x4), some (.inl x5), some (.inl x6)], []) :: K) (some (.inl v)) σ = (if v = x5 then if ¬ x5 = 0 then zEv true ((270, 23, [some (.inr (.inr 99999)), some (.inr (.inr 1)), some (.inr (.inr 122)), some (.inr (.inr 186)), some (.inl (w32 (x4 + 4))), some (.inl x5), some (.inl x6)], []) :: K) σ else if (zlc (gL σ 186 0) (zi2l x6)) = 0 then zEv true ((270, 23, [some (.inr (.inr 99999)), some (.inr (.inr 1)), some (.inr (.inr 122)), some (.inr (.inr 186)), some (.inl (w32 (x4 + 4))), some (.inl x5), some (.inl x6)], []) :: K) σ else zRet true K (some (.inl 0)) σ else zRet true K (some (.inl 0)) σ) :=
  yT_rt (yI_iload zi_270_1302 rfl <| yI_ic_eq zi_270_1304 <| yBr (yI_iload zi_270_1309 rfl <| yI_if_ne zi_270_1311 <| yBr (yI_goto zi_270_1326 <| yI_iinc (l := [some (.inr (.inr 99999)), some (.inr (.inr 1)), some (.inr (.inr 122)), some (.inr (.inr 186)), some (.inl (w32 (x4 + 4))), some (.inl x5), some (.inl x6)]) zi_270_1423 rfl rfl rfl <| yI_goto zi_270_1426 <| rfl) (yI_aload_n zi_270_1314 rfl <| yI_iconst zi_270_1315 <| yI_laload (v := gL σ 186 0) zi_270_1316 za_186 (by decide) rfl <| yI_iload zi_270_1317 rfl <| yI_i2l zi_270_1319 <| yI_lcmp zi_270_1320 <| yI_if_eq zi_270_1321 <| yBr (yI_goto zi_270_1326 <| yI_iinc (l := [some (.inr (.inr 99999)), some (.inr (.inr 1)), some (.inr (.inr 122)), some (.inr (.inr 186)), some (.inl (w32 (x4 + 4))), some (.inl x5), some (.inl x6)]) zi_270_1423 rfl rfl rfl <| yI_goto zi_270_1426 <| rfl) (yI_iconst zi_270_1324 <| yI_zreturn zi_270_1325 (by decide)))) (yI_iconst zi_270_1307 <| yI_zreturn zi_270_1308 (by decide)))
theorem zr_270_1370 {K : List zF} {σ : zW} {x4 : Int} {x5 : Int} {x6 : Int} {v : Int} : zRet true ((270, 1370, [some (.inr (.inr 99999)), some (.inr (.inr 1)), some (.inr (.inr 122)), some (.inr (.inr 186)), some (.inl x4), some (.inl x5), some (.inl x6)], []) :: K) (some (.inl v)) σ = (if v = x5 then if ¬ x5 = 0 then zEv true ((270, 23, [some (.inr (.inr 99999)), some (.inr (.inr 1)), some (.inr (.inr 122)), some (.inr (.inr 186)), some (.inl (w32 (x4 + 4))), some (.inl x5), some (.inl x6)], []) :: K) σ else if (zlc (gL σ 186 0) (zi2l x6)) = 0 then zEv true ((270, 23, [some (.inr (.inr 99999)), some (.inr (.inr 1)), some (.inr (.inr 122)), some (.inr (.inr 186)), some (.inl (w32 (x4 + 4))), some (.inl x5), some (.inl x6)], []) :: K) σ else zRet true K (some (.inl 0)) σ else zRet true K (some (.inl 0)) σ) :=
  yT_rt (yI_iload zi_270_1370 rfl <| yI_ic_eq zi_270_1372 <| yBr (yI_iload zi_270_1377 rfl <| yI_if_ne zi_270_1379 <| yBr (yI_goto zi_270_1394 <| yI_iinc (l := [some (.inr (.inr 99999)), some (.inr (.inr 1)), some (.inr (.inr 122)), some (.inr (.inr 186)), some (.inl (w32 (x4 + 4))), some (.inl x5), some (.inl x6)]) zi_270_1423 rfl rfl rfl <| yI_goto zi_270_1426 <| rfl) (yI_aload_n zi_270_1382 rfl <| yI_iconst zi_270_1383 <| yI_laload (v := gL σ 186 0) zi_270_1384 za_186 (by decide) rfl <| yI_iload zi_270_1385 rfl <| yI_i2l zi_270_1387 <| yI_lcmp zi_270_1388 <| yI_if_eq zi_270_1389 <| yBr (yI_goto zi_270_1394 <| yI_iinc (l := [some (.inr (.inr 99999)), some (.inr (.inr 1)), some (.inr (.inr 122)), some (.inr (.inr 186)), some (.inl (w32 (x4 + 4))), some (.inl x5), some (.inl x6)]) zi_270_1423 rfl rfl rfl <| yI_goto zi_270_1426 <| rfl) (yI_iconst zi_270_1392 <| yI_zreturn zi_270_1393 (by decide)))) (yI_iconst zi_270_1375 <| yI_zreturn zi_270_1376 (by decide)))
/-- 271 java/lang/Integer.bitCount(I)I -/
theorem zi_271_0 : zraw 271 0 = some (.iload_n 0, 1) ∧ 0 + 1 = 1 := by decide +kernel
theorem zi_271_1 : zraw 271 1 = some (.iload_n 0, 1) ∧ 1 + 1 = 2 := by decide +kernel
theorem zi_271_2 : zraw 271 2 = some (.iconst 1, 1) ∧ zin 128 1 = true ∧ 2 + 1 = 3 := by decide +kernel
theorem zi_271_3 : zraw 271 3 = some (.iushr, 1) ∧ 3 + 1 = 4 := by decide +kernel
theorem zi_271_4 : zraw 271 4 = some (.ldc_w 265, 3) ∧ zit (zinf 271).1 265 = some 1431655765 ∧ 4 + 3 = 7 := by decide +kernel
theorem zi_271_7 : zraw 271 7 = some (.iand, 1) ∧ 7 + 1 = 8 := by decide +kernel
theorem zi_271_8 : zraw 271 8 = some (.isub, 1) ∧ 8 + 1 = 9 := by decide +kernel
theorem zi_271_9 : zraw 271 9 = some (.istore_n 0, 1) ∧ 9 + 1 = 10 := by decide +kernel
theorem zi_271_10 : zraw 271 10 = some (.iload_n 0, 1) ∧ 10 + 1 = 11 := by decide +kernel
theorem zi_271_11 : zraw 271 11 = some (.ldc_w 266, 3) ∧ zit (zinf 271).1 266 = some 858993459 ∧ 11 + 3 = 14 := by decide +kernel
theorem zi_271_14 : zraw 271 14 = some (.iand, 1) ∧ 14 + 1 = 15 := by decide +kernel
theorem zi_271_15 : zraw 271 15 = some (.iload_n 0, 1) ∧ 15 + 1 = 16 := by decide +kernel
theorem zi_271_16 : zraw 271 16 = some (.iconst 2, 1) ∧ zin 128 2 = true ∧ 16 + 1 = 17 := by decide +kernel
theorem zi_271_17 : zraw 271 17 = some (.iushr, 1) ∧ 17 + 1 = 18 := by decide +kernel
theorem zi_271_18 : zraw 271 18 = some (.ldc_w 266, 3) ∧ zit (zinf 271).1 266 = some 858993459 ∧ 18 + 3 = 21 := by decide +kernel
theorem zi_271_21 : zraw 271 21 = some (.iand, 1) ∧ 21 + 1 = 22 := by decide +kernel
theorem zi_271_22 : zraw 271 22 = some (.iadd, 1) ∧ 22 + 1 = 23 := by decide +kernel
theorem zi_271_23 : zraw 271 23 = some (.istore_n 0, 1) ∧ 23 + 1 = 24 := by decide +kernel
theorem zi_271_24 : zraw 271 24 = some (.iload_n 0, 1) ∧ 24 + 1 = 25 := by decide +kernel
theorem zi_271_25 : zraw 271 25 = some (.iload_n 0, 1) ∧ 25 + 1 = 26 := by decide +kernel
theorem zi_271_26 : zraw 271 26 = some (.iconst 4, 1) ∧ zin 128 4 = true ∧ 26 + 1 = 27 := by decide +kernel
theorem zi_271_27 : zraw 271 27 = some (.iushr, 1) ∧ 27 + 1 = 28 := by decide +kernel
theorem zi_271_28 : zraw 271 28 = some (.iadd, 1) ∧ 28 + 1 = 29 := by decide +kernel
theorem zi_271_29 : zraw 271 29 = some (.ldc_w 267, 3) ∧ zit (zinf 271).1 267 = some 252645135 ∧ 29 + 3 = 32 := by decide +kernel
theorem zi_271_32 : zraw 271 32 = some (.iand, 1) ∧ 32 + 1 = 33 := by decide +kernel
theorem zi_271_33 : zraw 271 33 = some (.istore_n 0, 1) ∧ 33 + 1 = 34 := by decide +kernel
theorem zi_271_34 : zraw 271 34 = some (.iload_n 0, 1) ∧ 34 + 1 = 35 := by decide +kernel
theorem zi_271_35 : zraw 271 35 = some (.iload_n 0, 1) ∧ 35 + 1 = 36 := by decide +kernel
theorem zi_271_36 : zraw 271 36 = some (.bipush 8, 2) ∧ zin 128 8 = true ∧ 36 + 2 = 38 := by decide +kernel
theorem zi_271_38 : zraw 271 38 = some (.iushr, 1) ∧ 38 + 1 = 39 := by decide +kernel
theorem zi_271_39 : zraw 271 39 = some (.iadd, 1) ∧ 39 + 1 = 40 := by decide +kernel
theorem zi_271_40 : zraw 271 40 = some (.istore_n 0, 1) ∧ 40 + 1 = 41 := by decide +kernel
theorem zi_271_41 : zraw 271 41 = some (.iload_n 0, 1) ∧ 41 + 1 = 42 := by decide +kernel
theorem zi_271_42 : zraw 271 42 = some (.iload_n 0, 1) ∧ 42 + 1 = 43 := by decide +kernel
theorem zi_271_43 : zraw 271 43 = some (.bipush 16, 2) ∧ zin 128 16 = true ∧ 43 + 2 = 45 := by decide +kernel
theorem zi_271_45 : zraw 271 45 = some (.iushr, 1) ∧ 45 + 1 = 46 := by decide +kernel
theorem zi_271_46 : zraw 271 46 = some (.iadd, 1) ∧ 46 + 1 = 47 := by decide +kernel
theorem zi_271_47 : zraw 271 47 = some (.istore_n 0, 1) ∧ 47 + 1 = 48 := by decide +kernel
theorem zi_271_48 : zraw 271 48 = some (.iload_n 0, 1) ∧ 48 + 1 = 49 := by decide +kernel
theorem zi_271_49 : zraw 271 49 = some (.bipush 63, 2) ∧ zin 128 63 = true ∧ 49 + 2 = 51 := by decide +kernel
theorem zi_271_51 : zraw 271 51 = some (.iand, 1) ∧ 51 + 1 = 52 := by decide +kernel
theorem zi_271_52 : zraw 271 52 = some (.ireturn, 1) ∧ (zinf 271).2.2.2.1 = 1 := by decide +kernel
theorem ze_271 {K : List zF} {σ : zW} {x0 : Int} : zEv true (zent 271 [.inl x0] :: K) σ = (zRet true K (some (.inl (zand (w32 ((w32 ((zand (w32 ((w32 ((zand (w32 (x0 - (zand (zushr x0 1) 1431655765))) 858993459) + (zand (zushr (w32 (x0 - (zand (zushr x0 1) 1431655765))) 2) 858993459))) + (zushr (w32 ((zand (w32 (x0 - (zand (zushr x0 1) 1431655765))) 858993459) + (zand (zushr (w32 (x0 - (zand (zushr x0 1) 1431655765))) 2) 858993459))) 4))) 252645135) + (zushr (zand (w32 ((w32 ((zand (w32 (x0 - (zand (zushr x0 1) 1431655765))) 858993459) + (zand (zushr (w32 (x0 - (zand (zushr x0 1) 1431655765))) 2) 858993459))) + (zushr (w32 ((zand (w32 (x0 - (zand (zushr x0 1) 1431655765))) 858993459) + (zand (zushr (w32 (x0 - (zand (zushr x0 1) 1431655765))) 2) 858993459))) 4))) 252645135) 8))) + (zushr (w32 ((zand (w32 ((w32 ((zand (w32 (x0 - (zand (zushr x0 1) 1431655765))) 858993459) + (zand (zushr (w32 (x0 - (zand (zushr x0 1) 1431655765))) 2) 858993459))) + (zushr (w32 ((zand (w32 (x0 - (zand (zushr x0 1) 1431655765))) 858993459) + (zand (zushr (w32 (x0 - (zand (zushr x0 1) 1431655765))) 2) 858993459))) 4))) 252645135) + (zushr (zand (w32 ((w32 ((zand (w32 (x0 - (zand (zushr x0 1) 1431655765))) 858993459) + (zand (zushr (w32 (x0 - (zand (zushr x0 1) 1431655765))) 2) 858993459))) + (zushr (w32 ((zand (w32 (x0 - (zand (zushr x0 1) 1431655765))) 858993459) + (zand (zushr (w32 (x0 - (zand (zushr x0 1) 1431655765))) 2) 858993459))) 4))) 252645135) 8))) 16))) 63))) σ) :=
  yT_en (f := (271, 0, [some (.inl x0)], [])) rfl (yI_iload_n zi_271_0 rfl <| yI_iload_n zi_271_1 rfl <| yI_iconst zi_271_2 <| yI_iushr zi_271_3 <| yI_ldc_w zi_271_4 <| yI_iand zi_271_7 <| yI_isub zi_271_8 <| yI_istore_n (l := [some (.inl (w32 (x0 - (zand (zushr x0 1) 1431655765))))]) zi_271_9 rfl rfl <| yI_iload_n zi_271_10 rfl <| yI_ldc_w zi_271_11 <| yI_iand zi_271_14 <| yI_iload_n zi_271_15 rfl <| yI_iconst zi_271_16 <| yI_iushr zi_271_17 <| yI_ldc_w zi_271_18 <| yI_iand zi_271_21 <| yI_iadd zi_271_22 <| yI_istore_n (l := [some (.inl (w32 ((zand (w32 (x0 - (zand (zushr x0 1) 1431655765))) 858993459) + (zand (zushr (w32 (x0 - (zand (zushr x0 1) 1431655765))) 2) 858993459))))]) zi_271_23 rfl rfl <| yI_iload_n zi_271_24 rfl <| yI_iload_n zi_271_25 rfl <| yI_iconst zi_271_26 <| yI_iushr zi_271_27 <| yI_iadd zi_271_28 <| yI_ldc_w zi_271_29 <| yI_iand zi_271_32 <| yI_istore_n (l := [some (.inl (zand (w32 ((w32 ((zand (w32 (x0 - (zand (zushr x0 1) 1431655765))) 858993459) + (zand (zushr (w32 (x0 - (zand (zushr x0 1) 1431655765))) 2) 858993459))) + (zushr (w32 ((zand (w32 (x0 - (zand (zushr x0 1) 1431655765))) 858993459) + (zand (zushr (w32 (x0 - (zand (zushr x0 1) 1431655765))) 2) 858993459))) 4))) 252645135))]) zi_271_33 rfl rfl <| yI_iload_n zi_271_34 rfl <| yI_iload_n zi_271_35 rfl <| yI_bipush zi_271_36 <| yI_iushr zi_271_38 <| yI_iadd zi_271_39 <| yI_istore_n (l := [some (.inl (w32 ((zand (w32 ((w32 ((zand (w32 (x0 - (zand (zushr x0 1) 1431655765))) 858993459) + (zand (zushr (w32 (x0 - (zand (zushr x0 1) 1431655765))) 2) 858993459))) + (zushr (w32 ((zand (w32 (x0 - (zand (zushr x0 1) 1431655765))) 858993459) + (zand (zushr (w32 (x0 - (zand (zushr x0 1) 1431655765))) 2) 858993459))) 4))) 252645135) + (zushr (zand (w32 ((w32 ((zand (w32 (x0 - (zand (zushr x0 1) 1431655765))) 858993459) + (zand (zushr (w32 (x0 - (zand (zushr x0 1) 1431655765))) 2) 858993459))) + (zushr (w32 ((zand (w32 (x0 - (zand (zushr x0 1) 1431655765))) 858993459) + (zand (zushr (w32 (x0 - (zand (zushr x0 1) 1431655765))) 2) 858993459))) 4))) 252645135) 8))))]) zi_271_40 rfl rfl <| yI_iload_n zi_271_41 rfl <| yI_iload_n zi_271_42 rfl <| yI_bipush zi_271_43 <| yI_iushr zi_271_45 <| yI_iadd zi_271_46 <| yI_istore_n (l := [some (.inl (w32 ((w32 ((zand (w32 ((w32 ((zand (w32 (x0 - (zand (zushr x0 1) 1431655765))) 858993459) + (zand (zushr (w32 (x0 - (zand (zushr x0 1) 1431655765))) 2) 858993459))) + (zushr (w32 ((zand (w32 (x0 - (zand (zushr x0 1) 1431655765))) 858993459) + (zand (zushr (w32 (x0 - (zand (zushr x0 1) 1431655765))) 2) 858993459))) 4))) 252645135) + (zushr (zand (w32 ((w32 ((zand (w32 (x0 - (zand (zushr x0 1) 1431655765))) 858993459) + (zand (zushr (w32 (x0 - (zand (zushr x0 1) 1431655765))) 2) 858993459))) + (zushr (w32 ((zand (w32 (x0 - (zand (zushr x0 1) 1431655765))) 858993459) + (zand (zushr (w32 (x0 - (zand (zushr x0 1) 1431655765))) 2) 858993459))) 4))) 252645135) 8))) + (zushr (w32 ((zand (w32 ((w32 ((zand (w32 (x0 - (zand (zushr x0 1) 1431655765))) 858993459) + (zand (zushr (w32 (x0 - (zand (zushr x0 1) 1431655765))) 2) 858993459))) + (zushr (w32 ((zand (w32 (x0 - (zand (zushr x0 1) 1431655765))) 858993459) + (zand (zushr (w32 (x0 - (zand (zushr x0 1) 1431655765))) 2) 858993459))) 4))) 252645135) + (zushr (zand (w32 ((w32 ((zand (w32 (x0 - (zand (zushr x0 1) 1431655765))) 858993459) + (zand (zushr (w32 (x0 - (zand (zushr x0 1) 1431655765))) 2) 858993459))) + (zushr (w32 ((zand (w32 (x0 - (zand (zushr x0 1) 1431655765))) 858993459) + (zand (zushr (w32 (x0 - (zand (zushr x0 1) 1431655765))) 2) 858993459))) 4))) 252645135) 8))) 16))))]) zi_271_47 rfl rfl <| yI_iload_n zi_271_48 rfl <| yI_bipush zi_271_49 <| yI_iand zi_271_51 <| yI_ireturn zi_271_52)
/-- 272 java/lang/Integer.numberOfTrailingZeros(I)I -/
theorem zi_272_0 : zraw 272 0 = some (.iload_n 0, 1) ∧ 0 + 1 = 1 := by decide +kernel
theorem zi_272_1 : zraw 272 1 = some (.iconst (-1), 1) ∧ zin 128 (-1) = true ∧ 1 + 1 = 2 := by decide +kernel
theorem zi_272_2 : zraw 272 2 = some (.ixor, 1) ∧ 2 + 1 = 3 := by decide +kernel
theorem zi_272_3 : zraw 272 3 = some (.iload_n 0, 1) ∧ 3 + 1 = 4 := by decide +kernel
theorem zi_272_4 : zraw 272 4 = some (.iconst 1, 1) ∧ zin 128 1 = true ∧ 4 + 1 = 5 := by decide +kernel
theorem zi_272_5 : zraw 272 5 = some (.isub, 1) ∧ 5 + 1 = 6 := by decide +kernel
theorem zi_272_6 : zraw 272 6 = some (.iand, 1) ∧ 6 + 1 = 7 := by decide +kernel
theorem zi_272_7 : zraw 272 7 = some (.istore_n 0, 1) ∧ 7 + 1 = 8 := by decide +kernel
theorem zi_272_8 : zraw 272 8 = some (.iload_n 0, 1) ∧ 8 + 1 = 9 := by decide +kernel
theorem zi_272_9 : zraw 272 9 = some (.ifCond .gt 8, 3) ∧ ((9 : Nat) : Int) + 8 = Int.ofNat 17 ∧ 9 + 3 = 12 := by decide +kernel
theorem zi_272_12 : zraw 272 12 = some (.iload_n 0, 1) ∧ 12 + 1 = 13 := by decide +kernel
theorem zi_272_13 : zraw 272 13 = some (.bipush 32, 2) ∧ zin 128 32 = true ∧ 13 + 2 = 15 := by decide +kernel
theorem zi_272_15 : zraw 272 15 = some (.iand, 1) ∧ 15 + 1 = 16 := by decide +kernel
theorem zi_272_16 : zraw 272 16 = some (.ireturn, 1) ∧ (zinf 272).2.2.2.1 = 1 := by decide +kernel
theorem zi_272_17 : zraw 272 17 = some (.iconst 1, 1) ∧ zin 128 1 = true ∧ 17 + 1 = 18 := by decide +kernel
theorem zi_272_18 : zraw 272 18 = some (.istore_n 1, 1) ∧ 18 + 1 = 19 := by decide +kernel
theorem zi_272_19 : zraw 272 19 = some (.iload_n 0, 1) ∧ 19 + 1 = 20 := by decide +kernel
theorem zi_272_20 : zraw 272 20 = some (.ldc_w 264, 3) ∧ zit (zinf 272).1 264 = some 65536 ∧ 20 + 3 = 23 := by decide +kernel
theorem zi_272_23 : zraw 272 23 = some (.if_icmp .le 11, 3) ∧ ((23 : Nat) : Int) + 11 = Int.ofNat 34 ∧ 23 + 3 = 26 := by decide +kernel
theorem zi_272_26 : zraw 272 26 = some (.iinc 1 16, 3) ∧ zin 32768 16 = true ∧ 26 + 3 = 29 := by decide +kernel
theorem zi_272_29 : zraw 272 29 = some (.iload_n 0, 1) ∧ 29 + 1 = 30 := by decide +kernel
theorem zi_272_30 : zraw 272 30 = some (.bipush 16, 2) ∧ zin 128 16 = true ∧ 30 + 2 = 32 := by decide +kernel
theorem zi_272_32 : zraw 272 32 = some (.iushr, 1) ∧ 32 + 1 = 33 := by decide +kernel
theorem zi_272_33 : zraw 272 33 = some (.istore_n 0, 1) ∧ 33 + 1 = 34 := by decide +kernel
theorem zi_272_34 : zraw 272 34 = some (.iload_n 0, 1) ∧ 34 + 1 = 35 := by decide +kernel
theorem zi_272_35 : zraw 272 35 = some (.sipush 256, 3) ∧ zin 32768 256 = true ∧ 35 + 3 = 38 := by decide +kernel
theorem zi_272_38 : zraw 272 38 = some (.if_icmp .le 11, 3) ∧ ((38 : Nat) : Int) + 11 = Int.ofNat 49 ∧ 38 + 3 = 41 := by decide +kernel
theorem zi_272_41 : zraw 272 41 = some (.iinc 1 8, 3) ∧ zin 32768 8 = true ∧ 41 + 3 = 44 := by decide +kernel
theorem zi_272_44 : zraw 272 44 = some (.iload_n 0, 1) ∧ 44 + 1 = 45 := by decide +kernel
theorem zi_272_45 : zraw 272 45 = some (.bipush 8, 2) ∧ zin 128 8 = true ∧ 45 + 2 = 47 := by decide +kernel
theorem zi_272_47 : zraw 272 47 = some (.iushr, 1) ∧ 47 + 1 = 48 := by decide +kernel
theorem zi_272_48 : zraw 272 48 = some (.istore_n 0, 1) ∧ 48 + 1 = 49 := by decide +kernel
theorem zi_272_49 : zraw 272 49 = some (.iload_n 0, 1) ∧ 49 + 1 = 50 := by decide +kernel
theorem zi_272_50 : zraw 272 50 = some (.bipush 16, 2) ∧ zin 128 16 = true ∧ 50 + 2 = 52 := by decide +kernel
theorem zi_272_52 : zraw 272 52 = some (.if_icmp .le 10, 3) ∧ ((52 : Nat) : Int) + 10 = Int.ofNat 62 ∧ 52 + 3 = 55 := by decide +kernel
theorem zi_272_55 : zraw 272 55 = some (.iinc 1 4, 3) ∧ zin 32768 4 = true ∧ 55 + 3 = 58 := by decide +kernel
theorem zi_272_58 : zraw 272 58 = some (.iload_n 0, 1) ∧ 58 + 1 = 59 := by decide +kernel
theorem zi_272_59 : zraw 272 59 = some (.iconst 4, 1) ∧ zin 128 4 = true ∧ 59 + 1 = 60 := by decide +kernel
theorem zi_272_60 : zraw 272 60 = some (.iushr, 1) ∧ 60 + 1 = 61 := by decide +kernel
theorem zi_272_61 : zraw 272 61 = some (.istore_n 0, 1) ∧ 61 + 1 = 62 := by decide +kernel
theorem zi_272_62 : zraw 272 62 = some (.iload_n 0, 1) ∧ 62 + 1 = 63 := by decide +kernel
theorem zi_272_63 : zraw 272 63 = some (.iconst 4, 1) ∧ zin 128 4 = true ∧ 63 + 1 = 64 := by decide +kernel
theorem zi_272_64 : zraw 272 64 = some (.if_icmp .le 10, 3) ∧ ((64 : Nat) : Int) + 10 = Int.ofNat 74 ∧ 64 + 3 = 67 := by decide +kernel
theorem zi_272_67 : zraw 272 67 = some (.iinc 1 2, 3) ∧ zin 32768 2 = true ∧ 67 + 3 = 70 := by decide +kernel
theorem zi_272_70 : zraw 272 70 = some (.iload_n 0, 1) ∧ 70 + 1 = 71 := by decide +kernel
theorem zi_272_71 : zraw 272 71 = some (.iconst 2, 1) ∧ zin 128 2 = true ∧ 71 + 1 = 72 := by decide +kernel
theorem zi_272_72 : zraw 272 72 = some (.iushr, 1) ∧ 72 + 1 = 73 := by decide +kernel
theorem zi_272_73 : zraw 272 73 = some (.istore_n 0, 1) ∧ 73 + 1 = 74 := by decide +kernel
theorem zi_272_74 : zraw 272 74 = some (.iload_n 1, 1) ∧ 74 + 1 = 75 := by decide +kernel
theorem zi_272_75 : zraw 272 75 = some (.iload_n 0, 1) ∧ 75 + 1 = 76 := by decide +kernel
theorem zi_272_76 : zraw 272 76 = some (.iconst 1, 1) ∧ zin 128 1 = true ∧ 76 + 1 = 77 := by decide +kernel
theorem zi_272_77 : zraw 272 77 = some (.iushr, 1) ∧ 77 + 1 = 78 := by decide +kernel
theorem zi_272_78 : zraw 272 78 = some (.iadd, 1) ∧ 78 + 1 = 79 := by decide +kernel
theorem zi_272_79 : zraw 272 79 = some (.ireturn, 1) ∧ (zinf 272).2.2.2.1 = 1 := by decide +kernel
theorem ze_272 {K : List zF} {σ : zW} {x0 : Int} : zEv true (zent 272 [.inl x0] :: K) σ = (if 0 < (zand (zxor x0 (-1)) (w32 (x0 - 1))) then if (zand (zxor x0 (-1)) (w32 (x0 - 1))) ≤ 65536 then zEv true ((272, 34, [some (.inl (zand (zxor x0 (-1)) (w32 (x0 - 1)))), some (.inl 1)], []) :: K) σ else zEv true ((272, 34, [some (.inl (zushr (zand (zxor x0 (-1)) (w32 (x0 - 1))) 16)), some (.inl (w32 (1 + 16)))], []) :: K) σ else zRet true K (some (.inl (zand (zand (zxor x0 (-1)) (w32 (x0 - 1))) 32))) σ) :=
  yT_en (f := (272, 0, [some (.inl x0), none], [])) rfl (yI_iload_n zi_272_0 rfl <| yI_iconst zi_272_1 <| yI_ixor zi_272_2 <| yI_iload_n zi_272_3 rfl <| yI_iconst zi_272_4 <| yI_isub zi_272_5 <| yI_iand zi_272_6 <| yI_istore_n (l := [some (.inl (zand (zxor x0 (-1)) (w32 (x0 - 1)))), none]) zi_272_7 rfl rfl <| yI_iload_n zi_272_8 rfl <| yI_if_gt zi_272_9 <| yBr (yI_iconst zi_272_17 <| yI_istore_n (l := [some (.inl (zand (zxor x0 (-1)) (w32 (x0 - 1)))), some (.inl 1)]) zi_272_18 rfl rfl <| yI_iload_n zi_272_19 rfl <| yI_ldc_w zi_272_20 <| yI_ic_le zi_272_23 <| yBr (rfl) (yI_iinc (l := [some (.inl (zand (zxor x0 (-1)) (w32 (x0 - 1)))), some (.inl (w32 (1 + 16)))]) zi_272_26 rfl rfl rfl <| yI_iload_n zi_272_29 rfl <| yI_bipush zi_272_30 <| yI_iushr zi_272_32 <| yI_istore_n (l := [some (.inl (zushr (zand (zxor x0 (-1)) (w32 (x0 - 1))) 16)), some (.inl (w32 (1 + 16)))]) zi_272_33 rfl rfl <| rfl)) (yI_iload_n zi_272_12 rfl <| yI_bipush zi_272_13 <| yI_iand zi_272_15 <| yI_ireturn zi_272_16))
theorem zj_272_34 {K : List zF} {σ : zW} {x0 : Int} {x1 : Int} : zEv true ((272, 34, [some (.inl x0), some (.inl x1)], []) :: K) σ = (if x0 ≤ 256 then zEv true ((272, 49, [some (.inl x0), some (.inl x1)], []) :: K) σ else zEv true ((272, 49, [some (.inl (zushr x0 8)), some (.inl (w32 (x1 + 8)))], []) :: K) σ) :=
  yI_iload_n zi_272_34 rfl <| yI_sipush zi_272_35 <| yI_ic_le zi_272_38 <| yBr (rfl) (yI_iinc (l := [some (.inl x0), some (.inl (w32 (x1 + 8)))]) zi_272_41 rfl rfl rfl <| yI_iload_n zi_272_44 rfl <| yI_bipush zi_272_45 <| yI_iushr zi_272_47 <| yI_istore_n (l := [some (.inl (zushr x0 8)), some (.inl (w32 (x1 + 8)))]) zi_272_48 rfl rfl <| rfl)
theorem zj_272_49 {K : List zF} {σ : zW} {x0 : Int} {x1 : Int} : zEv true ((272, 49, [some (.inl x0), some (.inl x1)], []) :: K) σ = (if x0 ≤ 16 then zEv true ((272, 62, [some (.inl x0), some (.inl x1)], []) :: K) σ else zEv true ((272, 62, [some (.inl (zushr x0 4)), some (.inl (w32 (x1 + 4)))], []) :: K) σ) :=
  yI_iload_n zi_272_49 rfl <| yI_bipush zi_272_50 <| yI_ic_le zi_272_52 <| yBr (rfl) (yI_iinc (l := [some (.inl x0), some (.inl (w32 (x1 + 4)))]) zi_272_55 rfl rfl rfl <| yI_iload_n zi_272_58 rfl <| yI_iconst zi_272_59 <| yI_iushr zi_272_60 <| yI_istore_n (l := [some (.inl (zushr x0 4)), some (.inl (w32 (x1 + 4)))]) zi_272_61 rfl rfl <| rfl)
theorem zj_272_62 {K : List zF} {σ : zW} {x0 : Int} {x1 : Int} : zEv true ((272, 62, [some (.inl x0), some (.inl x1)], []) :: K) σ = (if x0 ≤ 4 then zEv true ((272, 74, [some (.inl x0), some (.inl x1)], []) :: K) σ else zEv true ((272, 74, [some (.inl (zushr x0 2)), some (.inl (w32 (x1 + 2)))], []) :: K) σ) :=
  yI_iload_n zi_272_62 rfl <| yI_iconst zi_272_63 <| yI_ic_le zi_272_64 <| yBr (rfl) (yI_iinc (l := [some (.inl x0), some (.inl (w32 (x1 + 2)))]) zi_272_67 rfl rfl rfl <| yI_iload_n zi_272_70 rfl <| yI_iconst zi_272_71 <| yI_iushr zi_272_72 <| yI_istore_n (l := [some (.inl (zushr x0 2)), some (.inl (w32 (x1 + 2)))]) zi_272_73 rfl rfl <| rfl)
theorem zj_272_74 {K : List zF} {σ : zW} {x0 : Int} {x1 : Int} : zEv true ((272, 74, [some (.inl x0), some (.inl x1)], []) :: K) σ = (zRet true K (some (.inl (w32 (x1 + (zushr x0 1))))) σ) :=
  yI_iload_n zi_272_74 rfl <| yI_iload_n zi_272_75 rfl <| yI_iconst zi_272_76 <| yI_iushr zi_272_77 <| yI_iadd zi_272_78 <| yI_ireturn zi_272_79
/-- 273 java/lang/Long.bitCount(J)I -/
theorem zi_273_0 : zraw 273 0 = some (.lload_n 0, 1) ∧ 0 + 1 = 1 := by decide +kernel
theorem zi_273_1 : zraw 273 1 = some (.lload_n 0, 1) ∧ 1 + 1 = 2 := by decide +kernel
theorem zi_273_2 : zraw 273 2 = some (.iconst 1, 1) ∧ zin 128 1 = true ∧ 2 + 1 = 3 := by decide +kernel
theorem zi_273_3 : zraw 273 3 = some (.lushr, 1) ∧ 3 + 1 = 4 := by decide +kernel
theorem zi_273_4 : zraw 273 4 = some (.ldc2_w 314, 3) ∧ zlt (zinf 273).1 314 = some 6148914691236517205 ∧ 4 + 3 = 7 := by decide +kernel
theorem zi_273_7 : zraw 273 7 = some (.land, 1) ∧ 7 + 1 = 8 := by decide +kernel
theorem zi_273_8 : zraw 273 8 = some (.lsub, 1) ∧ 8 + 1 = 9 := by decide +kernel
theorem zi_273_9 : zraw 273 9 = some (.lstore_n 0, 1) ∧ 9 + 1 = 10 := by decide +kernel
theorem zi_273_10 : zraw 273 10 = some (.lload_n 0, 1) ∧ 10 + 1 = 11 := by decide +kernel
theorem zi_273_11 : zraw 273 11 = some (.ldc2_w 316, 3) ∧ zlt (zinf 273).1 316 = some 3689348814741910323 ∧ 11 + 3 = 14 := by decide +kernel
theorem zi_273_14 : zraw 273 14 = some (.land, 1) ∧ 14 + 1 = 15 := by decide +kernel
theorem zi_273_15 : zraw 273 15 = some (.lload_n 0, 1) ∧ 15 + 1 = 16 := by decide +kernel
theorem zi_273_16 : zraw 273 16 = some (.iconst 2, 1) ∧ zin 128 2 = true ∧ 16 + 1 = 17 := by decide +kernel
theorem zi_273_17 : zraw 273 17 = some (.lushr, 1) ∧ 17 + 1 = 18 := by decide +kernel
theorem zi_273_18 : zraw 273 18 = some (.ldc2_w 316, 3) ∧ zlt (zinf 273).1 316 = some 3689348814741910323 ∧ 18 + 3 = 21 := by decide +kernel
theorem zi_273_21 : zraw 273 21 = some (.land, 1) ∧ 21 + 1 = 22 := by decide +kernel
theorem zi_273_22 : zraw 273 22 = some (.ladd, 1) ∧ 22 + 1 = 23 := by decide +kernel
theorem zi_273_23 : zraw 273 23 = some (.lstore_n 0, 1) ∧ 23 + 1 = 24 := by decide +kernel
theorem zi_273_24 : zraw 273 24 = some (.lload_n 0, 1) ∧ 24 + 1 = 25 := by decide +kernel
theorem zi_273_25 : zraw 273 25 = some (.lload_n 0, 1) ∧ 25 + 1 = 26 := by decide +kernel
theorem zi_273_26 : zraw 273 26 = some (.iconst 4, 1) ∧ zin 128 4 = true ∧ 26 + 1 = 27 := by decide +kernel
theorem zi_273_27 : zraw 273 27 = some (.lushr, 1) ∧ 27 + 1 = 28 := by decide +kernel
theorem zi_273_28 : zraw 273 28 = some (.ladd, 1) ∧ 28 + 1 = 29 := by decide +kernel
theorem zi_273_29 : zraw 273 29 = some (.ldc2_w 318, 3) ∧ zlt (zinf 273).1 318 = some 1085102592571150095 ∧ 29 + 3 = 32 := by decide +kernel
theorem zi_273_32 : zraw 273 32 = some (.land, 1) ∧ 32 + 1 = 33 := by decide +kernel
theorem zi_273_33 : zraw 273 33 = some (.lstore_n 0, 1) ∧ 33 + 1 = 34 := by decide +kernel
theorem zi_273_34 : zraw 273 34 = some (.lload_n 0, 1) ∧ 34 + 1 = 35 := by decide +kernel
theorem zi_273_35 : zraw 273 35 = some (.lload_n 0, 1) ∧ 35 + 1 = 36 := by decide +kernel
theorem zi_273_36 : zraw 273 36 = some (.bipush 8, 2) ∧ zin 128 8 = true ∧ 36 + 2 = 38 := by decide +kernel
theorem zi_273_38 : zraw 273 38 = some (.lushr, 1) ∧ 38 + 1 = 39 := by decide +kernel
theorem zi_273_39 : zraw 273 39 = some (.ladd, 1) ∧ 39 + 1 = 40 := by decide +kernel
theorem zi_273_40 : zraw 273 40 = some (.lstore_n 0, 1) ∧ 40 + 1 = 41 := by decide +kernel
theorem zi_273_41 : zraw 273 41 = some (.lload_n 0, 1) ∧ 41 + 1 = 42 := by decide +kernel
theorem zi_273_42 : zraw 273 42 = some (.lload_n 0, 1) ∧ 42 + 1 = 43 := by decide +kernel
theorem zi_273_43 : zraw 273 43 = some (.bipush 16, 2) ∧ zin 128 16 = true ∧ 43 + 2 = 45 := by decide +kernel
theorem zi_273_45 : zraw 273 45 = some (.lushr, 1) ∧ 45 + 1 = 46 := by decide +kernel
theorem zi_273_46 : zraw 273 46 = some (.ladd, 1) ∧ 46 + 1 = 47 := by decide +kernel
theorem zi_273_47 : zraw 273 47 = some (.lstore_n 0, 1) ∧ 47 + 1 = 48 := by decide +kernel
theorem zi_273_48 : zraw 273 48 = some (.lload_n 0, 1) ∧ 48 + 1 = 49 := by decide +kernel
theorem zi_273_49 : zraw 273 49 = some (.lload_n 0, 1) ∧ 49 + 1 = 50 := by decide +kernel
theorem zi_273_50 : zraw 273 50 = some (.bipush 32, 2) ∧ zin 128 32 = true ∧ 50 + 2 = 52 := by decide +kernel
theorem zi_273_52 : zraw 273 52 = some (.lushr, 1) ∧ 52 + 1 = 53 := by decide +kernel
theorem zi_273_53 : zraw 273 53 = some (.ladd, 1) ∧ 53 + 1 = 54 := by decide +kernel
theorem zi_273_54 : zraw 273 54 = some (.lstore_n 0, 1) ∧ 54 + 1 = 55 := by decide +kernel
theorem zi_273_55 : zraw 273 55 = some (.lload_n 0, 1) ∧ 55 + 1 = 56 := by decide +kernel
theorem zi_273_56 : zraw 273 56 = some (.l2i, 1) ∧ 56 + 1 = 57 := by decide +kernel
theorem zi_273_57 : zraw 273 57 = some (.bipush 127, 2) ∧ zin 128 127 = true ∧ 57 + 2 = 59 := by decide +kernel
theorem zi_273_59 : zraw 273 59 = some (.iand, 1) ∧ 59 + 1 = 60 := by decide +kernel
theorem zi_273_60 : zraw 273 60 = some (.ireturn, 1) ∧ (zinf 273).2.2.2.1 = 1 := by decide +kernel
theorem ze_273 {K : List zF} {σ : zW} {x0 : Int64} : zEv true (zent 273 [.inr (.inl x0)] :: K) σ = (zRet true K (some (.inl (zand (zl2i ((((((((x0 - ((zlushr x0 1) &&& 6148914691236517205)) &&& 3689348814741910323) + ((zlushr (x0 - ((zlushr x0 1) &&& 6148914691236517205)) 2) &&& 3689348814741910323)) + (zlushr (((x0 - ((zlushr x0 1) &&& 6148914691236517205)) &&& 3689348814741910323) + ((zlushr (x0 - ((zlushr x0 1) &&& 6148914691236517205)) 2) &&& 3689348814741910323)) 4)) &&& 1085102592571150095) + (zlushr (((((x0 - ((zlushr x0 1) &&& 6148914691236517205)) &&& 3689348814741910323) + ((zlushr (x0 - ((zlushr x0 1) &&& 6148914691236517205)) 2) &&& 3689348814741910323)) + (zlushr (((x0 - ((zlushr x0 1) &&& 6148914691236517205)) &&& 3689348814741910323) + ((zlushr (x0 - ((zlushr x0 1) &&& 6148914691236517205)) 2) &&& 3689348814741910323)) 4)) &&& 1085102592571150095) 8)) + (zlushr ((((((x0 - ((zlushr x0 1) &&& 6148914691236517205)) &&& 3689348814741910323) + ((zlushr (x0 - ((zlushr x0 1) &&& 6148914691236517205)) 2) &&& 3689348814741910323)) + (zlushr (((x0 - ((zlushr x0 1) &&& 6148914691236517205)) &&& 3689348814741910323) + ((zlushr (x0 - ((zlushr x0 1) &&& 6148914691236517205)) 2) &&& 3689348814741910323)) 4)) &&& 1085102592571150095) + (zlushr (((((x0 - ((zlushr x0 1) &&& 6148914691236517205)) &&& 3689348814741910323) + ((zlushr (x0 - ((zlushr x0 1) &&& 6148914691236517205)) 2) &&& 3689348814741910323)) + (zlushr (((x0 - ((zlushr x0 1) &&& 6148914691236517205)) &&& 3689348814741910323) + ((zlushr (x0 - ((zlushr x0 1) &&& 6148914691236517205)) 2) &&& 3689348814741910323)) 4)) &&& 1085102592571150095) 8)) 16)) + (zlushr (((((((x0 - ((zlushr x0 1) &&& 6148914691236517205)) &&& 3689348814741910323) + ((zlushr (x0 - ((zlushr x0 1) &&& 6148914691236517205)) 2) &&& 3689348814741910323)) + (zlushr (((x0 - ((zlushr x0 1) &&& 6148914691236517205)) &&& 3689348814741910323) + ((zlushr (x0 - ((zlushr x0 1) &&& 6148914691236517205)) 2) &&& 3689348814741910323)) 4)) &&& 1085102592571150095) + (zlushr (((((x0 - ((zlushr x0 1) &&& 6148914691236517205)) &&& 3689348814741910323) + ((zlushr (x0 - ((zlushr x0 1) &&& 6148914691236517205)) 2) &&& 3689348814741910323)) + (zlushr (((x0 - ((zlushr x0 1) &&& 6148914691236517205)) &&& 3689348814741910323) + ((zlushr (x0 - ((zlushr x0 1) &&& 6148914691236517205)) 2) &&& 3689348814741910323)) 4)) &&& 1085102592571150095) 8)) + (zlushr ((((((x0 - ((zlushr x0 1) &&& 6148914691236517205)) &&& 3689348814741910323) + ((zlushr (x0 - ((zlushr x0 1) &&& 6148914691236517205)) 2) &&& 3689348814741910323)) + (zlushr (((x0 - ((zlushr x0 1) &&& 6148914691236517205)) &&& 3689348814741910323) + ((zlushr (x0 - ((zlushr x0 1) &&& 6148914691236517205)) 2) &&& 3689348814741910323)) 4)) &&& 1085102592571150095) + (zlushr (((((x0 - ((zlushr x0 1) &&& 6148914691236517205)) &&& 3689348814741910323) + ((zlushr (x0 - ((zlushr x0 1) &&& 6148914691236517205)) 2) &&& 3689348814741910323)) + (zlushr (((x0 - ((zlushr x0 1) &&& 6148914691236517205)) &&& 3689348814741910323) + ((zlushr (x0 - ((zlushr x0 1) &&& 6148914691236517205)) 2) &&& 3689348814741910323)) 4)) &&& 1085102592571150095) 8)) 16)) 32))) 127))) σ) :=
  yT_en (f := (273, 0, [some (.inr (.inl x0)), none], [])) rfl (yI_lload_n zi_273_0 rfl <| yI_lload_n zi_273_1 rfl <| yI_iconst zi_273_2 <| yI_lushr zi_273_3 <| yI_ldc2_w zi_273_4 <| yI_land zi_273_7 <| yI_lsub zi_273_8 <| yI_lstore_n (l := [some (.inr (.inl (x0 - ((zlushr x0 1) &&& 6148914691236517205)))), none]) zi_273_9 rfl rfl <| yI_lload_n zi_273_10 rfl <| yI_ldc2_w zi_273_11 <| yI_land zi_273_14 <| yI_lload_n zi_273_15 rfl <| yI_iconst zi_273_16 <| yI_lushr zi_273_17 <| yI_ldc2_w zi_273_18 <| yI_land zi_273_21 <| yI_ladd zi_273_22 <| yI_lstore_n (l := [some (.inr (.inl (((x0 - ((zlushr x0 1) &&& 6148914691236517205)) &&& 3689348814741910323) + ((zlushr (x0 - ((zlushr x0 1) &&& 6148914691236517205)) 2) &&& 3689348814741910323)))), none]) zi_273_23 rfl rfl <| yI_lload_n zi_273_24 rfl <| yI_lload_n zi_273_25 rfl <| yI_iconst zi_273_26 <| yI_lushr zi_273_27 <| yI_ladd zi_273_28 <| yI_ldc2_w zi_273_29 <| yI_land zi_273_32 <| yI_lstore_n (l := [some (.inr (.inl (((((x0 - ((zlushr x0 1) &&& 6148914691236517205)) &&& 3689348814741910323) + ((zlushr (x0 - ((zlushr x0 1) &&& 6148914691236517205)) 2) &&& 3689348814741910323)) + (zlushr (((x0 - ((zlushr x0 1) &&& 6148914691236517205)) &&& 3689348814741910323) + ((zlushr (x0 - ((zlushr x0 1) &&& 6148914691236517205)) 2) &&& 3689348814741910323)) 4)) &&& 1085102592571150095))), none]) zi_273_33 rfl rfl <| yI_lload_n zi_273_34 rfl <| yI_lload_n zi_273_35 rfl <| yI_bipush zi_273_36 <| yI_lushr zi_273_38 <| yI_ladd zi_273_39 <| yI_lstore_n (l := [some (.inr (.inl ((((((x0 - ((zlushr x0 1) &&& 6148914691236517205)) &&& 3689348814741910323) + ((zlushr (x0 - ((zlushr x0 1) &&& 6148914691236517205)) 2) &&& 3689348814741910323)) + (zlushr (((x0 - ((zlushr x0 1) &&& 6148914691236517205)) &&& 3689348814741910323) + ((zlushr (x0 - ((zlushr x0 1) &&& 6148914691236517205)) 2) &&& 3689348814741910323)) 4)) &&& 1085102592571150095) + (zlushr (((((x0 - ((zlushr x0 1) &&& 6148914691236517205)) &&& 3689348814741910323) + ((zlushr (x0 - ((zlushr x0 1) &&& 6148914691236517205)) 2) &&& 3689348814741910323)) + (zlushr (((x0 - ((zlushr x0 1) &&& 6148914691236517205)) &&& 3689348814741910323) + ((zlushr (x0 - ((zlushr x0 1) &&& 6148914691236517205)) 2) &&& 3689348814741910323)) 4)) &&& 1085102592571150095) 8)))), none]) zi_273_40 rfl rfl <| yI_lload_n zi_273_41 rfl <| yI_lload_n zi_273_42 rfl <| yI_bipush zi_273_43 <| yI_lushr zi_273_45 <| yI_ladd zi_273_46 <| yI_lstore_n (l := [some (.inr (.inl (((((((x0 - ((zlushr x0 1) &&& 6148914691236517205)) &&& 3689348814741910323) + ((zlushr (x0 - ((zlushr x0 1) &&& 6148914691236517205)) 2) &&& 3689348814741910323)) + (zlushr (((x0 - ((zlushr x0 1) &&& 6148914691236517205)) &&& 3689348814741910323) + ((zlushr (x0 - ((zlushr x0 1) &&& 6148914691236517205)) 2) &&& 3689348814741910323)) 4)) &&& 1085102592571150095) + (zlushr (((((x0 - ((zlushr x0 1) &&& 6148914691236517205)) &&& 3689348814741910323) + ((zlushr (x0 - ((zlushr x0 1) &&& 6148914691236517205)) 2) &&& 3689348814741910323)) + (zlushr (((x0 - ((zlushr x0 1) &&& 6148914691236517205)) &&& 3689348814741910323) + ((zlushr (x0 - ((zlushr x0 1) &&& 6148914691236517205)) 2) &&& 3689348814741910323)) 4)) &&& 1085102592571150095) 8)) + (zlushr ((((((x0 - ((zlushr x0 1) &&& 6148914691236517205)) &&& 3689348814741910323) + ((zlushr (x0 - ((zlushr x0 1) &&& 6148914691236517205)) 2) &&& 3689348814741910323)) + (zlushr (((x0 - ((zlushr x0 1) &&& 6148914691236517205)) &&& 3689348814741910323) + ((zlushr (x0 - ((zlushr x0 1) &&& 6148914691236517205)) 2) &&& 3689348814741910323)) 4)) &&& 1085102592571150095) + (zlushr (((((x0 - ((zlushr x0 1) &&& 6148914691236517205)) &&& 3689348814741910323) + ((zlushr (x0 - ((zlushr x0 1) &&& 6148914691236517205)) 2) &&& 3689348814741910323)) + (zlushr (((x0 - ((zlushr x0 1) &&& 6148914691236517205)) &&& 3689348814741910323) + ((zlushr (x0 - ((zlushr x0 1) &&& 6148914691236517205)) 2) &&& 3689348814741910323)) 4)) &&& 1085102592571150095) 8)) 16)))), none]) zi_273_47 rfl rfl <| yI_lload_n zi_273_48 rfl <| yI_lload_n zi_273_49 rfl <| yI_bipush zi_273_50 <| yI_lushr zi_273_52 <| yI_ladd zi_273_53 <| yI_lstore_n (l := [some (.inr (.inl ((((((((x0 - ((zlushr x0 1) &&& 6148914691236517205)) &&& 3689348814741910323) + ((zlushr (x0 - ((zlushr x0 1) &&& 6148914691236517205)) 2) &&& 3689348814741910323)) + (zlushr (((x0 - ((zlushr x0 1) &&& 6148914691236517205)) &&& 3689348814741910323) + ((zlushr (x0 - ((zlushr x0 1) &&& 6148914691236517205)) 2) &&& 3689348814741910323)) 4)) &&& 1085102592571150095) + (zlushr (((((x0 - ((zlushr x0 1) &&& 6148914691236517205)) &&& 3689348814741910323) + ((zlushr (x0 - ((zlushr x0 1) &&& 6148914691236517205)) 2) &&& 3689348814741910323)) + (zlushr (((x0 - ((zlushr x0 1) &&& 6148914691236517205)) &&& 3689348814741910323) + ((zlushr (x0 - ((zlushr x0 1) &&& 6148914691236517205)) 2) &&& 3689348814741910323)) 4)) &&& 1085102592571150095) 8)) + (zlushr ((((((x0 - ((zlushr x0 1) &&& 6148914691236517205)) &&& 3689348814741910323) + ((zlushr (x0 - ((zlushr x0 1) &&& 6148914691236517205)) 2) &&& 3689348814741910323)) + (zlushr (((x0 - ((zlushr x0 1) &&& 6148914691236517205)) &&& 3689348814741910323) + ((zlushr (x0 - ((zlushr x0 1) &&& 6148914691236517205)) 2) &&& 3689348814741910323)) 4)) &&& 1085102592571150095) + (zlushr (((((x0 - ((zlushr x0 1) &&& 6148914691236517205)) &&& 3689348814741910323) + ((zlushr (x0 - ((zlushr x0 1) &&& 6148914691236517205)) 2) &&& 3689348814741910323)) + (zlushr (((x0 - ((zlushr x0 1) &&& 6148914691236517205)) &&& 3689348814741910323) + ((zlushr (x0 - ((zlushr x0 1) &&& 6148914691236517205)) 2) &&& 3689348814741910323)) 4)) &&& 1085102592571150095) 8)) 16)) + (zlushr (((((((x0 - ((zlushr x0 1) &&& 6148914691236517205)) &&& 3689348814741910323) + ((zlushr (x0 - ((zlushr x0 1) &&& 6148914691236517205)) 2) &&& 3689348814741910323)) + (zlushr (((x0 - ((zlushr x0 1) &&& 6148914691236517205)) &&& 3689348814741910323) + ((zlushr (x0 - ((zlushr x0 1) &&& 6148914691236517205)) 2) &&& 3689348814741910323)) 4)) &&& 1085102592571150095) + (zlushr (((((x0 - ((zlushr x0 1) &&& 6148914691236517205)) &&& 3689348814741910323) + ((zlushr (x0 - ((zlushr x0 1) &&& 6148914691236517205)) 2) &&& 3689348814741910323)) + (zlushr (((x0 - ((zlushr x0 1) &&& 6148914691236517205)) &&& 3689348814741910323) + ((zlushr (x0 - ((zlushr x0 1) &&& 6148914691236517205)) 2) &&& 3689348814741910323)) 4)) &&& 1085102592571150095) 8)) + (zlushr ((((((x0 - ((zlushr x0 1) &&& 6148914691236517205)) &&& 3689348814741910323) + ((zlushr (x0 - ((zlushr x0 1) &&& 6148914691236517205)) 2) &&& 3689348814741910323)) + (zlushr (((x0 - ((zlushr x0 1) &&& 6148914691236517205)) &&& 3689348814741910323) + ((zlushr (x0 - ((zlushr x0 1) &&& 6148914691236517205)) 2) &&& 3689348814741910323)) 4)) &&& 1085102592571150095) + (zlushr (((((x0 - ((zlushr x0 1) &&& 6148914691236517205)) &&& 3689348814741910323) + ((zlushr (x0 - ((zlushr x0 1) &&& 6148914691236517205)) 2) &&& 3689348814741910323)) + (zlushr (((x0 - ((zlushr x0 1) &&& 6148914691236517205)) &&& 3689348814741910323) + ((zlushr (x0 - ((zlushr x0 1) &&& 6148914691236517205)) 2) &&& 3689348814741910323)) 4)) &&& 1085102592571150095) 8)) 16)) 32)))), none]) zi_273_54 rfl rfl <| yI_lload_n zi_273_55 rfl <| yI_l2i zi_273_56 <| yI_bipush zi_273_57 <| yI_iand zi_273_59 <| yI_ireturn zi_273_60)
/-- 274 java/lang/Long.numberOfTrailingZeros(J)I -/
theorem zi_274_0 : zraw 274 0 = some (.lload_n 0, 1) ∧ 0 + 1 = 1 := by decide +kernel
theorem zi_274_1 : zraw 274 1 = some (.l2i, 1) ∧ 1 + 1 = 2 := by decide +kernel
theorem zi_274_2 : zraw 274 2 = some (.istore_n 2, 1) ∧ 2 + 1 = 3 := by decide +kernel
theorem zi_274_3 : zraw 274 3 = some (.iload_n 2, 1) ∧ 3 + 1 = 4 := by decide +kernel
theorem zi_274_4 : zraw 274 4 = some (.ifCond .ne 17, 3) ∧ ((4 : Nat) : Int) + 17 = Int.ofNat 21 ∧ 4 + 3 = 7 := by decide +kernel
theorem zi_274_7 : zraw 274 7 = some (.bipush 32, 2) ∧ zin 128 32 = true ∧ 7 + 2 = 9 := by decide +kernel
theorem zi_274_9 : zraw 274 9 = some (.lload_n 0, 1) ∧ 9 + 1 = 10 := by decide +kernel
theorem zi_274_10 : zraw 274 10 = some (.bipush 32, 2) ∧ zin 128 32 = true ∧ 10 + 2 = 12 := by decide +kernel
theorem zi_274_12 : zraw 274 12 = some (.lushr, 1) ∧ 12 + 1 = 13 := by decide +kernel
theorem zi_274_13 : zraw 274 13 = some (.l2i, 1) ∧ 13 + 1 = 14 := by decide +kernel
theorem zi_274_14 : zraw 274 14 = some (.invokestatic 311, 3) ∧ zmt (zinf 274).1 311 = some 272 ∧ Nat.ble 9000 272 = false ∧ zinf 272 = (12, 1, 2, 1, 1) ∧ 14 + 3 = 17 := by decide +kernel
theorem zi_274_17 : zraw 274 17 = some (.iadd, 1) ∧ 17 + 1 = 18 := by decide +kernel
theorem zi_274_18 : zraw 274 18 = some (.goto 7, 3) ∧ ((18 : Nat) : Int) + 7 = Int.ofNat 25 := by decide +kernel
theorem zi_274_21 : zraw 274 21 = some (.iload_n 2, 1) ∧ 21 + 1 = 22 := by decide +kernel
theorem zi_274_22 : zraw 274 22 = some (.invokestatic 311, 3) ∧ zmt (zinf 274).1 311 = some 272 ∧ Nat.ble 9000 272 = false ∧ zinf 272 = (12, 1, 2, 1, 1) ∧ 22 + 3 = 25 := by decide +kernel
theorem zi_274_25 : zraw 274 25 = some (.ireturn, 1) ∧ (zinf 274).2.2.2.1 = 1 := by decide +kernel
theorem ze_274 {K : List zF} {σ : zW} {x0 : Int64} (hK : K.length < 60) : zEv true (zent 274 [.inr (.inl x0)] :: K) σ = (if ¬ (zl2i x0) = 0 then zEv true (zent 272 [.inl (zl2i x0)] :: (274, 25, [some (.inr (.inl x0)), none, some (.inl (zl2i x0))], []) :: K) σ else zEv true (zent 272 [.inl (zl2i (zlushr x0 32))] :: (274, 17, [some (.inr (.inl x0)), none, some (.inl (zl2i x0))], [.inl 32]) :: K) σ) :=
  yT_en (f := (274, 0, [some (.inr (.inl x0)), none, none], [])) rfl (yI_lload_n zi_274_0 rfl <| yI_l2i zi_274_1 <| yI_istore_n (l := [some (.inr (.inl x0)), none, some (.inl (zl2i x0))]) zi_274_2 rfl rfl <| yI_iload_n zi_274_3 rfl <| yI_if_ne zi_274_4 <| yBr (yI_iload_n zi_274_21 rfl <| yI_cs zi_274_22 rfl rfl hK) (yI_bipush zi_274_7 <| yI_lload_n zi_274_9 rfl <| yI_bipush zi_274_10 <| yI_lushr zi_274_12 <| yI_l2i zi_274_13 <| yI_cs zi_274_14 rfl rfl hK))
theorem zr_274_25 {K : List zF} {σ : zW} {o0 : Option zV} {o1 : Option zV} {o2 : Option zV} {v : Int} : zRet true ((274, 25, [o0, o1, o2], []) :: K) (some (.inl v)) σ = (zRet true K (some (.inl v)) σ) :=
  yT_rt (yI_ireturn zi_274_25)
theorem zr_274_17 {K : List zF} {σ : zW} {o0 : Option zV} {o1 : Option zV} {o2 : Option zV} {s0 : Int} {v : Int} : zRet true ((274, 17, [o0, o1, o2], [.inl s0]) :: K) (some (.inl v)) σ = (zRet true K (some (.inl (w32 (s0 + v)))) σ) :=
  yT_rt (yI_iadd zi_274_17 <| yI_goto zi_274_18 <| yI_ireturn zi_274_25)
