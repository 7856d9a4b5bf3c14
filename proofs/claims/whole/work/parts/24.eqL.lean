/-! PRINTED by wip/whole/gen6.py -/
theorem i_Law_law_0 : ix_nx mLaw_law 0 = some (2, .new 7, 3, none, [0, 0], 0) := rfl
theorem i_Law_law_3 : ix_nx mLaw_law 3 = some (0, .dup, 4, none, [], 0) := rfl
theorem i_Law_law_4 : ix_nx mLaw_law 4 = some (3, .invokespecial 9, 7, none, [2, 0, 251], 0) := rfl
theorem i_Law_law_7 : ix_nx mLaw_law 7 = some (0, .astore_n 1, 8, none, [], 0) := rfl
theorem i_Law_law_8 : ix_nx mLaw_law 8 = some (2, .new 10, 11, none, [11, 12], 0) := rfl
theorem i_Law_law_11 : ix_nx mLaw_law 11 = some (0, .dup, 12, none, [], 0) := rfl
theorem i_Law_law_12 : ix_nx mLaw_law 12 = some (3, .invokespecial 12, 15, none, [2, 145, 252], 0) := rfl
theorem i_Law_law_15 : ix_nx mLaw_law 15 = some (0, .astore_n 2, 16, none, [], 0) := rfl
theorem i_Law_law_16 : ix_nx mLaw_law 16 = some (0, .iconst 0, 17, none, [], 0) := rfl
theorem i_Law_law_17 : ix_nx mLaw_law 17 = some (0, .istore_n 3, 18, none, [], 0) := rfl
theorem i_Law_law_18 : ix_nx mLaw_law 18 = some (0, .iload_n 3, 19, some [true, true, true, true], [], 0) := rfl
theorem i_Law_law_19 : ix_nx mLaw_law 19 = some (0, .aload_n 0, 20, none, [], 0) := rfl
theorem i_Law_law_20 : ix_nx mLaw_law 20 = some (1, .arraylength, 21, none, [], 0) := rfl
theorem i_Law_law_21 : ix_nx mLaw_law 21 = some (0, .iconst 4, 22, none, [], 0) := rfl
theorem i_Law_law_22 : ix_nx mLaw_law 22 = some (0, .isub, 23, none, [], 0) := rfl
theorem i_Law_law_23 : ix_nx mLaw_law 23 = some (0, .if_icmp .gt 1045, 26, none, [], 0) := rfl
theorem i_Law_law_26 : ix_nx mLaw_law 26 = some (0, .aload_n 0, 27, none, [], 0) := rfl
theorem i_Law_law_27 : ix_nx mLaw_law 27 = some (0, .iload_n 3, 28, none, [], 0) := rfl
theorem i_Law_law_28 : ix_nx mLaw_law 28 = some (1, .iaload, 29, none, [], 0) := rfl
theorem i_Law_law_29 : ix_nx mLaw_law 29 = some (0, .bipush 63, 31, none, [], 0) := rfl
theorem i_Law_law_31 : ix_nx mLaw_law 31 = some (0, .iand, 32, none, [], 0) := rfl
theorem i_Law_law_32 : ix_nx mLaw_law 32 = some (0, .tableswitch 1030 0 32 #[148, 181, 214, 247, 280, 303, 336, 389, 402, 415, 428, 462, 495, 508, 522, 536, 569, 612, 625, 658, 681, 704, 717, 740, 773, 796, 829, 862, 895, 928, 961, 984, 1007], 180, none, [], 0) := rfl
theorem i_Law_law_180 : ix_nx mLaw_law 180 = some (0, .aload_n 1, 181, none, [], 0) := rfl
theorem i_Law_law_181 : ix_nx mLaw_law 181 = some (0, .aload_n 0, 182, none, [], 0) := rfl
theorem i_Law_law_182 : ix_nx mLaw_law 182 = some (0, .iload_n 3, 183, none, [], 0) := rfl
theorem i_Law_law_183 : ix_nx mLaw_law 183 = some (0, .iconst 1, 184, none, [], 0) := rfl
theorem i_Law_law_184 : ix_nx mLaw_law 184 = some (0, .iadd, 185, none, [], 0) := rfl
theorem i_Law_law_185 : ix_nx mLaw_law 185 = some (1, .iaload, 186, none, [], 0) := rfl
theorem i_Law_law_186 : ix_nx mLaw_law 186 = some (0, .aload_n 0, 187, none, [], 0) := rfl
theorem i_Law_law_187 : ix_nx mLaw_law 187 = some (0, .iload_n 3, 188, none, [], 0) := rfl
theorem i_Law_law_188 : ix_nx mLaw_law 188 = some (0, .iconst 2, 189, none, [], 0) := rfl
theorem i_Law_law_189 : ix_nx mLaw_law 189 = some (0, .iadd, 190, none, [], 0) := rfl
theorem i_Law_law_190 : ix_nx mLaw_law 190 = some (1, .iaload, 191, none, [], 0) := rfl
theorem i_Law_law_191 : ix_nx mLaw_law 191 = some (3, .invokevirtual 13, 194, none, [0, 2, 253], 0) := rfl
theorem i_Law_law_194 : ix_nx mLaw_law 194 = some (0, .aload_n 2, 195, none, [], 0) := rfl
theorem i_Law_law_195 : ix_nx mLaw_law 195 = some (0, .aload_n 0, 196, none, [], 0) := rfl
theorem i_Law_law_196 : ix_nx mLaw_law 196 = some (0, .iload_n 3, 197, none, [], 0) := rfl
theorem i_Law_law_197 : ix_nx mLaw_law 197 = some (0, .iconst 1, 198, none, [], 0) := rfl
theorem i_Law_law_198 : ix_nx mLaw_law 198 = some (0, .iadd, 199, none, [], 0) := rfl
theorem i_Law_law_199 : ix_nx mLaw_law 199 = some (1, .iaload, 200, none, [], 0) := rfl
theorem i_Law_law_200 : ix_nx mLaw_law 200 = some (0, .aload_n 0, 201, none, [], 0) := rfl
theorem i_Law_law_201 : ix_nx mLaw_law 201 = some (0, .iload_n 3, 202, none, [], 0) := rfl
theorem i_Law_law_202 : ix_nx mLaw_law 202 = some (0, .iconst 2, 203, none, [], 0) := rfl
theorem i_Law_law_203 : ix_nx mLaw_law 203 = some (0, .iadd, 204, none, [], 0) := rfl
theorem i_Law_law_204 : ix_nx mLaw_law 204 = some (1, .iaload, 205, none, [], 0) := rfl
theorem i_Law_law_205 : ix_nx mLaw_law 205 = some (3, .invokevirtual 17, 208, none, [0, 147, 254], 0) := rfl
theorem i_Law_law_208 : ix_nx mLaw_law 208 = some (0, .if_icmp .eq 854, 211, none, [], 0) := rfl
theorem i_Law_law_211 : ix_nx mLaw_law 211 = some (0, .iconst 0, 212, none, [], 0) := rfl
theorem i_Law_law_212 : ix_nx mLaw_law 212 = some (4, .ireturn, 213, none, [], 0) := rfl
theorem i_Law_law_213 : ix_nx mLaw_law 213 = some (0, .aload_n 1, 214, none, [], 0) := rfl
theorem i_Law_law_214 : ix_nx mLaw_law 214 = some (0, .aload_n 0, 215, none, [], 0) := rfl
theorem i_Law_law_215 : ix_nx mLaw_law 215 = some (0, .iload_n 3, 216, none, [], 0) := rfl
theorem i_Law_law_216 : ix_nx mLaw_law 216 = some (0, .iconst 1, 217, none, [], 0) := rfl
theorem i_Law_law_217 : ix_nx mLaw_law 217 = some (0, .iadd, 218, none, [], 0) := rfl
theorem i_Law_law_218 : ix_nx mLaw_law 218 = some (1, .iaload, 219, none, [], 0) := rfl
theorem i_Law_law_219 : ix_nx mLaw_law 219 = some (0, .aload_n 0, 220, none, [], 0) := rfl
theorem i_Law_law_220 : ix_nx mLaw_law 220 = some (0, .iload_n 3, 221, none, [], 0) := rfl
theorem i_Law_law_221 : ix_nx mLaw_law 221 = some (0, .iconst 2, 222, none, [], 0) := rfl
theorem i_Law_law_222 : ix_nx mLaw_law 222 = some (0, .iadd, 223, none, [], 0) := rfl
theorem i_Law_law_223 : ix_nx mLaw_law 223 = some (1, .iaload, 224, none, [], 0) := rfl
theorem i_Law_law_224 : ix_nx mLaw_law 224 = some (3, .invokevirtual 18, 227, none, [0, 4, 255], 0) := rfl
theorem i_Law_law_227 : ix_nx mLaw_law 227 = some (0, .aload_n 2, 228, none, [], 0) := rfl
theorem i_Law_law_228 : ix_nx mLaw_law 228 = some (0, .aload_n 0, 229, none, [], 0) := rfl
theorem i_Law_law_229 : ix_nx mLaw_law 229 = some (0, .iload_n 3, 230, none, [], 0) := rfl
theorem i_Law_law_230 : ix_nx mLaw_law 230 = some (0, .iconst 1, 231, none, [], 0) := rfl
theorem i_Law_law_231 : ix_nx mLaw_law 231 = some (0, .iadd, 232, none, [], 0) := rfl
theorem i_Law_law_232 : ix_nx mLaw_law 232 = some (1, .iaload, 233, none, [], 0) := rfl
theorem i_Law_law_233 : ix_nx mLaw_law 233 = some (0, .aload_n 0, 234, none, [], 0) := rfl
theorem i_Law_law_234 : ix_nx mLaw_law 234 = some (0, .iload_n 3, 235, none, [], 0) := rfl
theorem i_Law_law_235 : ix_nx mLaw_law 235 = some (0, .iconst 2, 236, none, [], 0) := rfl
theorem i_Law_law_236 : ix_nx mLaw_law 236 = some (0, .iadd, 237, none, [], 0) := rfl
theorem i_Law_law_237 : ix_nx mLaw_law 237 = some (1, .iaload, 238, none, [], 0) := rfl
theorem i_Law_law_238 : ix_nx mLaw_law 238 = some (3, .invokevirtual 21, 241, none, [0, 150, 256], 0) := rfl
theorem i_Law_law_241 : ix_nx mLaw_law 241 = some (0, .if_icmp .eq 821, 244, none, [], 0) := rfl
theorem i_Law_law_244 : ix_nx mLaw_law 244 = some (0, .iconst 0, 245, none, [], 0) := rfl
theorem i_Law_law_245 : ix_nx mLaw_law 245 = some (4, .ireturn, 246, none, [], 0) := rfl
theorem i_Law_law_246 : ix_nx mLaw_law 246 = some (0, .aload_n 1, 247, none, [], 0) := rfl
theorem i_Law_law_247 : ix_nx mLaw_law 247 = some (0, .aload_n 0, 248, none, [], 0) := rfl
theorem i_Law_law_248 : ix_nx mLaw_law 248 = some (0, .iload_n 3, 249, none, [], 0) := rfl
theorem i_Law_law_249 : ix_nx mLaw_law 249 = some (0, .iconst 1, 250, none, [], 0) := rfl
theorem i_Law_law_250 : ix_nx mLaw_law 250 = some (0, .iadd, 251, none, [], 0) := rfl
set_option maxRecDepth 50000 in
theorem i_Law_law_251 : ix_nx mLaw_law 251 = some (1, .iaload, 252, none, [], 0) := rfl
set_option maxRecDepth 50000 in
theorem i_Law_law_252 : ix_nx mLaw_law 252 = some (0, .aload_n 0, 253, none, [], 0) := rfl
set_option maxRecDepth 50000 in
theorem i_Law_law_253 : ix_nx mLaw_law 253 = some (0, .iload_n 3, 254, none, [], 0) := rfl
set_option maxRecDepth 50000 in
theorem i_Law_law_254 : ix_nx mLaw_law 254 = some (0, .iconst 2, 255, none, [], 0) := rfl
set_option maxRecDepth 50000 in
theorem i_Law_law_255 : ix_nx mLaw_law 255 = some (0, .iadd, 256, none, [], 0) := rfl
set_option maxRecDepth 50000 in
theorem i_Law_law_256 : ix_nx mLaw_law 256 = some (1, .iaload, 257, none, [], 0) := rfl
set_option maxRecDepth 50000 in
theorem i_Law_law_257 : ix_nx mLaw_law 257 = some (3, .invokevirtual 22, 260, none, [0, 7, 257], 0) := rfl
set_option maxRecDepth 50000 in
theorem i_Law_law_260 : ix_nx mLaw_law 260 = some (0, .aload_n 2, 261, none, [], 0) := rfl
set_option maxRecDepth 50000 in
theorem i_Law_law_261 : ix_nx mLaw_law 261 = some (0, .aload_n 0, 262, none, [], 0) := rfl
set_option maxRecDepth 50000 in
theorem i_Law_law_262 : ix_nx mLaw_law 262 = some (0, .iload_n 3, 263, none, [], 0) := rfl
set_option maxRecDepth 50000 in
theorem i_Law_law_263 : ix_nx mLaw_law 263 = some (0, .iconst 1, 264, none, [], 0) := rfl
set_option maxRecDepth 50000 in
theorem i_Law_law_264 : ix_nx mLaw_law 264 = some (0, .iadd, 265, none, [], 0) := rfl
set_option maxRecDepth 50000 in
theorem i_Law_law_265 : ix_nx mLaw_law 265 = some (1, .iaload, 266, none, [], 0) := rfl
set_option maxRecDepth 50000 in
theorem i_Law_law_266 : ix_nx mLaw_law 266 = some (0, .aload_n 0, 267, none, [], 0) := rfl
set_option maxRecDepth 50000 in
theorem i_Law_law_267 : ix_nx mLaw_law 267 = some (0, .iload_n 3, 268, none, [], 0) := rfl
set_option maxRecDepth 50000 in
theorem i_Law_law_268 : ix_nx mLaw_law 268 = some (0, .iconst 2, 269, none, [], 0) := rfl
set_option maxRecDepth 50000 in
theorem i_Law_law_269 : ix_nx mLaw_law 269 = some (0, .iadd, 270, none, [], 0) := rfl
set_option maxRecDepth 50000 in
theorem i_Law_law_270 : ix_nx mLaw_law 270 = some (1, .iaload, 271, none, [], 0) := rfl
set_option maxRecDepth 50000 in
theorem i_Law_law_271 : ix_nx mLaw_law 271 = some (3, .invokevirtual 25, 274, none, [0, 153, 258], 0) := rfl
set_option maxRecDepth 50000 in
theorem i_Law_law_274 : ix_nx mLaw_law 274 = some (0, .if_icmp .eq 788, 277, none, [], 0) := rfl
set_option maxRecDepth 50000 in
theorem i_Law_law_277 : ix_nx mLaw_law 277 = some (0, .iconst 0, 278, none, [], 0) := rfl
set_option maxRecDepth 50000 in
theorem i_Law_law_278 : ix_nx mLaw_law 278 = some (4, .ireturn, 279, none, [], 0) := rfl
set_option maxRecDepth 50000 in
theorem i_Law_law_279 : ix_nx mLaw_law 279 = some (0, .aload_n 1, 280, none, [], 0) := rfl
set_option maxRecDepth 50000 in
theorem i_Law_law_280 : ix_nx mLaw_law 280 = some (0, .aload_n 0, 281, none, [], 0) := rfl
set_option maxRecDepth 50000 in
theorem i_Law_law_281 : ix_nx mLaw_law 281 = some (0, .iload_n 3, 282, none, [], 0) := rfl
set_option maxRecDepth 50000 in
theorem i_Law_law_282 : ix_nx mLaw_law 282 = some (0, .iconst 1, 283, none, [], 0) := rfl
set_option maxRecDepth 50000 in
theorem i_Law_law_283 : ix_nx mLaw_law 283 = some (0, .iadd, 284, none, [], 0) := rfl
set_option maxRecDepth 50000 in
theorem i_Law_law_284 : ix_nx mLaw_law 284 = some (1, .iaload, 285, none, [], 0) := rfl
set_option maxRecDepth 50000 in
theorem i_Law_law_285 : ix_nx mLaw_law 285 = some (0, .aload_n 0, 286, none, [], 0) := rfl
set_option maxRecDepth 50000 in
theorem i_Law_law_286 : ix_nx mLaw_law 286 = some (0, .iload_n 3, 287, none, [], 0) := rfl
set_option maxRecDepth 50000 in
theorem i_Law_law_287 : ix_nx mLaw_law 287 = some (0, .iconst 2, 288, none, [], 0) := rfl
set_option maxRecDepth 50000 in
theorem i_Law_law_288 : ix_nx mLaw_law 288 = some (0, .iadd, 289, none, [], 0) := rfl
set_option maxRecDepth 50000 in
theorem i_Law_law_289 : ix_nx mLaw_law 289 = some (1, .iaload, 290, none, [], 0) := rfl
set_option maxRecDepth 50000 in
theorem i_Law_law_290 : ix_nx mLaw_law 290 = some (3, .invokevirtual 26, 293, none, [0, 9, 259], 0) := rfl
set_option maxRecDepth 50000 in
theorem i_Law_law_293 : ix_nx mLaw_law 293 = some (0, .aload_n 2, 294, none, [], 0) := rfl
set_option maxRecDepth 50000 in
theorem i_Law_law_294 : ix_nx mLaw_law 294 = some (0, .aload_n 0, 295, none, [], 0) := rfl
set_option maxRecDepth 50000 in
theorem i_Law_law_295 : ix_nx mLaw_law 295 = some (0, .iload_n 3, 296, none, [], 0) := rfl
set_option maxRecDepth 50000 in
theorem i_Law_law_296 : ix_nx mLaw_law 296 = some (0, .iconst 1, 297, none, [], 0) := rfl
set_option maxRecDepth 50000 in
theorem i_Law_law_297 : ix_nx mLaw_law 297 = some (0, .iadd, 298, none, [], 0) := rfl
set_option maxRecDepth 50000 in
theorem i_Law_law_298 : ix_nx mLaw_law 298 = some (1, .iaload, 299, none, [], 0) := rfl
set_option maxRecDepth 50000 in
theorem i_Law_law_299 : ix_nx mLaw_law 299 = some (0, .aload_n 0, 300, none, [], 0) := rfl
set_option maxRecDepth 50000 in
theorem i_Law_law_300 : ix_nx mLaw_law 300 = some (0, .iload_n 3, 301, none, [], 0) := rfl
set_option maxRecDepth 50000 in
theorem i_Law_law_301 : ix_nx mLaw_law 301 = some (0, .iconst 2, 302, none, [], 0) := rfl
set_option maxRecDepth 50000 in
theorem i_Law_law_302 : ix_nx mLaw_law 302 = some (0, .iadd, 303, none, [], 0) := rfl
set_option maxRecDepth 50000 in
theorem i_Law_law_303 : ix_nx mLaw_law 303 = some (1, .iaload, 304, none, [], 0) := rfl
set_option maxRecDepth 50000 in
theorem i_Law_law_304 : ix_nx mLaw_law 304 = some (3, .invokevirtual 29, 307, none, [0, 154, 260], 0) := rfl
set_option maxRecDepth 50000 in
theorem i_Law_law_307 : ix_nx mLaw_law 307 = some (0, .if_icmp .eq 755, 310, none, [], 0) := rfl
set_option maxRecDepth 50000 in
theorem i_Law_law_310 : ix_nx mLaw_law 310 = some (0, .iconst 0, 311, none, [], 0) := rfl
set_option maxRecDepth 50000 in
theorem i_Law_law_311 : ix_nx mLaw_law 311 = some (4, .ireturn, 312, none, [], 0) := rfl
set_option maxRecDepth 50000 in
theorem i_Law_law_312 : ix_nx mLaw_law 312 = some (0, .aload_n 1, 313, none, [], 0) := rfl
set_option maxRecDepth 50000 in
theorem i_Law_law_313 : ix_nx mLaw_law 313 = some (0, .aload_n 0, 314, none, [], 0) := rfl
set_option maxRecDepth 50000 in
theorem i_Law_law_314 : ix_nx mLaw_law 314 = some (0, .iload_n 3, 315, none, [], 0) := rfl
set_option maxRecDepth 50000 in
theorem i_Law_law_315 : ix_nx mLaw_law 315 = some (0, .iconst 1, 316, none, [], 0) := rfl
set_option maxRecDepth 50000 in
theorem i_Law_law_316 : ix_nx mLaw_law 316 = some (0, .iadd, 317, none, [], 0) := rfl
set_option maxRecDepth 50000 in
theorem i_Law_law_317 : ix_nx mLaw_law 317 = some (1, .iaload, 318, none, [], 0) := rfl
set_option maxRecDepth 50000 in
theorem i_Law_law_318 : ix_nx mLaw_law 318 = some (3, .invokevirtual 30, 321, none, [0, 11, 261], 0) := rfl
set_option maxRecDepth 50000 in
theorem i_Law_law_321 : ix_nx mLaw_law 321 = some (0, .aload_n 2, 322, none, [], 0) := rfl
set_option maxRecDepth 50000 in
theorem i_Law_law_322 : ix_nx mLaw_law 322 = some (0, .aload_n 0, 323, none, [], 0) := rfl
set_option maxRecDepth 50000 in
theorem i_Law_law_323 : ix_nx mLaw_law 323 = some (0, .iload_n 3, 324, none, [], 0) := rfl
set_option maxRecDepth 50000 in
theorem i_Law_law_324 : ix_nx mLaw_law 324 = some (0, .iconst 1, 325, none, [], 0) := rfl
set_option maxRecDepth 50000 in
theorem i_Law_law_325 : ix_nx mLaw_law 325 = some (0, .iadd, 326, none, [], 0) := rfl
set_option maxRecDepth 50000 in
theorem i_Law_law_326 : ix_nx mLaw_law 326 = some (1, .iaload, 327, none, [], 0) := rfl
set_option maxRecDepth 50000 in
theorem i_Law_law_327 : ix_nx mLaw_law 327 = some (3, .invokevirtual 34, 330, none, [0, 156, 262], 0) := rfl
set_option maxRecDepth 50000 in
theorem i_Law_law_330 : ix_nx mLaw_law 330 = some (0, .if_icmp .eq 732, 333, none, [], 0) := rfl
set_option maxRecDepth 50000 in
theorem i_Law_law_333 : ix_nx mLaw_law 333 = some (0, .iconst 0, 334, none, [], 0) := rfl
set_option maxRecDepth 50000 in
theorem i_Law_law_334 : ix_nx mLaw_law 334 = some (4, .ireturn, 335, none, [], 0) := rfl
set_option maxRecDepth 50000 in
theorem i_Law_law_335 : ix_nx mLaw_law 335 = some (0, .aload_n 1, 336, none, [], 0) := rfl
set_option maxRecDepth 50000 in
theorem i_Law_law_336 : ix_nx mLaw_law 336 = some (0, .aload_n 0, 337, none, [], 0) := rfl
set_option maxRecDepth 50000 in
theorem i_Law_law_337 : ix_nx mLaw_law 337 = some (0, .iload_n 3, 338, none, [], 0) := rfl
set_option maxRecDepth 50000 in
theorem i_Law_law_338 : ix_nx mLaw_law 338 = some (0, .iconst 1, 339, none, [], 0) := rfl
set_option maxRecDepth 50000 in
theorem i_Law_law_339 : ix_nx mLaw_law 339 = some (0, .iadd, 340, none, [], 0) := rfl
set_option maxRecDepth 50000 in
theorem i_Law_law_340 : ix_nx mLaw_law 340 = some (1, .iaload, 341, none, [], 0) := rfl
set_option maxRecDepth 50000 in
theorem i_Law_law_341 : ix_nx mLaw_law 341 = some (0, .aload_n 0, 342, none, [], 0) := rfl
set_option maxRecDepth 50000 in
theorem i_Law_law_342 : ix_nx mLaw_law 342 = some (0, .iload_n 3, 343, none, [], 0) := rfl
set_option maxRecDepth 50000 in
theorem i_Law_law_343 : ix_nx mLaw_law 343 = some (0, .iconst 2, 344, none, [], 0) := rfl
set_option maxRecDepth 50000 in
theorem i_Law_law_344 : ix_nx mLaw_law 344 = some (0, .iadd, 345, none, [], 0) := rfl
set_option maxRecDepth 50000 in
theorem i_Law_law_345 : ix_nx mLaw_law 345 = some (1, .iaload, 346, none, [], 0) := rfl
set_option maxRecDepth 50000 in
theorem i_Law_law_346 : ix_nx mLaw_law 346 = some (3, .invokevirtual 35, 349, none, [0, 12, 263], 0) := rfl
set_option maxRecDepth 50000 in
theorem i_Law_law_349 : ix_nx mLaw_law 349 = some (0, .aload_n 2, 350, none, [], 0) := rfl
set_option maxRecDepth 50000 in
theorem i_Law_law_350 : ix_nx mLaw_law 350 = some (0, .aload_n 0, 351, none, [], 0) := rfl
set_option maxRecDepth 50000 in
theorem i_Law_law_351 : ix_nx mLaw_law 351 = some (0, .iload_n 3, 352, none, [], 0) := rfl
set_option maxRecDepth 50000 in
theorem i_Law_law_352 : ix_nx mLaw_law 352 = some (0, .iconst 1, 353, none, [], 0) := rfl
set_option maxRecDepth 50000 in
theorem i_Law_law_353 : ix_nx mLaw_law 353 = some (0, .iadd, 354, none, [], 0) := rfl
set_option maxRecDepth 50000 in
theorem i_Law_law_354 : ix_nx mLaw_law 354 = some (1, .iaload, 355, none, [], 0) := rfl
set_option maxRecDepth 50000 in
theorem i_Law_law_355 : ix_nx mLaw_law 355 = some (0, .aload_n 0, 356, none, [], 0) := rfl
set_option maxRecDepth 50000 in
theorem i_Law_law_356 : ix_nx mLaw_law 356 = some (0, .iload_n 3, 357, none, [], 0) := rfl
set_option maxRecDepth 50000 in
theorem i_Law_law_357 : ix_nx mLaw_law 357 = some (0, .iconst 2, 358, none, [], 0) := rfl
set_option maxRecDepth 50000 in
theorem i_Law_law_358 : ix_nx mLaw_law 358 = some (0, .iadd, 359, none, [], 0) := rfl
set_option maxRecDepth 50000 in
theorem i_Law_law_359 : ix_nx mLaw_law 359 = some (1, .iaload, 360, none, [], 0) := rfl
set_option maxRecDepth 50000 in
theorem i_Law_law_360 : ix_nx mLaw_law 360 = some (3, .invokevirtual 38, 363, none, [0, 207, 264], 0) := rfl
set_option maxRecDepth 50000 in
theorem i_Law_law_363 : ix_nx mLaw_law 363 = some (0, .if_icmp .eq 699, 366, none, [], 0) := rfl
set_option maxRecDepth 50000 in
theorem i_Law_law_366 : ix_nx mLaw_law 366 = some (0, .iconst 0, 367, none, [], 0) := rfl
set_option maxRecDepth 50000 in
theorem i_Law_law_367 : ix_nx mLaw_law 367 = some (4, .ireturn, 368, none, [], 0) := rfl
set_option maxRecDepth 50000 in
theorem i_Law_law_368 : ix_nx mLaw_law 368 = some (0, .aload_n 1, 369, none, [], 0) := rfl
set_option maxRecDepth 50000 in
theorem i_Law_law_369 : ix_nx mLaw_law 369 = some (0, .aload_n 0, 370, none, [], 0) := rfl
set_option maxRecDepth 50000 in
theorem i_Law_law_370 : ix_nx mLaw_law 370 = some (0, .iload_n 3, 371, none, [], 0) := rfl
set_option maxRecDepth 50000 in
theorem i_Law_law_371 : ix_nx mLaw_law 371 = some (0, .iconst 1, 372, none, [], 0) := rfl
set_option maxRecDepth 50000 in
theorem i_Law_law_372 : ix_nx mLaw_law 372 = some (0, .iadd, 373, none, [], 0) := rfl
set_option maxRecDepth 50000 in
theorem i_Law_law_373 : ix_nx mLaw_law 373 = some (1, .iaload, 374, none, [], 0) := rfl
set_option maxRecDepth 50000 in
theorem i_Law_law_374 : ix_nx mLaw_law 374 = some (0, .i2l, 375, none, [], 0) := rfl
set_option maxRecDepth 50000 in
theorem i_Law_law_375 : ix_nx mLaw_law 375 = some (0, .bipush 32, 377, none, [], 0) := rfl
set_option maxRecDepth 50000 in
theorem i_Law_law_377 : ix_nx mLaw_law 377 = some (0, .lshl, 378, none, [], 0) := rfl
set_option maxRecDepth 50000 in
theorem i_Law_law_378 : ix_nx mLaw_law 378 = some (0, .aload_n 0, 379, none, [], 0) := rfl
set_option maxRecDepth 50000 in
theorem i_Law_law_379 : ix_nx mLaw_law 379 = some (0, .iload_n 3, 380, none, [], 0) := rfl
set_option maxRecDepth 50000 in
theorem i_Law_law_380 : ix_nx mLaw_law 380 = some (0, .iconst 2, 381, none, [], 0) := rfl
set_option maxRecDepth 50000 in
theorem i_Law_law_381 : ix_nx mLaw_law 381 = some (0, .iadd, 382, none, [], 0) := rfl
set_option maxRecDepth 50000 in
theorem i_Law_law_382 : ix_nx mLaw_law 382 = some (1, .iaload, 383, none, [], 0) := rfl
set_option maxRecDepth 50000 in
theorem i_Law_law_383 : ix_nx mLaw_law 383 = some (0, .i2l, 384, none, [], 0) := rfl
set_option maxRecDepth 50000 in
theorem i_Law_law_384 : ix_nx mLaw_law 384 = some (0, .ldc2_w 39, 387, none, [12], 4294967295) := rfl
set_option maxRecDepth 50000 in
theorem i_Law_law_387 : ix_nx mLaw_law 387 = some (0, .land, 388, none, [], 0) := rfl
set_option maxRecDepth 50000 in
theorem i_Law_law_388 : ix_nx mLaw_law 388 = some (0, .lor, 389, none, [], 0) := rfl
set_option maxRecDepth 50000 in
theorem i_Law_law_389 : ix_nx mLaw_law 389 = some (3, .invokevirtual 41, 392, none, [0, 18, 265], 0) := rfl
set_option maxRecDepth 50000 in
theorem i_Law_law_392 : ix_nx mLaw_law 392 = some (0, .aload_n 2, 393, none, [], 0) := rfl
set_option maxRecDepth 50000 in
theorem i_Law_law_393 : ix_nx mLaw_law 393 = some (0, .aload_n 0, 394, none, [], 0) := rfl
set_option maxRecDepth 50000 in
theorem i_Law_law_394 : ix_nx mLaw_law 394 = some (0, .iload_n 3, 395, none, [], 0) := rfl
set_option maxRecDepth 50000 in
theorem i_Law_law_395 : ix_nx mLaw_law 395 = some (0, .iconst 1, 396, none, [], 0) := rfl
set_option maxRecDepth 50000 in
theorem i_Law_law_396 : ix_nx mLaw_law 396 = some (0, .iadd, 397, none, [], 0) := rfl
set_option maxRecDepth 50000 in
theorem i_Law_law_397 : ix_nx mLaw_law 397 = some (1, .iaload, 398, none, [], 0) := rfl
set_option maxRecDepth 50000 in
theorem i_Law_law_398 : ix_nx mLaw_law 398 = some (0, .i2l, 399, none, [], 0) := rfl
set_option maxRecDepth 50000 in
theorem i_Law_law_399 : ix_nx mLaw_law 399 = some (0, .bipush 32, 401, none, [], 0) := rfl
set_option maxRecDepth 50000 in
theorem i_Law_law_401 : ix_nx mLaw_law 401 = some (0, .lshl, 402, none, [], 0) := rfl
set_option maxRecDepth 50000 in
theorem i_Law_law_402 : ix_nx mLaw_law 402 = some (0, .aload_n 0, 403, none, [], 0) := rfl
set_option maxRecDepth 50000 in
theorem i_Law_law_403 : ix_nx mLaw_law 403 = some (0, .iload_n 3, 404, none, [], 0) := rfl
set_option maxRecDepth 50000 in
theorem i_Law_law_404 : ix_nx mLaw_law 404 = some (0, .iconst 2, 405, none, [], 0) := rfl
set_option maxRecDepth 50000 in
theorem i_Law_law_405 : ix_nx mLaw_law 405 = some (0, .iadd, 406, none, [], 0) := rfl
set_option maxRecDepth 50000 in
theorem i_Law_law_406 : ix_nx mLaw_law 406 = some (1, .iaload, 407, none, [], 0) := rfl
set_option maxRecDepth 50000 in
theorem i_Law_law_407 : ix_nx mLaw_law 407 = some (0, .i2l, 408, none, [], 0) := rfl
set_option maxRecDepth 50000 in
theorem i_Law_law_408 : ix_nx mLaw_law 408 = some (0, .ldc2_w 39, 411, none, [12], 4294967295) := rfl
set_option maxRecDepth 50000 in
theorem i_Law_law_411 : ix_nx mLaw_law 411 = some (0, .land, 412, none, [], 0) := rfl
set_option maxRecDepth 50000 in
theorem i_Law_law_412 : ix_nx mLaw_law 412 = some (0, .lor, 413, none, [], 0) := rfl
set_option maxRecDepth 50000 in
theorem i_Law_law_413 : ix_nx mLaw_law 413 = some (3, .invokevirtual 45, 416, none, [0, 236, 266], 0) := rfl
set_option maxRecDepth 50000 in
theorem i_Law_law_416 : ix_nx mLaw_law 416 = some (0, .if_icmp .eq 646, 419, none, [], 0) := rfl
set_option maxRecDepth 50000 in
theorem i_Law_law_419 : ix_nx mLaw_law 419 = some (0, .iconst 0, 420, none, [], 0) := rfl
set_option maxRecDepth 50000 in
theorem i_Law_law_420 : ix_nx mLaw_law 420 = some (4, .ireturn, 421, none, [], 0) := rfl
set_option maxRecDepth 50000 in
theorem i_Law_law_421 : ix_nx mLaw_law 421 = some (0, .aload_n 1, 422, none, [], 0) := rfl
set_option maxRecDepth 50000 in
theorem i_Law_law_422 : ix_nx mLaw_law 422 = some (3, .invokevirtual 46, 425, none, [0, 19, 267], 0) := rfl
set_option maxRecDepth 50000 in
theorem i_Law_law_425 : ix_nx mLaw_law 425 = some (0, .aload_n 2, 426, none, [], 0) := rfl
set_option maxRecDepth 50000 in
theorem i_Law_law_426 : ix_nx mLaw_law 426 = some (3, .invokevirtual 50, 429, none, [0, 237, 268], 0) := rfl
set_option maxRecDepth 50000 in
theorem i_Law_law_429 : ix_nx mLaw_law 429 = some (0, .if_icmp .eq 633, 432, none, [], 0) := rfl
set_option maxRecDepth 50000 in
theorem i_Law_law_432 : ix_nx mLaw_law 432 = some (0, .iconst 0, 433, none, [], 0) := rfl
set_option maxRecDepth 50000 in
theorem i_Law_law_433 : ix_nx mLaw_law 433 = some (4, .ireturn, 434, none, [], 0) := rfl
set_option maxRecDepth 50000 in
theorem i_Law_law_434 : ix_nx mLaw_law 434 = some (0, .aload_n 1, 435, none, [], 0) := rfl
set_option maxRecDepth 50000 in
theorem i_Law_law_435 : ix_nx mLaw_law 435 = some (3, .invokevirtual 51, 438, none, [0, 20, 269], 0) := rfl
set_option maxRecDepth 50000 in
theorem i_Law_law_438 : ix_nx mLaw_law 438 = some (0, .aload_n 2, 439, none, [], 0) := rfl
set_option maxRecDepth 50000 in
theorem i_Law_law_439 : ix_nx mLaw_law 439 = some (3, .invokevirtual 54, 442, none, [0, 238, 270], 0) := rfl
set_option maxRecDepth 50000 in
theorem i_Law_law_442 : ix_nx mLaw_law 442 = some (0, .if_icmp .eq 620, 445, none, [], 0) := rfl
set_option maxRecDepth 50000 in
theorem i_Law_law_445 : ix_nx mLaw_law 445 = some (0, .iconst 0, 446, none, [], 0) := rfl
set_option maxRecDepth 50000 in
theorem i_Law_law_446 : ix_nx mLaw_law 446 = some (4, .ireturn, 447, none, [], 0) := rfl
set_option maxRecDepth 50000 in
theorem i_Law_law_447 : ix_nx mLaw_law 447 = some (0, .aload_n 1, 448, none, [], 0) := rfl
set_option maxRecDepth 50000 in
theorem i_Law_law_448 : ix_nx mLaw_law 448 = some (3, .invokevirtual 55, 451, none, [0, 21, 271], 0) := rfl
set_option maxRecDepth 50000 in
theorem i_Law_law_451 : ix_nx mLaw_law 451 = some (0, .aload_n 2, 452, none, [], 0) := rfl
set_option maxRecDepth 50000 in
theorem i_Law_law_452 : ix_nx mLaw_law 452 = some (3, .invokevirtual 58, 455, none, [0, 240, 272], 0) := rfl
set_option maxRecDepth 50000 in
theorem i_Law_law_455 : ix_nx mLaw_law 455 = some (0, .if_icmp .eq 607, 458, none, [], 0) := rfl
set_option maxRecDepth 50000 in
theorem i_Law_law_458 : ix_nx mLaw_law 458 = some (0, .iconst 0, 459, none, [], 0) := rfl
set_option maxRecDepth 50000 in
theorem i_Law_law_459 : ix_nx mLaw_law 459 = some (4, .ireturn, 460, none, [], 0) := rfl
set_option maxRecDepth 50000 in
theorem i_Law_law_460 : ix_nx mLaw_law 460 = some (0, .aload_n 1, 461, none, [], 0) := rfl
set_option maxRecDepth 50000 in
theorem i_Law_law_461 : ix_nx mLaw_law 461 = some (0, .aload_n 0, 462, none, [], 0) := rfl
set_option maxRecDepth 50000 in
theorem i_Law_law_462 : ix_nx mLaw_law 462 = some (0, .iload_n 3, 463, none, [], 0) := rfl
set_option maxRecDepth 50000 in
theorem i_Law_law_463 : ix_nx mLaw_law 463 = some (0, .iconst 1, 464, none, [], 0) := rfl
set_option maxRecDepth 50000 in
theorem i_Law_law_464 : ix_nx mLaw_law 464 = some (0, .iadd, 465, none, [], 0) := rfl
set_option maxRecDepth 50000 in
theorem i_Law_law_465 : ix_nx mLaw_law 465 = some (1, .iaload, 466, none, [], 0) := rfl
set_option maxRecDepth 50000 in
theorem i_Law_law_466 : ix_nx mLaw_law 466 = some (0, .aload_n 0, 467, none, [], 0) := rfl
set_option maxRecDepth 50000 in
theorem i_Law_law_467 : ix_nx mLaw_law 467 = some (0, .iload_n 3, 468, none, [], 0) := rfl
set_option maxRecDepth 50000 in
theorem i_Law_law_468 : ix_nx mLaw_law 468 = some (0, .iconst 2, 469, none, [], 0) := rfl
set_option maxRecDepth 50000 in
theorem i_Law_law_469 : ix_nx mLaw_law 469 = some (0, .iadd, 470, none, [], 0) := rfl
set_option maxRecDepth 50000 in
theorem i_Law_law_470 : ix_nx mLaw_law 470 = some (1, .iaload, 471, none, [], 0) := rfl
set_option maxRecDepth 50000 in
theorem i_Law_law_471 : ix_nx mLaw_law 471 = some (3, .invokevirtual 59, 474, none, [0, 22, 273], 0) := rfl
set_option maxRecDepth 50000 in
theorem i_Law_law_474 : ix_nx mLaw_law 474 = some (0, .aload_n 2, 475, none, [], 0) := rfl
set_option maxRecDepth 50000 in
theorem i_Law_law_475 : ix_nx mLaw_law 475 = some (0, .aload_n 0, 476, none, [], 0) := rfl
set_option maxRecDepth 50000 in
theorem i_Law_law_476 : ix_nx mLaw_law 476 = some (0, .iload_n 3, 477, none, [], 0) := rfl
set_option maxRecDepth 50000 in
theorem i_Law_law_477 : ix_nx mLaw_law 477 = some (0, .iconst 1, 478, none, [], 0) := rfl
set_option maxRecDepth 50000 in
theorem i_Law_law_478 : ix_nx mLaw_law 478 = some (0, .iadd, 479, none, [], 0) := rfl
set_option maxRecDepth 50000 in
theorem i_Law_law_479 : ix_nx mLaw_law 479 = some (1, .iaload, 480, none, [], 0) := rfl
set_option maxRecDepth 50000 in
theorem i_Law_law_480 : ix_nx mLaw_law 480 = some (0, .aload_n 0, 481, none, [], 0) := rfl
set_option maxRecDepth 50000 in
theorem i_Law_law_481 : ix_nx mLaw_law 481 = some (0, .iload_n 3, 482, none, [], 0) := rfl
set_option maxRecDepth 50000 in
theorem i_Law_law_482 : ix_nx mLaw_law 482 = some (0, .iconst 2, 483, none, [], 0) := rfl
set_option maxRecDepth 50000 in
theorem i_Law_law_483 : ix_nx mLaw_law 483 = some (0, .iadd, 484, none, [], 0) := rfl
set_option maxRecDepth 50000 in
theorem i_Law_law_484 : ix_nx mLaw_law 484 = some (1, .iaload, 485, none, [], 0) := rfl
set_option maxRecDepth 50000 in
theorem i_Law_law_485 : ix_nx mLaw_law 485 = some (3, .invokevirtual 63, 488, none, [0, 158, 274], 0) := rfl
set_option maxRecDepth 50000 in
theorem i_Law_law_488 : ix_nx mLaw_law 488 = some (0, .lcmp, 489, none, [], 0) := rfl
set_option maxRecDepth 50000 in
theorem i_Law_law_489 : ix_nx mLaw_law 489 = some (0, .ifCond .eq 573, 492, none, [], 0) := rfl
set_option maxRecDepth 50000 in
theorem i_Law_law_492 : ix_nx mLaw_law 492 = some (0, .iconst 0, 493, none, [], 0) := rfl
set_option maxRecDepth 50000 in
theorem i_Law_law_493 : ix_nx mLaw_law 493 = some (4, .ireturn, 494, none, [], 0) := rfl
set_option maxRecDepth 50000 in
theorem i_Law_law_494 : ix_nx mLaw_law 494 = some (0, .aload_n 1, 495, none, [], 0) := rfl
set_option maxRecDepth 50000 in
theorem i_Law_law_495 : ix_nx mLaw_law 495 = some (0, .aload_n 0, 496, none, [], 0) := rfl
set_option maxRecDepth 50000 in
theorem i_Law_law_496 : ix_nx mLaw_law 496 = some (0, .iload_n 3, 497, none, [], 0) := rfl
set_option maxRecDepth 50000 in
theorem i_Law_law_497 : ix_nx mLaw_law 497 = some (0, .iconst 1, 498, none, [], 0) := rfl
set_option maxRecDepth 50000 in
theorem i_Law_law_498 : ix_nx mLaw_law 498 = some (0, .iadd, 499, none, [], 0) := rfl
set_option maxRecDepth 50000 in
theorem i_Law_law_499 : ix_nx mLaw_law 499 = some (1, .iaload, 500, none, [], 0) := rfl
set_option maxRecDepth 50000 in
theorem i_Law_law_500 : ix_nx mLaw_law 500 = some (0, .aload_n 0, 501, none, [], 0) := rfl
set_option maxRecDepth 50000 in
theorem i_Law_law_501 : ix_nx mLaw_law 501 = some (0, .iload_n 3, 502, none, [], 0) := rfl
set_option maxRecDepth 50000 in
theorem i_Law_law_502 : ix_nx mLaw_law 502 = some (0, .iconst 2, 503, none, [], 0) := rfl
set_option maxRecDepth 50000 in
theorem i_Law_law_503 : ix_nx mLaw_law 503 = some (0, .iadd, 504, none, [], 0) := rfl
set_option maxRecDepth 50000 in
theorem i_Law_law_504 : ix_nx mLaw_law 504 = some (1, .iaload, 505, none, [], 0) := rfl
set_option maxRecDepth 50000 in
theorem i_Law_law_505 : ix_nx mLaw_law 505 = some (3, .invokevirtual 64, 508, none, [0, 23, 275], 0) := rfl
set_option maxRecDepth 50000 in
theorem i_Law_law_508 : ix_nx mLaw_law 508 = some (0, .aload_n 2, 509, none, [], 0) := rfl
set_option maxRecDepth 50000 in
theorem i_Law_law_509 : ix_nx mLaw_law 509 = some (0, .aload_n 0, 510, none, [], 0) := rfl
set_option maxRecDepth 50000 in
theorem i_Law_law_510 : ix_nx mLaw_law 510 = some (0, .iload_n 3, 511, none, [], 0) := rfl
set_option maxRecDepth 50000 in
theorem i_Law_law_511 : ix_nx mLaw_law 511 = some (0, .iconst 1, 512, none, [], 0) := rfl
set_option maxRecDepth 50000 in
theorem i_Law_law_512 : ix_nx mLaw_law 512 = some (0, .iadd, 513, none, [], 0) := rfl
set_option maxRecDepth 50000 in
theorem i_Law_law_513 : ix_nx mLaw_law 513 = some (1, .iaload, 514, none, [], 0) := rfl
set_option maxRecDepth 50000 in
theorem i_Law_law_514 : ix_nx mLaw_law 514 = some (0, .aload_n 0, 515, none, [], 0) := rfl
set_option maxRecDepth 50000 in
theorem i_Law_law_515 : ix_nx mLaw_law 515 = some (0, .iload_n 3, 516, none, [], 0) := rfl
set_option maxRecDepth 50000 in
theorem i_Law_law_516 : ix_nx mLaw_law 516 = some (0, .iconst 2, 517, none, [], 0) := rfl
set_option maxRecDepth 50000 in
theorem i_Law_law_517 : ix_nx mLaw_law 517 = some (0, .iadd, 518, none, [], 0) := rfl
set_option maxRecDepth 50000 in
theorem i_Law_law_518 : ix_nx mLaw_law 518 = some (1, .iaload, 519, none, [], 0) := rfl
set_option maxRecDepth 50000 in
theorem i_Law_law_519 : ix_nx mLaw_law 519 = some (3, .invokevirtual 67, 522, none, [0, 163, 276], 0) := rfl
set_option maxRecDepth 50000 in
theorem i_Law_law_522 : ix_nx mLaw_law 522 = some (0, .if_icmp .eq 540, 525, none, [], 0) := rfl
set_option maxRecDepth 50000 in
theorem i_Law_law_525 : ix_nx mLaw_law 525 = some (0, .iconst 0, 526, none, [], 0) := rfl
set_option maxRecDepth 50000 in
theorem i_Law_law_526 : ix_nx mLaw_law 526 = some (4, .ireturn, 527, none, [], 0) := rfl
set_option maxRecDepth 50000 in
theorem i_Law_law_527 : ix_nx mLaw_law 527 = some (0, .aload_n 1, 528, none, [], 0) := rfl
set_option maxRecDepth 50000 in
theorem i_Law_law_528 : ix_nx mLaw_law 528 = some (3, .invokevirtual 68, 531, none, [0, 24, 277], 0) := rfl
set_option maxRecDepth 50000 in
theorem i_Law_law_531 : ix_nx mLaw_law 531 = some (0, .aload_n 2, 532, none, [], 0) := rfl
set_option maxRecDepth 50000 in
theorem i_Law_law_532 : ix_nx mLaw_law 532 = some (3, .invokevirtual 71, 535, none, [0, 164, 278], 0) := rfl
set_option maxRecDepth 50000 in
theorem i_Law_law_535 : ix_nx mLaw_law 535 = some (0, .if_icmp .eq 527, 538, none, [], 0) := rfl
set_option maxRecDepth 50000 in
theorem i_Law_law_538 : ix_nx mLaw_law 538 = some (0, .iconst 0, 539, none, [], 0) := rfl
set_option maxRecDepth 50000 in
theorem i_Law_law_539 : ix_nx mLaw_law 539 = some (4, .ireturn, 540, none, [], 0) := rfl
set_option maxRecDepth 50000 in
theorem i_Law_law_540 : ix_nx mLaw_law 540 = some (0, .aload_n 1, 541, none, [], 0) := rfl
set_option maxRecDepth 50000 in
theorem i_Law_law_541 : ix_nx mLaw_law 541 = some (3, .invokevirtual 72, 544, none, [0, 25, 279], 0) := rfl
set_option maxRecDepth 50000 in
theorem i_Law_law_544 : ix_nx mLaw_law 544 = some (0, .aload_n 2, 545, none, [], 0) := rfl
set_option maxRecDepth 50000 in
theorem i_Law_law_545 : ix_nx mLaw_law 545 = some (3, .invokevirtual 76, 548, none, [0, 165, 280], 0) := rfl
set_option maxRecDepth 50000 in
theorem i_Law_law_548 : ix_nx mLaw_law 548 = some (0, .lcmp, 549, none, [], 0) := rfl
set_option maxRecDepth 50000 in
theorem i_Law_law_549 : ix_nx mLaw_law 549 = some (0, .ifCond .eq 513, 552, none, [], 0) := rfl
set_option maxRecDepth 50000 in
theorem i_Law_law_552 : ix_nx mLaw_law 552 = some (0, .iconst 0, 553, none, [], 0) := rfl
set_option maxRecDepth 50000 in
theorem i_Law_law_553 : ix_nx mLaw_law 553 = some (4, .ireturn, 554, none, [], 0) := rfl
set_option maxRecDepth 50000 in
theorem i_Law_law_554 : ix_nx mLaw_law 554 = some (0, .aload_n 1, 555, none, [], 0) := rfl
set_option maxRecDepth 50000 in
theorem i_Law_law_555 : ix_nx mLaw_law 555 = some (3, .invokevirtual 77, 558, none, [0, 26, 281], 0) := rfl
set_option maxRecDepth 50000 in
theorem i_Law_law_558 : ix_nx mLaw_law 558 = some (0, .aload_n 2, 559, none, [], 0) := rfl
set_option maxRecDepth 50000 in
theorem i_Law_law_559 : ix_nx mLaw_law 559 = some (3, .invokevirtual 80, 562, none, [0, 175, 282], 0) := rfl
set_option maxRecDepth 50000 in
theorem i_Law_law_562 : ix_nx mLaw_law 562 = some (0, .lcmp, 563, none, [], 0) := rfl
set_option maxRecDepth 50000 in
theorem i_Law_law_563 : ix_nx mLaw_law 563 = some (0, .ifCond .eq 499, 566, none, [], 0) := rfl
set_option maxRecDepth 50000 in
theorem i_Law_law_566 : ix_nx mLaw_law 566 = some (0, .iconst 0, 567, none, [], 0) := rfl
set_option maxRecDepth 50000 in
theorem i_Law_law_567 : ix_nx mLaw_law 567 = some (4, .ireturn, 568, none, [], 0) := rfl
set_option maxRecDepth 50000 in
theorem i_Law_law_568 : ix_nx mLaw_law 568 = some (0, .aload_n 1, 569, none, [], 0) := rfl
set_option maxRecDepth 50000 in
theorem i_Law_law_569 : ix_nx mLaw_law 569 = some (0, .aload_n 0, 570, none, [], 0) := rfl
set_option maxRecDepth 50000 in
theorem i_Law_law_570 : ix_nx mLaw_law 570 = some (0, .iload_n 3, 571, none, [], 0) := rfl
set_option maxRecDepth 50000 in
theorem i_Law_law_571 : ix_nx mLaw_law 571 = some (0, .iconst 1, 572, none, [], 0) := rfl
set_option maxRecDepth 50000 in
theorem i_Law_law_572 : ix_nx mLaw_law 572 = some (0, .iadd, 573, none, [], 0) := rfl
set_option maxRecDepth 50000 in
theorem i_Law_law_573 : ix_nx mLaw_law 573 = some (1, .iaload, 574, none, [], 0) := rfl
set_option maxRecDepth 50000 in
theorem i_Law_law_574 : ix_nx mLaw_law 574 = some (0, .aload_n 0, 575, none, [], 0) := rfl
set_option maxRecDepth 50000 in
theorem i_Law_law_575 : ix_nx mLaw_law 575 = some (0, .iload_n 3, 576, none, [], 0) := rfl
set_option maxRecDepth 50000 in
theorem i_Law_law_576 : ix_nx mLaw_law 576 = some (0, .iconst 2, 577, none, [], 0) := rfl
set_option maxRecDepth 50000 in
theorem i_Law_law_577 : ix_nx mLaw_law 577 = some (0, .iadd, 578, none, [], 0) := rfl
set_option maxRecDepth 50000 in
theorem i_Law_law_578 : ix_nx mLaw_law 578 = some (1, .iaload, 579, none, [], 0) := rfl
set_option maxRecDepth 50000 in
theorem i_Law_law_579 : ix_nx mLaw_law 579 = some (3, .invokevirtual 81, 582, none, [0, 27, 283], 0) := rfl
set_option maxRecDepth 50000 in
theorem i_Law_law_582 : ix_nx mLaw_law 582 = some (0, .aload_n 2, 583, none, [], 0) := rfl
set_option maxRecDepth 50000 in
theorem i_Law_law_583 : ix_nx mLaw_law 583 = some (0, .aload_n 0, 584, none, [], 0) := rfl
set_option maxRecDepth 50000 in
theorem i_Law_law_584 : ix_nx mLaw_law 584 = some (0, .iload_n 3, 585, none, [], 0) := rfl
set_option maxRecDepth 50000 in
theorem i_Law_law_585 : ix_nx mLaw_law 585 = some (0, .iconst 1, 586, none, [], 0) := rfl
set_option maxRecDepth 50000 in
theorem i_Law_law_586 : ix_nx mLaw_law 586 = some (0, .iadd, 587, none, [], 0) := rfl
set_option maxRecDepth 50000 in
theorem i_Law_law_587 : ix_nx mLaw_law 587 = some (1, .iaload, 588, none, [], 0) := rfl
set_option maxRecDepth 50000 in
theorem i_Law_law_588 : ix_nx mLaw_law 588 = some (0, .aload_n 0, 589, none, [], 0) := rfl
set_option maxRecDepth 50000 in
theorem i_Law_law_589 : ix_nx mLaw_law 589 = some (0, .iload_n 3, 590, none, [], 0) := rfl
set_option maxRecDepth 50000 in
theorem i_Law_law_590 : ix_nx mLaw_law 590 = some (0, .iconst 2, 591, none, [], 0) := rfl
set_option maxRecDepth 50000 in
theorem i_Law_law_591 : ix_nx mLaw_law 591 = some (0, .iadd, 592, none, [], 0) := rfl
set_option maxRecDepth 50000 in
theorem i_Law_law_592 : ix_nx mLaw_law 592 = some (1, .iaload, 593, none, [], 0) := rfl
set_option maxRecDepth 50000 in
theorem i_Law_law_593 : ix_nx mLaw_law 593 = some (3, .invokevirtual 84, 596, none, [0, 176, 284], 0) := rfl
set_option maxRecDepth 50000 in
theorem i_Law_law_596 : ix_nx mLaw_law 596 = some (0, .if_icmp .eq 466, 599, none, [], 0) := rfl
set_option maxRecDepth 50000 in
theorem i_Law_law_599 : ix_nx mLaw_law 599 = some (0, .iconst 0, 600, none, [], 0) := rfl
set_option maxRecDepth 50000 in
theorem i_Law_law_600 : ix_nx mLaw_law 600 = some (4, .ireturn, 601, none, [], 0) := rfl
set_option maxRecDepth 50000 in
theorem i_Law_law_601 : ix_nx mLaw_law 601 = some (0, .aload_n 1, 602, none, [], 0) := rfl
set_option maxRecDepth 50000 in
theorem i_Law_law_602 : ix_nx mLaw_law 602 = some (0, .aload_n 0, 603, none, [], 0) := rfl
set_option maxRecDepth 50000 in
theorem i_Law_law_603 : ix_nx mLaw_law 603 = some (0, .iload_n 3, 604, none, [], 0) := rfl
set_option maxRecDepth 50000 in
theorem i_Law_law_604 : ix_nx mLaw_law 604 = some (0, .iconst 1, 605, none, [], 0) := rfl
set_option maxRecDepth 50000 in
theorem i_Law_law_605 : ix_nx mLaw_law 605 = some (0, .iadd, 606, none, [], 0) := rfl
set_option maxRecDepth 50000 in
theorem i_Law_law_606 : ix_nx mLaw_law 606 = some (1, .iaload, 607, none, [], 0) := rfl
set_option maxRecDepth 50000 in
theorem i_Law_law_607 : ix_nx mLaw_law 607 = some (0, .aload_n 0, 608, none, [], 0) := rfl
set_option maxRecDepth 50000 in
theorem i_Law_law_608 : ix_nx mLaw_law 608 = some (0, .iload_n 3, 609, none, [], 0) := rfl
set_option maxRecDepth 50000 in
theorem i_Law_law_609 : ix_nx mLaw_law 609 = some (0, .iconst 2, 610, none, [], 0) := rfl
set_option maxRecDepth 50000 in
theorem i_Law_law_610 : ix_nx mLaw_law 610 = some (0, .iadd, 611, none, [], 0) := rfl
set_option maxRecDepth 50000 in
theorem i_Law_law_611 : ix_nx mLaw_law 611 = some (1, .iaload, 612, none, [], 0) := rfl
set_option maxRecDepth 50000 in
theorem i_Law_law_612 : ix_nx mLaw_law 612 = some (0, .aload_n 0, 613, none, [], 0) := rfl
set_option maxRecDepth 50000 in
theorem i_Law_law_613 : ix_nx mLaw_law 613 = some (0, .iload_n 3, 614, none, [], 0) := rfl
set_option maxRecDepth 50000 in
theorem i_Law_law_614 : ix_nx mLaw_law 614 = some (0, .iconst 3, 615, none, [], 0) := rfl
set_option maxRecDepth 50000 in
theorem i_Law_law_615 : ix_nx mLaw_law 615 = some (0, .iadd, 616, none, [], 0) := rfl
set_option maxRecDepth 50000 in
theorem i_Law_law_616 : ix_nx mLaw_law 616 = some (1, .iaload, 617, none, [], 0) := rfl
set_option maxRecDepth 50000 in
theorem i_Law_law_617 : ix_nx mLaw_law 617 = some (3, .invokevirtual 85, 620, none, [0, 28, 285], 0) := rfl
set_option maxRecDepth 50000 in
theorem i_Law_law_620 : ix_nx mLaw_law 620 = some (0, .aload_n 2, 621, none, [], 0) := rfl
set_option maxRecDepth 50000 in
theorem i_Law_law_621 : ix_nx mLaw_law 621 = some (0, .aload_n 0, 622, none, [], 0) := rfl
set_option maxRecDepth 50000 in
theorem i_Law_law_622 : ix_nx mLaw_law 622 = some (0, .iload_n 3, 623, none, [], 0) := rfl
set_option maxRecDepth 50000 in
theorem i_Law_law_623 : ix_nx mLaw_law 623 = some (0, .iconst 1, 624, none, [], 0) := rfl
set_option maxRecDepth 50000 in
theorem i_Law_law_624 : ix_nx mLaw_law 624 = some (0, .iadd, 625, none, [], 0) := rfl
set_option maxRecDepth 50000 in
theorem i_Law_law_625 : ix_nx mLaw_law 625 = some (1, .iaload, 626, none, [], 0) := rfl
set_option maxRecDepth 50000 in
theorem i_Law_law_626 : ix_nx mLaw_law 626 = some (0, .aload_n 0, 627, none, [], 0) := rfl
set_option maxRecDepth 50000 in
theorem i_Law_law_627 : ix_nx mLaw_law 627 = some (0, .iload_n 3, 628, none, [], 0) := rfl
set_option maxRecDepth 50000 in
theorem i_Law_law_628 : ix_nx mLaw_law 628 = some (0, .iconst 2, 629, none, [], 0) := rfl
set_option maxRecDepth 50000 in
theorem i_Law_law_629 : ix_nx mLaw_law 629 = some (0, .iadd, 630, none, [], 0) := rfl
set_option maxRecDepth 50000 in
theorem i_Law_law_630 : ix_nx mLaw_law 630 = some (1, .iaload, 631, none, [], 0) := rfl
set_option maxRecDepth 50000 in
theorem i_Law_law_631 : ix_nx mLaw_law 631 = some (0, .aload_n 0, 632, none, [], 0) := rfl
set_option maxRecDepth 50000 in
theorem i_Law_law_632 : ix_nx mLaw_law 632 = some (0, .iload_n 3, 633, none, [], 0) := rfl
set_option maxRecDepth 50000 in
theorem i_Law_law_633 : ix_nx mLaw_law 633 = some (0, .iconst 3, 634, none, [], 0) := rfl
set_option maxRecDepth 50000 in
theorem i_Law_law_634 : ix_nx mLaw_law 634 = some (0, .iadd, 635, none, [], 0) := rfl
set_option maxRecDepth 50000 in
theorem i_Law_law_635 : ix_nx mLaw_law 635 = some (1, .iaload, 636, none, [], 0) := rfl
set_option maxRecDepth 50000 in
theorem i_Law_law_636 : ix_nx mLaw_law 636 = some (3, .invokevirtual 89, 639, none, [0, 179, 286], 0) := rfl
set_option maxRecDepth 50000 in
theorem i_Law_law_639 : ix_nx mLaw_law 639 = some (0, .if_icmp .eq 423, 642, none, [], 0) := rfl
set_option maxRecDepth 50000 in
theorem i_Law_law_642 : ix_nx mLaw_law 642 = some (0, .iconst 0, 643, none, [], 0) := rfl
set_option maxRecDepth 50000 in
theorem i_Law_law_643 : ix_nx mLaw_law 643 = some (4, .ireturn, 644, none, [], 0) := rfl
set_option maxRecDepth 50000 in
theorem i_Law_law_644 : ix_nx mLaw_law 644 = some (0, .aload_n 1, 645, none, [], 0) := rfl
set_option maxRecDepth 50000 in
theorem i_Law_law_645 : ix_nx mLaw_law 645 = some (3, .invokevirtual 90, 648, none, [0, 29, 287], 0) := rfl
set_option maxRecDepth 50000 in
theorem i_Law_law_648 : ix_nx mLaw_law 648 = some (0, .aload_n 2, 649, none, [], 0) := rfl
set_option maxRecDepth 50000 in
theorem i_Law_law_649 : ix_nx mLaw_law 649 = some (3, .invokevirtual 93, 652, none, [0, 180, 288], 0) := rfl
set_option maxRecDepth 50000 in
theorem i_Law_law_652 : ix_nx mLaw_law 652 = some (0, .if_icmp .eq 410, 655, none, [], 0) := rfl
set_option maxRecDepth 50000 in
theorem i_Law_law_655 : ix_nx mLaw_law 655 = some (0, .iconst 0, 656, none, [], 0) := rfl
set_option maxRecDepth 50000 in
theorem i_Law_law_656 : ix_nx mLaw_law 656 = some (4, .ireturn, 657, none, [], 0) := rfl
set_option maxRecDepth 50000 in
theorem i_Law_law_657 : ix_nx mLaw_law 657 = some (0, .aload_n 1, 658, none, [], 0) := rfl
set_option maxRecDepth 50000 in
theorem i_Law_law_658 : ix_nx mLaw_law 658 = some (0, .aload_n 0, 659, none, [], 0) := rfl
set_option maxRecDepth 50000 in
theorem i_Law_law_659 : ix_nx mLaw_law 659 = some (0, .iload_n 3, 660, none, [], 0) := rfl
set_option maxRecDepth 50000 in
theorem i_Law_law_660 : ix_nx mLaw_law 660 = some (0, .iconst 1, 661, none, [], 0) := rfl
set_option maxRecDepth 50000 in
theorem i_Law_law_661 : ix_nx mLaw_law 661 = some (0, .iadd, 662, none, [], 0) := rfl
set_option maxRecDepth 50000 in
theorem i_Law_law_662 : ix_nx mLaw_law 662 = some (1, .iaload, 663, none, [], 0) := rfl
set_option maxRecDepth 50000 in
theorem i_Law_law_663 : ix_nx mLaw_law 663 = some (0, .aload_n 0, 664, none, [], 0) := rfl
set_option maxRecDepth 50000 in
theorem i_Law_law_664 : ix_nx mLaw_law 664 = some (0, .iload_n 3, 665, none, [], 0) := rfl
set_option maxRecDepth 50000 in
theorem i_Law_law_665 : ix_nx mLaw_law 665 = some (0, .iconst 2, 666, none, [], 0) := rfl
set_option maxRecDepth 50000 in
theorem i_Law_law_666 : ix_nx mLaw_law 666 = some (0, .iadd, 667, none, [], 0) := rfl
set_option maxRecDepth 50000 in
theorem i_Law_law_667 : ix_nx mLaw_law 667 = some (1, .iaload, 668, none, [], 0) := rfl
set_option maxRecDepth 50000 in
theorem i_Law_law_668 : ix_nx mLaw_law 668 = some (3, .invokevirtual 94, 671, none, [0, 30, 289], 0) := rfl
set_option maxRecDepth 50000 in
theorem i_Law_law_671 : ix_nx mLaw_law 671 = some (0, .aload_n 2, 672, none, [], 0) := rfl
set_option maxRecDepth 50000 in
theorem i_Law_law_672 : ix_nx mLaw_law 672 = some (0, .aload_n 0, 673, none, [], 0) := rfl
set_option maxRecDepth 50000 in
theorem i_Law_law_673 : ix_nx mLaw_law 673 = some (0, .iload_n 3, 674, none, [], 0) := rfl
set_option maxRecDepth 50000 in
theorem i_Law_law_674 : ix_nx mLaw_law 674 = some (0, .iconst 1, 675, none, [], 0) := rfl
set_option maxRecDepth 50000 in
theorem i_Law_law_675 : ix_nx mLaw_law 675 = some (0, .iadd, 676, none, [], 0) := rfl
set_option maxRecDepth 50000 in
theorem i_Law_law_676 : ix_nx mLaw_law 676 = some (1, .iaload, 677, none, [], 0) := rfl
set_option maxRecDepth 50000 in
theorem i_Law_law_677 : ix_nx mLaw_law 677 = some (0, .aload_n 0, 678, none, [], 0) := rfl
set_option maxRecDepth 50000 in
theorem i_Law_law_678 : ix_nx mLaw_law 678 = some (0, .iload_n 3, 679, none, [], 0) := rfl
set_option maxRecDepth 50000 in
theorem i_Law_law_679 : ix_nx mLaw_law 679 = some (0, .iconst 2, 680, none, [], 0) := rfl
set_option maxRecDepth 50000 in
theorem i_Law_law_680 : ix_nx mLaw_law 680 = some (0, .iadd, 681, none, [], 0) := rfl
set_option maxRecDepth 50000 in
theorem i_Law_law_681 : ix_nx mLaw_law 681 = some (1, .iaload, 682, none, [], 0) := rfl
set_option maxRecDepth 50000 in
theorem i_Law_law_682 : ix_nx mLaw_law 682 = some (3, .invokevirtual 97, 685, none, [0, 191, 290], 0) := rfl
set_option maxRecDepth 50000 in
theorem i_Law_law_685 : ix_nx mLaw_law 685 = some (0, .if_icmp .eq 377, 688, none, [], 0) := rfl
set_option maxRecDepth 50000 in
theorem i_Law_law_688 : ix_nx mLaw_law 688 = some (0, .iconst 0, 689, none, [], 0) := rfl
set_option maxRecDepth 50000 in
theorem i_Law_law_689 : ix_nx mLaw_law 689 = some (4, .ireturn, 690, none, [], 0) := rfl
set_option maxRecDepth 50000 in
theorem i_Law_law_690 : ix_nx mLaw_law 690 = some (0, .aload_n 1, 691, none, [], 0) := rfl
set_option maxRecDepth 50000 in
theorem i_Law_law_691 : ix_nx mLaw_law 691 = some (0, .aload_n 0, 692, none, [], 0) := rfl
set_option maxRecDepth 50000 in
theorem i_Law_law_692 : ix_nx mLaw_law 692 = some (0, .iload_n 3, 693, none, [], 0) := rfl
set_option maxRecDepth 50000 in
theorem i_Law_law_693 : ix_nx mLaw_law 693 = some (0, .iconst 1, 694, none, [], 0) := rfl
set_option maxRecDepth 50000 in
theorem i_Law_law_694 : ix_nx mLaw_law 694 = some (0, .iadd, 695, none, [], 0) := rfl
set_option maxRecDepth 50000 in
theorem i_Law_law_695 : ix_nx mLaw_law 695 = some (1, .iaload, 696, none, [], 0) := rfl
set_option maxRecDepth 50000 in
theorem i_Law_law_696 : ix_nx mLaw_law 696 = some (3, .invokevirtual 98, 699, none, [0, 32, 291], 0) := rfl
set_option maxRecDepth 50000 in
theorem i_Law_law_699 : ix_nx mLaw_law 699 = some (0, .aload_n 2, 700, none, [], 0) := rfl
set_option maxRecDepth 50000 in
theorem i_Law_law_700 : ix_nx mLaw_law 700 = some (0, .aload_n 0, 701, none, [], 0) := rfl
set_option maxRecDepth 50000 in
theorem i_Law_law_701 : ix_nx mLaw_law 701 = some (0, .iload_n 3, 702, none, [], 0) := rfl
set_option maxRecDepth 50000 in
theorem i_Law_law_702 : ix_nx mLaw_law 702 = some (0, .iconst 1, 703, none, [], 0) := rfl
set_option maxRecDepth 50000 in
theorem i_Law_law_703 : ix_nx mLaw_law 703 = some (0, .iadd, 704, none, [], 0) := rfl
set_option maxRecDepth 50000 in
theorem i_Law_law_704 : ix_nx mLaw_law 704 = some (1, .iaload, 705, none, [], 0) := rfl
set_option maxRecDepth 50000 in
theorem i_Law_law_705 : ix_nx mLaw_law 705 = some (3, .invokevirtual 101, 708, none, [0, 193, 292], 0) := rfl
set_option maxRecDepth 50000 in
theorem i_Law_law_708 : ix_nx mLaw_law 708 = some (0, .if_icmp .eq 354, 711, none, [], 0) := rfl
set_option maxRecDepth 50000 in
theorem i_Law_law_711 : ix_nx mLaw_law 711 = some (0, .iconst 0, 712, none, [], 0) := rfl
set_option maxRecDepth 50000 in
theorem i_Law_law_712 : ix_nx mLaw_law 712 = some (4, .ireturn, 713, none, [], 0) := rfl
set_option maxRecDepth 50000 in
theorem i_Law_law_713 : ix_nx mLaw_law 713 = some (0, .aload_n 1, 714, none, [], 0) := rfl
set_option maxRecDepth 50000 in
theorem i_Law_law_714 : ix_nx mLaw_law 714 = some (0, .aload_n 0, 715, none, [], 0) := rfl
set_option maxRecDepth 50000 in
theorem i_Law_law_715 : ix_nx mLaw_law 715 = some (0, .iload_n 3, 716, none, [], 0) := rfl
set_option maxRecDepth 50000 in
theorem i_Law_law_716 : ix_nx mLaw_law 716 = some (0, .iconst 1, 717, none, [], 0) := rfl
set_option maxRecDepth 50000 in
theorem i_Law_law_717 : ix_nx mLaw_law 717 = some (0, .iadd, 718, none, [], 0) := rfl
set_option maxRecDepth 50000 in
theorem i_Law_law_718 : ix_nx mLaw_law 718 = some (1, .iaload, 719, none, [], 0) := rfl
set_option maxRecDepth 50000 in
theorem i_Law_law_719 : ix_nx mLaw_law 719 = some (3, .invokevirtual 102, 722, none, [0, 33, 293], 0) := rfl
set_option maxRecDepth 50000 in
theorem i_Law_law_722 : ix_nx mLaw_law 722 = some (0, .aload_n 2, 723, none, [], 0) := rfl
set_option maxRecDepth 50000 in
theorem i_Law_law_723 : ix_nx mLaw_law 723 = some (0, .aload_n 0, 724, none, [], 0) := rfl
set_option maxRecDepth 50000 in
theorem i_Law_law_724 : ix_nx mLaw_law 724 = some (0, .iload_n 3, 725, none, [], 0) := rfl
set_option maxRecDepth 50000 in
theorem i_Law_law_725 : ix_nx mLaw_law 725 = some (0, .iconst 1, 726, none, [], 0) := rfl
set_option maxRecDepth 50000 in
theorem i_Law_law_726 : ix_nx mLaw_law 726 = some (0, .iadd, 727, none, [], 0) := rfl
set_option maxRecDepth 50000 in
theorem i_Law_law_727 : ix_nx mLaw_law 727 = some (1, .iaload, 728, none, [], 0) := rfl
set_option maxRecDepth 50000 in
theorem i_Law_law_728 : ix_nx mLaw_law 728 = some (3, .invokevirtual 105, 731, none, [0, 194, 294], 0) := rfl
set_option maxRecDepth 50000 in
theorem i_Law_law_731 : ix_nx mLaw_law 731 = some (0, .if_icmp .eq 331, 734, none, [], 0) := rfl
set_option maxRecDepth 50000 in
theorem i_Law_law_734 : ix_nx mLaw_law 734 = some (0, .iconst 0, 735, none, [], 0) := rfl
set_option maxRecDepth 50000 in
theorem i_Law_law_735 : ix_nx mLaw_law 735 = some (4, .ireturn, 736, none, [], 0) := rfl
set_option maxRecDepth 50000 in
theorem i_Law_law_736 : ix_nx mLaw_law 736 = some (0, .aload_n 1, 737, none, [], 0) := rfl
set_option maxRecDepth 50000 in
theorem i_Law_law_737 : ix_nx mLaw_law 737 = some (3, .invokevirtual 106, 740, none, [0, 34, 295], 0) := rfl
set_option maxRecDepth 50000 in
theorem i_Law_law_740 : ix_nx mLaw_law 740 = some (0, .aload_n 2, 741, none, [], 0) := rfl
set_option maxRecDepth 50000 in
theorem i_Law_law_741 : ix_nx mLaw_law 741 = some (3, .invokevirtual 109, 744, none, [0, 197, 296], 0) := rfl
set_option maxRecDepth 50000 in
theorem i_Law_law_744 : ix_nx mLaw_law 744 = some (0, .if_icmp .eq 318, 747, none, [], 0) := rfl
set_option maxRecDepth 50000 in
theorem i_Law_law_747 : ix_nx mLaw_law 747 = some (0, .iconst 0, 748, none, [], 0) := rfl
set_option maxRecDepth 50000 in
theorem i_Law_law_748 : ix_nx mLaw_law 748 = some (4, .ireturn, 749, none, [], 0) := rfl
set_option maxRecDepth 50000 in
theorem i_Law_law_749 : ix_nx mLaw_law 749 = some (0, .aload_n 1, 750, none, [], 0) := rfl
set_option maxRecDepth 50000 in
theorem i_Law_law_750 : ix_nx mLaw_law 750 = some (0, .aload_n 0, 751, none, [], 0) := rfl
set_option maxRecDepth 50000 in
theorem i_Law_law_751 : ix_nx mLaw_law 751 = some (0, .iload_n 3, 752, none, [], 0) := rfl
set_option maxRecDepth 50000 in
theorem i_Law_law_752 : ix_nx mLaw_law 752 = some (0, .iconst 1, 753, none, [], 0) := rfl
set_option maxRecDepth 50000 in
theorem i_Law_law_753 : ix_nx mLaw_law 753 = some (0, .iadd, 754, none, [], 0) := rfl
set_option maxRecDepth 50000 in
theorem i_Law_law_754 : ix_nx mLaw_law 754 = some (1, .iaload, 755, none, [], 0) := rfl
set_option maxRecDepth 50000 in
theorem i_Law_law_755 : ix_nx mLaw_law 755 = some (3, .invokevirtual 110, 758, none, [0, 35, 297], 0) := rfl
set_option maxRecDepth 50000 in
theorem i_Law_law_758 : ix_nx mLaw_law 758 = some (0, .aload_n 2, 759, none, [], 0) := rfl
set_option maxRecDepth 50000 in
theorem i_Law_law_759 : ix_nx mLaw_law 759 = some (0, .aload_n 0, 760, none, [], 0) := rfl
set_option maxRecDepth 50000 in
theorem i_Law_law_760 : ix_nx mLaw_law 760 = some (0, .iload_n 3, 761, none, [], 0) := rfl
set_option maxRecDepth 50000 in
theorem i_Law_law_761 : ix_nx mLaw_law 761 = some (0, .iconst 1, 762, none, [], 0) := rfl
set_option maxRecDepth 50000 in
theorem i_Law_law_762 : ix_nx mLaw_law 762 = some (0, .iadd, 763, none, [], 0) := rfl
set_option maxRecDepth 50000 in
theorem i_Law_law_763 : ix_nx mLaw_law 763 = some (1, .iaload, 764, none, [], 0) := rfl
set_option maxRecDepth 50000 in
theorem i_Law_law_764 : ix_nx mLaw_law 764 = some (3, .invokevirtual 113, 767, none, [0, 203, 298], 0) := rfl
set_option maxRecDepth 50000 in
theorem i_Law_law_767 : ix_nx mLaw_law 767 = some (0, .if_icmp .eq 295, 770, none, [], 0) := rfl
set_option maxRecDepth 50000 in
theorem i_Law_law_770 : ix_nx mLaw_law 770 = some (0, .iconst 0, 771, none, [], 0) := rfl
set_option maxRecDepth 50000 in
theorem i_Law_law_771 : ix_nx mLaw_law 771 = some (4, .ireturn, 772, none, [], 0) := rfl
set_option maxRecDepth 50000 in
theorem i_Law_law_772 : ix_nx mLaw_law 772 = some (0, .aload_n 1, 773, none, [], 0) := rfl
set_option maxRecDepth 50000 in
theorem i_Law_law_773 : ix_nx mLaw_law 773 = some (0, .aload_n 0, 774, none, [], 0) := rfl
set_option maxRecDepth 50000 in
theorem i_Law_law_774 : ix_nx mLaw_law 774 = some (0, .iload_n 3, 775, none, [], 0) := rfl
set_option maxRecDepth 50000 in
theorem i_Law_law_775 : ix_nx mLaw_law 775 = some (0, .iconst 1, 776, none, [], 0) := rfl
set_option maxRecDepth 50000 in
theorem i_Law_law_776 : ix_nx mLaw_law 776 = some (0, .iadd, 777, none, [], 0) := rfl
set_option maxRecDepth 50000 in
theorem i_Law_law_777 : ix_nx mLaw_law 777 = some (1, .iaload, 778, none, [], 0) := rfl
set_option maxRecDepth 50000 in
theorem i_Law_law_778 : ix_nx mLaw_law 778 = some (0, .aload_n 0, 779, none, [], 0) := rfl
set_option maxRecDepth 50000 in
theorem i_Law_law_779 : ix_nx mLaw_law 779 = some (0, .iload_n 3, 780, none, [], 0) := rfl
set_option maxRecDepth 50000 in
theorem i_Law_law_780 : ix_nx mLaw_law 780 = some (0, .iconst 2, 781, none, [], 0) := rfl
set_option maxRecDepth 50000 in
theorem i_Law_law_781 : ix_nx mLaw_law 781 = some (0, .iadd, 782, none, [], 0) := rfl
set_option maxRecDepth 50000 in
theorem i_Law_law_782 : ix_nx mLaw_law 782 = some (1, .iaload, 783, none, [], 0) := rfl
set_option maxRecDepth 50000 in
theorem i_Law_law_783 : ix_nx mLaw_law 783 = some (3, .invokevirtual 114, 786, none, [0, 36, 299], 0) := rfl
set_option maxRecDepth 50000 in
theorem i_Law_law_786 : ix_nx mLaw_law 786 = some (0, .aload_n 2, 787, none, [], 0) := rfl
set_option maxRecDepth 50000 in
theorem i_Law_law_787 : ix_nx mLaw_law 787 = some (0, .aload_n 0, 788, none, [], 0) := rfl
set_option maxRecDepth 50000 in
theorem i_Law_law_788 : ix_nx mLaw_law 788 = some (0, .iload_n 3, 789, none, [], 0) := rfl
set_option maxRecDepth 50000 in
theorem i_Law_law_789 : ix_nx mLaw_law 789 = some (0, .iconst 1, 790, none, [], 0) := rfl
set_option maxRecDepth 50000 in
theorem i_Law_law_790 : ix_nx mLaw_law 790 = some (0, .iadd, 791, none, [], 0) := rfl
set_option maxRecDepth 50000 in
theorem i_Law_law_791 : ix_nx mLaw_law 791 = some (1, .iaload, 792, none, [], 0) := rfl
set_option maxRecDepth 50000 in
theorem i_Law_law_792 : ix_nx mLaw_law 792 = some (0, .aload_n 0, 793, none, [], 0) := rfl
set_option maxRecDepth 50000 in
theorem i_Law_law_793 : ix_nx mLaw_law 793 = some (0, .iload_n 3, 794, none, [], 0) := rfl
set_option maxRecDepth 50000 in
theorem i_Law_law_794 : ix_nx mLaw_law 794 = some (0, .iconst 2, 795, none, [], 0) := rfl
set_option maxRecDepth 50000 in
theorem i_Law_law_795 : ix_nx mLaw_law 795 = some (0, .iadd, 796, none, [], 0) := rfl
set_option maxRecDepth 50000 in
theorem i_Law_law_796 : ix_nx mLaw_law 796 = some (1, .iaload, 797, none, [], 0) := rfl
set_option maxRecDepth 50000 in
theorem i_Law_law_797 : ix_nx mLaw_law 797 = some (3, .invokevirtual 117, 800, none, [0, 214, 300], 0) := rfl
set_option maxRecDepth 50000 in
theorem i_Law_law_800 : ix_nx mLaw_law 800 = some (0, .if_icmp .eq 262, 803, none, [], 0) := rfl
set_option maxRecDepth 50000 in
theorem i_Law_law_803 : ix_nx mLaw_law 803 = some (0, .iconst 0, 804, none, [], 0) := rfl
set_option maxRecDepth 50000 in
theorem i_Law_law_804 : ix_nx mLaw_law 804 = some (4, .ireturn, 805, none, [], 0) := rfl
set_option maxRecDepth 50000 in
theorem i_Law_law_805 : ix_nx mLaw_law 805 = some (0, .aload_n 1, 806, none, [], 0) := rfl
set_option maxRecDepth 50000 in
theorem i_Law_law_806 : ix_nx mLaw_law 806 = some (0, .aload_n 0, 807, none, [], 0) := rfl
set_option maxRecDepth 50000 in
theorem i_Law_law_807 : ix_nx mLaw_law 807 = some (0, .iload_n 3, 808, none, [], 0) := rfl
set_option maxRecDepth 50000 in
theorem i_Law_law_808 : ix_nx mLaw_law 808 = some (0, .iconst 1, 809, none, [], 0) := rfl
set_option maxRecDepth 50000 in
theorem i_Law_law_809 : ix_nx mLaw_law 809 = some (0, .iadd, 810, none, [], 0) := rfl
set_option maxRecDepth 50000 in
theorem i_Law_law_810 : ix_nx mLaw_law 810 = some (1, .iaload, 811, none, [], 0) := rfl
set_option maxRecDepth 50000 in
theorem i_Law_law_811 : ix_nx mLaw_law 811 = some (3, .invokevirtual 118, 814, none, [0, 38, 301], 0) := rfl
set_option maxRecDepth 50000 in
theorem i_Law_law_814 : ix_nx mLaw_law 814 = some (0, .aload_n 2, 815, none, [], 0) := rfl
set_option maxRecDepth 50000 in
theorem i_Law_law_815 : ix_nx mLaw_law 815 = some (0, .aload_n 0, 816, none, [], 0) := rfl
set_option maxRecDepth 50000 in
theorem i_Law_law_816 : ix_nx mLaw_law 816 = some (0, .iload_n 3, 817, none, [], 0) := rfl
set_option maxRecDepth 50000 in
theorem i_Law_law_817 : ix_nx mLaw_law 817 = some (0, .iconst 1, 818, none, [], 0) := rfl
set_option maxRecDepth 50000 in
theorem i_Law_law_818 : ix_nx mLaw_law 818 = some (0, .iadd, 819, none, [], 0) := rfl
set_option maxRecDepth 50000 in
theorem i_Law_law_819 : ix_nx mLaw_law 819 = some (1, .iaload, 820, none, [], 0) := rfl
set_option maxRecDepth 50000 in
theorem i_Law_law_820 : ix_nx mLaw_law 820 = some (3, .invokevirtual 121, 823, none, [0, 220, 302], 0) := rfl
set_option maxRecDepth 50000 in
theorem i_Law_law_823 : ix_nx mLaw_law 823 = some (0, .if_icmp .eq 239, 826, none, [], 0) := rfl
set_option maxRecDepth 50000 in
theorem i_Law_law_826 : ix_nx mLaw_law 826 = some (0, .iconst 0, 827, none, [], 0) := rfl
set_option maxRecDepth 50000 in
theorem i_Law_law_827 : ix_nx mLaw_law 827 = some (4, .ireturn, 828, none, [], 0) := rfl
set_option maxRecDepth 50000 in
theorem i_Law_law_828 : ix_nx mLaw_law 828 = some (0, .aload_n 1, 829, none, [], 0) := rfl
set_option maxRecDepth 50000 in
theorem i_Law_law_829 : ix_nx mLaw_law 829 = some (0, .aload_n 0, 830, none, [], 0) := rfl
set_option maxRecDepth 50000 in
theorem i_Law_law_830 : ix_nx mLaw_law 830 = some (0, .iload_n 3, 831, none, [], 0) := rfl
set_option maxRecDepth 50000 in
theorem i_Law_law_831 : ix_nx mLaw_law 831 = some (0, .iconst 1, 832, none, [], 0) := rfl
set_option maxRecDepth 50000 in
theorem i_Law_law_832 : ix_nx mLaw_law 832 = some (0, .iadd, 833, none, [], 0) := rfl
set_option maxRecDepth 50000 in
theorem i_Law_law_833 : ix_nx mLaw_law 833 = some (1, .iaload, 834, none, [], 0) := rfl
set_option maxRecDepth 50000 in
theorem i_Law_law_834 : ix_nx mLaw_law 834 = some (0, .aload_n 0, 835, none, [], 0) := rfl
set_option maxRecDepth 50000 in
theorem i_Law_law_835 : ix_nx mLaw_law 835 = some (0, .iload_n 3, 836, none, [], 0) := rfl
set_option maxRecDepth 50000 in
theorem i_Law_law_836 : ix_nx mLaw_law 836 = some (0, .iconst 2, 837, none, [], 0) := rfl
set_option maxRecDepth 50000 in
theorem i_Law_law_837 : ix_nx mLaw_law 837 = some (0, .iadd, 838, none, [], 0) := rfl
set_option maxRecDepth 50000 in
theorem i_Law_law_838 : ix_nx mLaw_law 838 = some (1, .iaload, 839, none, [], 0) := rfl
set_option maxRecDepth 50000 in
theorem i_Law_law_839 : ix_nx mLaw_law 839 = some (3, .invokevirtual 122, 842, none, [0, 39, 303], 0) := rfl
set_option maxRecDepth 50000 in
theorem i_Law_law_842 : ix_nx mLaw_law 842 = some (0, .aload_n 2, 843, none, [], 0) := rfl
set_option maxRecDepth 50000 in
theorem i_Law_law_843 : ix_nx mLaw_law 843 = some (0, .aload_n 0, 844, none, [], 0) := rfl
set_option maxRecDepth 50000 in
theorem i_Law_law_844 : ix_nx mLaw_law 844 = some (0, .iload_n 3, 845, none, [], 0) := rfl
set_option maxRecDepth 50000 in
theorem i_Law_law_845 : ix_nx mLaw_law 845 = some (0, .iconst 1, 846, none, [], 0) := rfl
set_option maxRecDepth 50000 in
theorem i_Law_law_846 : ix_nx mLaw_law 846 = some (0, .iadd, 847, none, [], 0) := rfl
set_option maxRecDepth 50000 in
theorem i_Law_law_847 : ix_nx mLaw_law 847 = some (1, .iaload, 848, none, [], 0) := rfl
set_option maxRecDepth 50000 in
theorem i_Law_law_848 : ix_nx mLaw_law 848 = some (0, .aload_n 0, 849, none, [], 0) := rfl
set_option maxRecDepth 50000 in
theorem i_Law_law_849 : ix_nx mLaw_law 849 = some (0, .iload_n 3, 850, none, [], 0) := rfl
set_option maxRecDepth 50000 in
theorem i_Law_law_850 : ix_nx mLaw_law 850 = some (0, .iconst 2, 851, none, [], 0) := rfl
set_option maxRecDepth 50000 in
theorem i_Law_law_851 : ix_nx mLaw_law 851 = some (0, .iadd, 852, none, [], 0) := rfl
set_option maxRecDepth 50000 in
theorem i_Law_law_852 : ix_nx mLaw_law 852 = some (1, .iaload, 853, none, [], 0) := rfl
set_option maxRecDepth 50000 in
theorem i_Law_law_853 : ix_nx mLaw_law 853 = some (3, .invokevirtual 125, 856, none, [0, 221, 304], 0) := rfl
set_option maxRecDepth 50000 in
theorem i_Law_law_856 : ix_nx mLaw_law 856 = some (0, .if_icmp .eq 206, 859, none, [], 0) := rfl
set_option maxRecDepth 50000 in
theorem i_Law_law_859 : ix_nx mLaw_law 859 = some (0, .iconst 0, 860, none, [], 0) := rfl
set_option maxRecDepth 50000 in
theorem i_Law_law_860 : ix_nx mLaw_law 860 = some (4, .ireturn, 861, none, [], 0) := rfl
set_option maxRecDepth 50000 in
theorem i_Law_law_861 : ix_nx mLaw_law 861 = some (0, .aload_n 1, 862, none, [], 0) := rfl
set_option maxRecDepth 50000 in
theorem i_Law_law_862 : ix_nx mLaw_law 862 = some (0, .aload_n 0, 863, none, [], 0) := rfl
set_option maxRecDepth 50000 in
theorem i_Law_law_863 : ix_nx mLaw_law 863 = some (0, .iload_n 3, 864, none, [], 0) := rfl
set_option maxRecDepth 50000 in
theorem i_Law_law_864 : ix_nx mLaw_law 864 = some (0, .iconst 1, 865, none, [], 0) := rfl
set_option maxRecDepth 50000 in
theorem i_Law_law_865 : ix_nx mLaw_law 865 = some (0, .iadd, 866, none, [], 0) := rfl
set_option maxRecDepth 50000 in
theorem i_Law_law_866 : ix_nx mLaw_law 866 = some (1, .iaload, 867, none, [], 0) := rfl
set_option maxRecDepth 50000 in
theorem i_Law_law_867 : ix_nx mLaw_law 867 = some (0, .aload_n 0, 868, none, [], 0) := rfl
set_option maxRecDepth 50000 in
theorem i_Law_law_868 : ix_nx mLaw_law 868 = some (0, .iload_n 3, 869, none, [], 0) := rfl
set_option maxRecDepth 50000 in
theorem i_Law_law_869 : ix_nx mLaw_law 869 = some (0, .iconst 2, 870, none, [], 0) := rfl
set_option maxRecDepth 50000 in
theorem i_Law_law_870 : ix_nx mLaw_law 870 = some (0, .iadd, 871, none, [], 0) := rfl
set_option maxRecDepth 50000 in
theorem i_Law_law_871 : ix_nx mLaw_law 871 = some (1, .iaload, 872, none, [], 0) := rfl
set_option maxRecDepth 50000 in
theorem i_Law_law_872 : ix_nx mLaw_law 872 = some (3, .invokevirtual 126, 875, none, [0, 40, 305], 0) := rfl
set_option maxRecDepth 50000 in
theorem i_Law_law_875 : ix_nx mLaw_law 875 = some (0, .aload_n 2, 876, none, [], 0) := rfl
set_option maxRecDepth 50000 in
theorem i_Law_law_876 : ix_nx mLaw_law 876 = some (0, .aload_n 0, 877, none, [], 0) := rfl
set_option maxRecDepth 50000 in
theorem i_Law_law_877 : ix_nx mLaw_law 877 = some (0, .iload_n 3, 878, none, [], 0) := rfl
set_option maxRecDepth 50000 in
theorem i_Law_law_878 : ix_nx mLaw_law 878 = some (0, .iconst 1, 879, none, [], 0) := rfl
set_option maxRecDepth 50000 in
theorem i_Law_law_879 : ix_nx mLaw_law 879 = some (0, .iadd, 880, none, [], 0) := rfl
set_option maxRecDepth 50000 in
theorem i_Law_law_880 : ix_nx mLaw_law 880 = some (1, .iaload, 881, none, [], 0) := rfl
set_option maxRecDepth 50000 in
theorem i_Law_law_881 : ix_nx mLaw_law 881 = some (0, .aload_n 0, 882, none, [], 0) := rfl
set_option maxRecDepth 50000 in
theorem i_Law_law_882 : ix_nx mLaw_law 882 = some (0, .iload_n 3, 883, none, [], 0) := rfl
set_option maxRecDepth 50000 in
theorem i_Law_law_883 : ix_nx mLaw_law 883 = some (0, .iconst 2, 884, none, [], 0) := rfl
set_option maxRecDepth 50000 in
theorem i_Law_law_884 : ix_nx mLaw_law 884 = some (0, .iadd, 885, none, [], 0) := rfl
set_option maxRecDepth 50000 in
theorem i_Law_law_885 : ix_nx mLaw_law 885 = some (1, .iaload, 886, none, [], 0) := rfl
set_option maxRecDepth 50000 in
theorem i_Law_law_886 : ix_nx mLaw_law 886 = some (3, .invokevirtual 129, 889, none, [0, 222, 306], 0) := rfl
set_option maxRecDepth 50000 in
theorem i_Law_law_889 : ix_nx mLaw_law 889 = some (0, .if_icmp .eq 173, 892, none, [], 0) := rfl
set_option maxRecDepth 50000 in
theorem i_Law_law_892 : ix_nx mLaw_law 892 = some (0, .iconst 0, 893, none, [], 0) := rfl
set_option maxRecDepth 50000 in
theorem i_Law_law_893 : ix_nx mLaw_law 893 = some (4, .ireturn, 894, none, [], 0) := rfl
set_option maxRecDepth 50000 in
theorem i_Law_law_894 : ix_nx mLaw_law 894 = some (0, .aload_n 1, 895, none, [], 0) := rfl
set_option maxRecDepth 50000 in
theorem i_Law_law_895 : ix_nx mLaw_law 895 = some (0, .aload_n 0, 896, none, [], 0) := rfl
set_option maxRecDepth 50000 in
theorem i_Law_law_896 : ix_nx mLaw_law 896 = some (0, .iload_n 3, 897, none, [], 0) := rfl
set_option maxRecDepth 50000 in
theorem i_Law_law_897 : ix_nx mLaw_law 897 = some (0, .iconst 1, 898, none, [], 0) := rfl
set_option maxRecDepth 50000 in
theorem i_Law_law_898 : ix_nx mLaw_law 898 = some (0, .iadd, 899, none, [], 0) := rfl
set_option maxRecDepth 50000 in
theorem i_Law_law_899 : ix_nx mLaw_law 899 = some (1, .iaload, 900, none, [], 0) := rfl
set_option maxRecDepth 50000 in
theorem i_Law_law_900 : ix_nx mLaw_law 900 = some (0, .aload_n 0, 901, none, [], 0) := rfl
set_option maxRecDepth 50000 in
theorem i_Law_law_901 : ix_nx mLaw_law 901 = some (0, .iload_n 3, 902, none, [], 0) := rfl
set_option maxRecDepth 50000 in
theorem i_Law_law_902 : ix_nx mLaw_law 902 = some (0, .iconst 2, 903, none, [], 0) := rfl
set_option maxRecDepth 50000 in
theorem i_Law_law_903 : ix_nx mLaw_law 903 = some (0, .iadd, 904, none, [], 0) := rfl
set_option maxRecDepth 50000 in
theorem i_Law_law_904 : ix_nx mLaw_law 904 = some (1, .iaload, 905, none, [], 0) := rfl
set_option maxRecDepth 50000 in
theorem i_Law_law_905 : ix_nx mLaw_law 905 = some (3, .invokevirtual 130, 908, none, [0, 44, 307], 0) := rfl
set_option maxRecDepth 50000 in
theorem i_Law_law_908 : ix_nx mLaw_law 908 = some (0, .aload_n 2, 909, none, [], 0) := rfl
set_option maxRecDepth 50000 in
theorem i_Law_law_909 : ix_nx mLaw_law 909 = some (0, .aload_n 0, 910, none, [], 0) := rfl
set_option maxRecDepth 50000 in
theorem i_Law_law_910 : ix_nx mLaw_law 910 = some (0, .iload_n 3, 911, none, [], 0) := rfl
set_option maxRecDepth 50000 in
theorem i_Law_law_911 : ix_nx mLaw_law 911 = some (0, .iconst 1, 912, none, [], 0) := rfl
set_option maxRecDepth 50000 in
theorem i_Law_law_912 : ix_nx mLaw_law 912 = some (0, .iadd, 913, none, [], 0) := rfl
set_option maxRecDepth 50000 in
theorem i_Law_law_913 : ix_nx mLaw_law 913 = some (1, .iaload, 914, none, [], 0) := rfl
set_option maxRecDepth 50000 in
theorem i_Law_law_914 : ix_nx mLaw_law 914 = some (0, .aload_n 0, 915, none, [], 0) := rfl
set_option maxRecDepth 50000 in
theorem i_Law_law_915 : ix_nx mLaw_law 915 = some (0, .iload_n 3, 916, none, [], 0) := rfl
set_option maxRecDepth 50000 in
theorem i_Law_law_916 : ix_nx mLaw_law 916 = some (0, .iconst 2, 917, none, [], 0) := rfl
set_option maxRecDepth 50000 in
theorem i_Law_law_917 : ix_nx mLaw_law 917 = some (0, .iadd, 918, none, [], 0) := rfl
set_option maxRecDepth 50000 in
theorem i_Law_law_918 : ix_nx mLaw_law 918 = some (1, .iaload, 919, none, [], 0) := rfl
set_option maxRecDepth 50000 in
theorem i_Law_law_919 : ix_nx mLaw_law 919 = some (3, .invokevirtual 133, 922, none, [0, 229, 308], 0) := rfl
set_option maxRecDepth 50000 in
theorem i_Law_law_922 : ix_nx mLaw_law 922 = some (0, .if_icmp .eq 140, 925, none, [], 0) := rfl
set_option maxRecDepth 50000 in
theorem i_Law_law_925 : ix_nx mLaw_law 925 = some (0, .iconst 0, 926, none, [], 0) := rfl
set_option maxRecDepth 50000 in
theorem i_Law_law_926 : ix_nx mLaw_law 926 = some (4, .ireturn, 927, none, [], 0) := rfl
set_option maxRecDepth 50000 in
theorem i_Law_law_927 : ix_nx mLaw_law 927 = some (0, .aload_n 1, 928, none, [], 0) := rfl
set_option maxRecDepth 50000 in
theorem i_Law_law_928 : ix_nx mLaw_law 928 = some (0, .aload_n 0, 929, none, [], 0) := rfl
set_option maxRecDepth 50000 in
theorem i_Law_law_929 : ix_nx mLaw_law 929 = some (0, .iload_n 3, 930, none, [], 0) := rfl
set_option maxRecDepth 50000 in
theorem i_Law_law_930 : ix_nx mLaw_law 930 = some (0, .iconst 1, 931, none, [], 0) := rfl
set_option maxRecDepth 50000 in
theorem i_Law_law_931 : ix_nx mLaw_law 931 = some (0, .iadd, 932, none, [], 0) := rfl
set_option maxRecDepth 50000 in
theorem i_Law_law_932 : ix_nx mLaw_law 932 = some (1, .iaload, 933, none, [], 0) := rfl
set_option maxRecDepth 50000 in
theorem i_Law_law_933 : ix_nx mLaw_law 933 = some (0, .aload_n 0, 934, none, [], 0) := rfl
set_option maxRecDepth 50000 in
theorem i_Law_law_934 : ix_nx mLaw_law 934 = some (0, .iload_n 3, 935, none, [], 0) := rfl
set_option maxRecDepth 50000 in
theorem i_Law_law_935 : ix_nx mLaw_law 935 = some (0, .iconst 2, 936, none, [], 0) := rfl
set_option maxRecDepth 50000 in
theorem i_Law_law_936 : ix_nx mLaw_law 936 = some (0, .iadd, 937, none, [], 0) := rfl
set_option maxRecDepth 50000 in
theorem i_Law_law_937 : ix_nx mLaw_law 937 = some (1, .iaload, 938, none, [], 0) := rfl
set_option maxRecDepth 50000 in
theorem i_Law_law_938 : ix_nx mLaw_law 938 = some (3, .invokevirtual 134, 941, none, [0, 46, 309], 0) := rfl
set_option maxRecDepth 50000 in
theorem i_Law_law_941 : ix_nx mLaw_law 941 = some (0, .aload_n 2, 942, none, [], 0) := rfl
set_option maxRecDepth 50000 in
theorem i_Law_law_942 : ix_nx mLaw_law 942 = some (0, .aload_n 0, 943, none, [], 0) := rfl
set_option maxRecDepth 50000 in
theorem i_Law_law_943 : ix_nx mLaw_law 943 = some (0, .iload_n 3, 944, none, [], 0) := rfl
set_option maxRecDepth 50000 in
theorem i_Law_law_944 : ix_nx mLaw_law 944 = some (0, .iconst 1, 945, none, [], 0) := rfl
set_option maxRecDepth 50000 in
theorem i_Law_law_945 : ix_nx mLaw_law 945 = some (0, .iadd, 946, none, [], 0) := rfl
set_option maxRecDepth 50000 in
theorem i_Law_law_946 : ix_nx mLaw_law 946 = some (1, .iaload, 947, none, [], 0) := rfl
set_option maxRecDepth 50000 in
theorem i_Law_law_947 : ix_nx mLaw_law 947 = some (0, .aload_n 0, 948, none, [], 0) := rfl
set_option maxRecDepth 50000 in
theorem i_Law_law_948 : ix_nx mLaw_law 948 = some (0, .iload_n 3, 949, none, [], 0) := rfl
set_option maxRecDepth 50000 in
theorem i_Law_law_949 : ix_nx mLaw_law 949 = some (0, .iconst 2, 950, none, [], 0) := rfl
set_option maxRecDepth 50000 in
theorem i_Law_law_950 : ix_nx mLaw_law 950 = some (0, .iadd, 951, none, [], 0) := rfl
set_option maxRecDepth 50000 in
theorem i_Law_law_951 : ix_nx mLaw_law 951 = some (1, .iaload, 952, none, [], 0) := rfl
set_option maxRecDepth 50000 in
theorem i_Law_law_952 : ix_nx mLaw_law 952 = some (3, .invokevirtual 137, 955, none, [0, 230, 310], 0) := rfl
set_option maxRecDepth 50000 in
theorem i_Law_law_955 : ix_nx mLaw_law 955 = some (0, .if_icmp .eq 107, 958, none, [], 0) := rfl
set_option maxRecDepth 50000 in
theorem i_Law_law_958 : ix_nx mLaw_law 958 = some (0, .iconst 0, 959, none, [], 0) := rfl
set_option maxRecDepth 50000 in
theorem i_Law_law_959 : ix_nx mLaw_law 959 = some (4, .ireturn, 960, none, [], 0) := rfl
set_option maxRecDepth 50000 in
theorem i_Law_law_960 : ix_nx mLaw_law 960 = some (0, .aload_n 1, 961, none, [], 0) := rfl
set_option maxRecDepth 50000 in
theorem i_Law_law_961 : ix_nx mLaw_law 961 = some (0, .aload_n 0, 962, none, [], 0) := rfl
set_option maxRecDepth 50000 in
theorem i_Law_law_962 : ix_nx mLaw_law 962 = some (0, .iload_n 3, 963, none, [], 0) := rfl
set_option maxRecDepth 50000 in
theorem i_Law_law_963 : ix_nx mLaw_law 963 = some (0, .iconst 1, 964, none, [], 0) := rfl
set_option maxRecDepth 50000 in
theorem i_Law_law_964 : ix_nx mLaw_law 964 = some (0, .iadd, 965, none, [], 0) := rfl
set_option maxRecDepth 50000 in
theorem i_Law_law_965 : ix_nx mLaw_law 965 = some (1, .iaload, 966, none, [], 0) := rfl
set_option maxRecDepth 50000 in
theorem i_Law_law_966 : ix_nx mLaw_law 966 = some (0, .aload_n 0, 967, none, [], 0) := rfl
set_option maxRecDepth 50000 in
theorem i_Law_law_967 : ix_nx mLaw_law 967 = some (0, .iload_n 3, 968, none, [], 0) := rfl
set_option maxRecDepth 50000 in
theorem i_Law_law_968 : ix_nx mLaw_law 968 = some (0, .iconst 2, 969, none, [], 0) := rfl
set_option maxRecDepth 50000 in
theorem i_Law_law_969 : ix_nx mLaw_law 969 = some (0, .iadd, 970, none, [], 0) := rfl
set_option maxRecDepth 50000 in
theorem i_Law_law_970 : ix_nx mLaw_law 970 = some (1, .iaload, 971, none, [], 0) := rfl
set_option maxRecDepth 50000 in
theorem i_Law_law_971 : ix_nx mLaw_law 971 = some (3, .invokevirtual 138, 974, none, [0, 48, 311], 0) := rfl
set_option maxRecDepth 50000 in
theorem i_Law_law_974 : ix_nx mLaw_law 974 = some (0, .aload_n 2, 975, none, [], 0) := rfl
set_option maxRecDepth 50000 in
theorem i_Law_law_975 : ix_nx mLaw_law 975 = some (0, .aload_n 0, 976, none, [], 0) := rfl
set_option maxRecDepth 50000 in
theorem i_Law_law_976 : ix_nx mLaw_law 976 = some (0, .iload_n 3, 977, none, [], 0) := rfl
set_option maxRecDepth 50000 in
theorem i_Law_law_977 : ix_nx mLaw_law 977 = some (0, .iconst 1, 978, none, [], 0) := rfl
set_option maxRecDepth 50000 in
theorem i_Law_law_978 : ix_nx mLaw_law 978 = some (0, .iadd, 979, none, [], 0) := rfl
set_option maxRecDepth 50000 in
theorem i_Law_law_979 : ix_nx mLaw_law 979 = some (1, .iaload, 980, none, [], 0) := rfl
set_option maxRecDepth 50000 in
theorem i_Law_law_980 : ix_nx mLaw_law 980 = some (0, .aload_n 0, 981, none, [], 0) := rfl
set_option maxRecDepth 50000 in
theorem i_Law_law_981 : ix_nx mLaw_law 981 = some (0, .iload_n 3, 982, none, [], 0) := rfl
set_option maxRecDepth 50000 in
theorem i_Law_law_982 : ix_nx mLaw_law 982 = some (0, .iconst 2, 983, none, [], 0) := rfl
set_option maxRecDepth 50000 in
theorem i_Law_law_983 : ix_nx mLaw_law 983 = some (0, .iadd, 984, none, [], 0) := rfl
set_option maxRecDepth 50000 in
theorem i_Law_law_984 : ix_nx mLaw_law 984 = some (1, .iaload, 985, none, [], 0) := rfl
set_option maxRecDepth 50000 in
theorem i_Law_law_985 : ix_nx mLaw_law 985 = some (3, .invokevirtual 141, 988, none, [0, 233, 312], 0) := rfl
set_option maxRecDepth 50000 in
theorem i_Law_law_988 : ix_nx mLaw_law 988 = some (0, .if_icmp .eq 74, 991, none, [], 0) := rfl
set_option maxRecDepth 50000 in
theorem i_Law_law_991 : ix_nx mLaw_law 991 = some (0, .iconst 0, 992, none, [], 0) := rfl
set_option maxRecDepth 50000 in
theorem i_Law_law_992 : ix_nx mLaw_law 992 = some (4, .ireturn, 993, none, [], 0) := rfl
set_option maxRecDepth 50000 in
theorem i_Law_law_993 : ix_nx mLaw_law 993 = some (0, .aload_n 1, 994, none, [], 0) := rfl
set_option maxRecDepth 50000 in
theorem i_Law_law_994 : ix_nx mLaw_law 994 = some (0, .aload_n 0, 995, none, [], 0) := rfl
set_option maxRecDepth 50000 in
theorem i_Law_law_995 : ix_nx mLaw_law 995 = some (0, .iload_n 3, 996, none, [], 0) := rfl
set_option maxRecDepth 50000 in
theorem i_Law_law_996 : ix_nx mLaw_law 996 = some (0, .iconst 1, 997, none, [], 0) := rfl
set_option maxRecDepth 50000 in
theorem i_Law_law_997 : ix_nx mLaw_law 997 = some (0, .iadd, 998, none, [], 0) := rfl
set_option maxRecDepth 50000 in
theorem i_Law_law_998 : ix_nx mLaw_law 998 = some (1, .iaload, 999, none, [], 0) := rfl
set_option maxRecDepth 50000 in
theorem i_Law_law_999 : ix_nx mLaw_law 999 = some (3, .invokevirtual 142, 1002, none, [0, 51, 313], 0) := rfl
set_option maxRecDepth 50000 in
theorem i_Law_law_1002 : ix_nx mLaw_law 1002 = some (0, .aload_n 2, 1003, none, [], 0) := rfl
set_option maxRecDepth 50000 in
theorem i_Law_law_1003 : ix_nx mLaw_law 1003 = some (0, .aload_n 0, 1004, none, [], 0) := rfl
set_option maxRecDepth 50000 in
theorem i_Law_law_1004 : ix_nx mLaw_law 1004 = some (0, .iload_n 3, 1005, none, [], 0) := rfl
set_option maxRecDepth 50000 in
theorem i_Law_law_1005 : ix_nx mLaw_law 1005 = some (0, .iconst 1, 1006, none, [], 0) := rfl
set_option maxRecDepth 50000 in
theorem i_Law_law_1006 : ix_nx mLaw_law 1006 = some (0, .iadd, 1007, none, [], 0) := rfl
set_option maxRecDepth 50000 in
theorem i_Law_law_1007 : ix_nx mLaw_law 1007 = some (1, .iaload, 1008, none, [], 0) := rfl
set_option maxRecDepth 50000 in
theorem i_Law_law_1008 : ix_nx mLaw_law 1008 = some (3, .invokevirtual 145, 1011, none, [0, 241, 314], 0) := rfl
set_option maxRecDepth 50000 in
theorem i_Law_law_1011 : ix_nx mLaw_law 1011 = some (0, .if_icmp .eq 51, 1014, none, [], 0) := rfl
set_option maxRecDepth 50000 in
theorem i_Law_law_1014 : ix_nx mLaw_law 1014 = some (0, .iconst 0, 1015, none, [], 0) := rfl
set_option maxRecDepth 50000 in
theorem i_Law_law_1015 : ix_nx mLaw_law 1015 = some (4, .ireturn, 1016, none, [], 0) := rfl
set_option maxRecDepth 50000 in
theorem i_Law_law_1016 : ix_nx mLaw_law 1016 = some (0, .aload_n 1, 1017, none, [], 0) := rfl
set_option maxRecDepth 50000 in
theorem i_Law_law_1017 : ix_nx mLaw_law 1017 = some (0, .aload_n 0, 1018, none, [], 0) := rfl
set_option maxRecDepth 50000 in
theorem i_Law_law_1018 : ix_nx mLaw_law 1018 = some (0, .iload_n 3, 1019, none, [], 0) := rfl
set_option maxRecDepth 50000 in
theorem i_Law_law_1019 : ix_nx mLaw_law 1019 = some (0, .iconst 1, 1020, none, [], 0) := rfl
set_option maxRecDepth 50000 in
theorem i_Law_law_1020 : ix_nx mLaw_law 1020 = some (0, .iadd, 1021, none, [], 0) := rfl
set_option maxRecDepth 50000 in
theorem i_Law_law_1021 : ix_nx mLaw_law 1021 = some (1, .iaload, 1022, none, [], 0) := rfl
set_option maxRecDepth 50000 in
theorem i_Law_law_1022 : ix_nx mLaw_law 1022 = some (3, .invokevirtual 146, 1025, none, [0, 52, 315], 0) := rfl
set_option maxRecDepth 50000 in
theorem i_Law_law_1025 : ix_nx mLaw_law 1025 = some (0, .aload_n 2, 1026, none, [], 0) := rfl
set_option maxRecDepth 50000 in
theorem i_Law_law_1026 : ix_nx mLaw_law 1026 = some (0, .aload_n 0, 1027, none, [], 0) := rfl
set_option maxRecDepth 50000 in
theorem i_Law_law_1027 : ix_nx mLaw_law 1027 = some (0, .iload_n 3, 1028, none, [], 0) := rfl
set_option maxRecDepth 50000 in
theorem i_Law_law_1028 : ix_nx mLaw_law 1028 = some (0, .iconst 1, 1029, none, [], 0) := rfl
set_option maxRecDepth 50000 in
theorem i_Law_law_1029 : ix_nx mLaw_law 1029 = some (0, .iadd, 1030, none, [], 0) := rfl
set_option maxRecDepth 50000 in
theorem i_Law_law_1030 : ix_nx mLaw_law 1030 = some (1, .iaload, 1031, none, [], 0) := rfl
set_option maxRecDepth 50000 in
theorem i_Law_law_1031 : ix_nx mLaw_law 1031 = some (3, .invokevirtual 149, 1034, none, [0, 244, 316], 0) := rfl
set_option maxRecDepth 50000 in
theorem i_Law_law_1034 : ix_nx mLaw_law 1034 = some (0, .if_icmp .eq 28, 1037, none, [], 0) := rfl
set_option maxRecDepth 50000 in
theorem i_Law_law_1037 : ix_nx mLaw_law 1037 = some (0, .iconst 0, 1038, none, [], 0) := rfl
set_option maxRecDepth 50000 in
theorem i_Law_law_1038 : ix_nx mLaw_law 1038 = some (4, .ireturn, 1039, none, [], 0) := rfl
set_option maxRecDepth 50000 in
theorem i_Law_law_1039 : ix_nx mLaw_law 1039 = some (0, .aload_n 1, 1040, none, [], 0) := rfl
set_option maxRecDepth 50000 in
theorem i_Law_law_1040 : ix_nx mLaw_law 1040 = some (0, .aload_n 0, 1041, none, [], 0) := rfl
set_option maxRecDepth 50000 in
theorem i_Law_law_1041 : ix_nx mLaw_law 1041 = some (0, .iload_n 3, 1042, none, [], 0) := rfl
set_option maxRecDepth 50000 in
theorem i_Law_law_1042 : ix_nx mLaw_law 1042 = some (0, .iconst 1, 1043, none, [], 0) := rfl
set_option maxRecDepth 50000 in
theorem i_Law_law_1043 : ix_nx mLaw_law 1043 = some (0, .iadd, 1044, none, [], 0) := rfl
set_option maxRecDepth 50000 in
theorem i_Law_law_1044 : ix_nx mLaw_law 1044 = some (1, .iaload, 1045, none, [], 0) := rfl
set_option maxRecDepth 50000 in
theorem i_Law_law_1045 : ix_nx mLaw_law 1045 = some (3, .invokevirtual 150, 1048, none, [0, 54, 317], 0) := rfl
set_option maxRecDepth 50000 in
theorem i_Law_law_1048 : ix_nx mLaw_law 1048 = some (0, .aload_n 2, 1049, none, [], 0) := rfl
set_option maxRecDepth 50000 in
theorem i_Law_law_1049 : ix_nx mLaw_law 1049 = some (0, .aload_n 0, 1050, none, [], 0) := rfl
set_option maxRecDepth 50000 in
theorem i_Law_law_1050 : ix_nx mLaw_law 1050 = some (0, .iload_n 3, 1051, none, [], 0) := rfl
set_option maxRecDepth 50000 in
theorem i_Law_law_1051 : ix_nx mLaw_law 1051 = some (0, .iconst 1, 1052, none, [], 0) := rfl
set_option maxRecDepth 50000 in
theorem i_Law_law_1052 : ix_nx mLaw_law 1052 = some (0, .iadd, 1053, none, [], 0) := rfl
set_option maxRecDepth 50000 in
theorem i_Law_law_1053 : ix_nx mLaw_law 1053 = some (1, .iaload, 1054, none, [], 0) := rfl
set_option maxRecDepth 50000 in
theorem i_Law_law_1054 : ix_nx mLaw_law 1054 = some (3, .invokevirtual 153, 1057, none, [0, 245, 318], 0) := rfl
set_option maxRecDepth 50000 in
theorem i_Law_law_1057 : ix_nx mLaw_law 1057 = some (0, .if_icmp .eq 5, 1060, none, [], 0) := rfl
set_option maxRecDepth 50000 in
theorem i_Law_law_1060 : ix_nx mLaw_law 1060 = some (0, .iconst 0, 1061, none, [], 0) := rfl
set_option maxRecDepth 50000 in
theorem i_Law_law_1061 : ix_nx mLaw_law 1061 = some (4, .ireturn, 1062, none, [], 0) := rfl
set_option maxRecDepth 50000 in
theorem i_Law_law_1062 : ix_nx mLaw_law 1062 = some (0, .iinc 3 4, 1065, none, [], 0) := rfl
set_option maxRecDepth 50000 in
theorem i_Law_law_1065 : ix_nx mLaw_law 1065 = some (0, .goto (-1047), 1068, none, [], 0) := rfl
set_option maxRecDepth 50000 in
theorem i_Law_law_1068 : ix_nx mLaw_law 1068 = some (0, .iconst 1, 1069, none, [], 0) := rfl
set_option maxRecDepth 50000 in
theorem i_Law_law_1069 : ix_nx mLaw_law 1069 = some (4, .ireturn, 1070, none, [], 0) := rfl
noncomputable def l_Law_law_18 (a0 : Nat) (a1 : Nat) (a2 : Nat) (x3 : Int32) (h : ixH) : Option (List Value × ixH) := ix_D mLaw_law 18 [some (.ref a0), some (.ref a1), some (.ref a2), some (.int x3)] [] h
set_option maxRecDepth 20000 in
set_option maxHeartbeats 1000000 in
theorem e_Law_law_18 (a0 : Nat) (a1 : Nat) (a2 : Nat) (x3 : Int32) (h : ixH) : l_Law_law_18 a0 a1 a2 x3 h = (ix_an h a0).bind fun v1 => if ((Int32.ofNat v1) - 4) < x3 then some ([.int (ix_bi true)], h) else (ix_ai h a0 x3).bind fun v2 => ix_sel (v2 &&& 63) 0 [(ix_ai h a0 (x3 + 1)).bind fun v3 => (ix_ai h a0 (x3 + 2)).bind fun v4 => (ix_M mRP_setUp [.ref a1, .int v3, .int v4] h).bind fun r => ix_kI r fun v6 h5 => (ix_ai h5 a0 (x3 + 1)).bind fun v7 => (ix_ai h5 a0 (x3 + 2)).bind fun v8 => (ix_M mMo_setUp [.ref a2, .int v7, .int v8] h5).bind fun r => ix_kI r fun v10 h9 => if v6 = v10 then l_Law_law_18 a0 a1 a2 (x3 + 4) h9 else some ([.int (ix_bi false)], h9), (ix_ai h a0 (x3 + 1)).bind fun v11 => (ix_ai h a0 (x3 + 2)).bind fun v12 => (ix_M mRP_wall [.ref a1, .int v11, .int v12] h).bind fun r => ix_kI r fun v14 h13 => (ix_ai h13 a0 (x3 + 1)).bind fun v15 => (ix_ai h13 a0 (x3 + 2)).bind fun v16 => (ix_M mMo_wall [.ref a2, .int v15, .int v16] h13).bind fun r => ix_kI r fun v18 h17 => if v14 = v18 then l_Law_law_18 a0 a1 a2 (x3 + 4) h17 else some ([.int (ix_bi false)], h17), (ix_ai h a0 (x3 + 1)).bind fun v19 => (ix_ai h a0 (x3 + 2)).bind fun v20 => (ix_M mRP_role [.ref a1, .int v19, .int v20] h).bind fun r => ix_kI r fun v22 h21 => (ix_ai h21 a0 (x3 + 1)).bind fun v23 => (ix_ai h21 a0 (x3 + 2)).bind fun v24 => (ix_M mMo_role [.ref a2, .int v23, .int v24] h21).bind fun r => ix_kI r fun v26 h25 => if v22 = v26 then l_Law_law_18 a0 a1 a2 (x3 + 4) h25 else some ([.int (ix_bi false)], h25), (ix_ai h a0 (x3 + 1)).bind fun v27 => (ix_ai h a0 (x3 + 2)).bind fun v28 => (ix_M mRP_wire [.ref a1, .int v27, .int v28] h).bind fun r => ix_kI r fun v30 h29 => (ix_ai h29 a0 (x3 + 1)).bind fun v31 => (ix_ai h29 a0 (x3 + 2)).bind fun v32 => (ix_M mMo_wire [.ref a2, .int v31, .int v32] h29).bind fun r => ix_kI r fun v34 h33 => if v30 = v34 then l_Law_law_18 a0 a1 a2 (x3 + 4) h33 else some ([.int (ix_bi false)], h33), (ix_ai h a0 (x3 + 1)).bind fun v35 => (ix_M mRP_turn [.ref a1, .int v35] h).bind fun r => ix_kI r fun v37 h36 => (ix_ai h36 a0 (x3 + 1)).bind fun v38 => (ix_M mMo_turn [.ref a2, .int v38] h36).bind fun r => ix_kI r fun v40 h39 => if v37 = v40 then l_Law_law_18 a0 a1 a2 (x3 + 4) h39 else some ([.int (ix_bi false)], h39), (ix_ai h a0 (x3 + 1)).bind fun v41 => (ix_ai h a0 (x3 + 2)).bind fun v42 => (ix_M mRP_cell [.ref a1, .int v41, .int v42] h).bind fun r => ix_kI r fun v44 h43 => (ix_ai h43 a0 (x3 + 1)).bind fun v45 => (ix_ai h43 a0 (x3 + 2)).bind fun v46 => (ix_M mMo_cell [.ref a2, .int v45, .int v46] h43).bind fun r => ix_kI r fun v48 h47 => if v44 = v48 then l_Law_law_18 a0 a1 a2 (x3 + 4) h47 else some ([.int (ix_bi false)], h47), (ix_ai h a0 (x3 + 1)).bind fun v49 => (ix_ai h a0 (x3 + 2)).bind fun v50 => (ix_M mRP_put [.ref a1, .long ((ix_shl (Int32.toInt64 v49) 32) ||| ((Int32.toInt64 v50) &&& 4294967295))] h).bind fun r => ix_kI r fun v52 h51 => (ix_ai h51 a0 (x3 + 1)).bind fun v53 => (ix_ai h51 a0 (x3 + 2)).bind fun v54 => (ix_M mMo_put [.ref a2, .long ((ix_shl (Int32.toInt64 v53) 32) ||| ((Int32.toInt64 v54) &&& 4294967295))] h51).bind fun r => ix_kI r fun v56 h55 => if v52 = v56 then l_Law_law_18 a0 a1 a2 (x3 + 4) h55 else some ([.int (ix_bi false)], h55), (ix_M mRP_wipe [.ref a1] h).bind fun r => ix_kI r fun v58 h57 => (ix_M mMo_wipe [.ref a2] h57).bind fun r => ix_kI r fun v60 h59 => if v58 = v60 then l_Law_law_18 a0 a1 a2 (x3 + 4) h59 else some ([.int (ix_bi false)], h59), (ix_M mRP_fault [.ref a1] h).bind fun r => ix_kI r fun v62 h61 => (ix_M mMo_fault [.ref a2] h61).bind fun r => ix_kI r fun v64 h63 => if v62 = v64 then l_Law_law_18 a0 a1 a2 (x3 + 4) h63 else some ([.int (ix_bi false)], h63), (ix_M mRP_load [.ref a1] h).bind fun r => ix_kI r fun v66 h65 => (ix_M mMo_load [.ref a2] h65).bind fun r => ix_kI r fun v68 h67 => if v66 = v68 then l_Law_law_18 a0 a1 a2 (x3 + 4) h67 else some ([.int (ix_bi false)], h67), (ix_ai h a0 (x3 + 1)).bind fun v69 => (ix_ai h a0 (x3 + 2)).bind fun v70 => (ix_M mRP_falling [.ref a1, .int v69, .int v70] h).bind fun r => ix_kL r fun v72 h71 => (ix_ai h71 a0 (x3 + 1)).bind fun v73 => (ix_ai h71 a0 (x3 + 2)).bind fun v74 => (ix_M mMo_falling [.ref a2, .int v73, .int v74] h71).bind fun r => ix_kL r fun v76 h75 => if v72 = v76 then l_Law_law_18 a0 a1 a2 (x3 + 4) h75 else some ([.int (ix_bi false)], h75), (ix_ai h a0 (x3 + 1)).bind fun v77 => (ix_ai h a0 (x3 + 2)).bind fun v78 => (ix_M mRP_pair [.ref a1, .int v77, .int v78] h).bind fun r => ix_kI r fun v80 h79 => (ix_ai h79 a0 (x3 + 1)).bind fun v81 => (ix_ai h79 a0 (x3 + 2)).bind fun v82 => (ix_M mMo_pair [.ref a2, .int v81, .int v82] h79).bind fun r => ix_kI r fun v84 h83 => if v80 = v84 then l_Law_law_18 a0 a1 a2 (x3 + 4) h83 else some ([.int (ix_bi false)], h83), (ix_M mRP_unpair [.ref a1] h).bind fun r => ix_kI r fun v86 h85 => (ix_M mMo_unpair [.ref a2] h85).bind fun r => ix_kI r fun v88 h87 => if v86 = v88 then l_Law_law_18 a0 a1 a2 (x3 + 4) h87 else some ([.int (ix_bi false)], h87), (ix_M mRP_tuples [.ref a1] h).bind fun r => ix_kL r fun v90 h89 => (ix_M mMo_tuples [.ref a2] h89).bind fun r => ix_kL r fun v92 h91 => if v90 = v92 then l_Law_law_18 a0 a1 a2 (x3 + 4) h91 else some ([.int (ix_bi false)], h91), (ix_M mRP_determinant [.ref a1] h).bind fun r => ix_kL r fun v94 h93 => (ix_M mMo_determinant [.ref a2] h93).bind fun r => ix_kL r fun v96 h95 => if v94 = v96 then l_Law_law_18 a0 a1 a2 (x3 + 4) h95 else some ([.int (ix_bi false)], h95), (ix_ai h a0 (x3 + 1)).bind fun v97 => (ix_ai h a0 (x3 + 2)).bind fun v98 => (ix_M mRP_steps [.ref a1, .int v97, .int v98] h).bind fun r => ix_kI r fun v100 h99 => (ix_ai h99 a0 (x3 + 1)).bind fun v101 => (ix_ai h99 a0 (x3 + 2)).bind fun v102 => (ix_M mMo_steps [.ref a2, .int v101, .int v102] h99).bind fun r => ix_kI r fun v104 h103 => if v100 = v104 then l_Law_law_18 a0 a1 a2 (x3 + 4) h103 else some ([.int (ix_bi false)], h103), (ix_ai h a0 (x3 + 1)).bind fun v105 => (ix_ai h a0 (x3 + 2)).bind fun v106 => (ix_ai h a0 (x3 + 3)).bind fun v107 => (ix_M mRP_shortest [.ref a1, .int v105, .int v106, .int v107] h).bind fun r => ix_kI r fun v109 h108 => (ix_ai h108 a0 (x3 + 1)).bind fun v110 => (ix_ai h108 a0 (x3 + 2)).bind fun v111 => (ix_ai h108 a0 (x3 + 3)).bind fun v112 => (ix_M mMo_shortest [.ref a2, .int v110, .int v111, .int v112] h108).bind fun r => ix_kI r fun v114 h113 => if v109 = v114 then l_Law_law_18 a0 a1 a2 (x3 + 4) h113 else some ([.int (ix_bi false)], h113), (ix_M mRP_flow [.ref a1] h).bind fun r => ix_kI r fun v116 h115 => (ix_M mMo_flow [.ref a2] h115).bind fun r => ix_kI r fun v118 h117 => if v116 = v118 then l_Law_law_18 a0 a1 a2 (x3 + 4) h117 else some ([.int (ix_bi false)], h117), (ix_ai h a0 (x3 + 1)).bind fun v119 => (ix_ai h a0 (x3 + 2)).bind fun v120 => (ix_M mRP_pass [.ref a1, .int v119, .int v120] h).bind fun r => ix_kI r fun v122 h121 => (ix_ai h121 a0 (x3 + 1)).bind fun v123 => (ix_ai h121 a0 (x3 + 2)).bind fun v124 => (ix_M mMo_pass [.ref a2, .int v123, .int v124] h121).bind fun r => ix_kI r fun v126 h125 => if v122 = v126 then l_Law_law_18 a0 a1 a2 (x3 + 4) h125 else some ([.int (ix_bi false)], h125), (ix_ai h a0 (x3 + 1)).bind fun v127 => (ix_M mRP_changed [.ref a1, .int v127] h).bind fun r => ix_kI r fun v129 h128 => (ix_ai h128 a0 (x3 + 1)).bind fun v130 => (ix_M mMo_changed [.ref a2, .int v130] h128).bind fun r => ix_kI r fun v132 h131 => if v129 = v132 then l_Law_law_18 a0 a1 a2 (x3 + 4) h131 else some ([.int (ix_bi false)], h131), (ix_ai h a0 (x3 + 1)).bind fun v133 => (ix_M mRP_bestTurns [.ref a1, .int v133] h).bind fun r => ix_kI r fun v135 h134 => (ix_ai h134 a0 (x3 + 1)).bind fun v136 => (ix_M mMo_bestTurns [.ref a2, .int v136] h134).bind fun r => ix_kI r fun v138 h137 => if v135 = v138 then l_Law_law_18 a0 a1 a2 (x3 + 4) h137 else some ([.int (ix_bi false)], h137), (ix_M mRP_cover [.ref a1] h).bind fun r => ix_kI r fun v140 h139 => (ix_M mMo_cover [.ref a2] h139).bind fun r => ix_kI r fun v142 h141 => if v140 = v142 then l_Law_law_18 a0 a1 a2 (x3 + 4) h141 else some ([.int (ix_bi false)], h141), (ix_ai h a0 (x3 + 1)).bind fun v143 => (ix_M mRP_group [.ref a1, .int v143] h).bind fun r => ix_kI r fun v145 h144 => (ix_ai h144 a0 (x3 + 1)).bind fun v146 => (ix_M mMo_group [.ref a2, .int v146] h144).bind fun r => ix_kI r fun v148 h147 => if v145 = v148 then l_Law_law_18 a0 a1 a2 (x3 + 4) h147 else some ([.int (ix_bi false)], h147), (ix_ai h a0 (x3 + 1)).bind fun v149 => (ix_ai h a0 (x3 + 2)).bind fun v150 => (ix_M mRP_step [.ref a1, .int v149, .int v150] h).bind fun r => ix_kI r fun v152 h151 => (ix_ai h151 a0 (x3 + 1)).bind fun v153 => (ix_ai h151 a0 (x3 + 2)).bind fun v154 => (ix_M mMo_step [.ref a2, .int v153, .int v154] h151).bind fun r => ix_kI r fun v156 h155 => if v152 = v156 then l_Law_law_18 a0 a1 a2 (x3 + 4) h155 else some ([.int (ix_bi false)], h155), (ix_ai h a0 (x3 + 1)).bind fun v157 => (ix_M mRP_back [.ref a1, .int v157] h).bind fun r => ix_kI r fun v159 h158 => (ix_ai h158 a0 (x3 + 1)).bind fun v160 => (ix_M mMo_back [.ref a2, .int v160] h158).bind fun r => ix_kI r fun v162 h161 => if v159 = v162 then l_Law_law_18 a0 a1 a2 (x3 + 4) h161 else some ([.int (ix_bi false)], h161), (ix_ai h a0 (x3 + 1)).bind fun v163 => (ix_ai h a0 (x3 + 2)).bind fun v164 => (ix_M mRP_route [.ref a1, .int v163, .int v164] h).bind fun r => ix_kI r fun v166 h165 => (ix_ai h165 a0 (x3 + 1)).bind fun v167 => (ix_ai h165 a0 (x3 + 2)).bind fun v168 => (ix_M mMo_route [.ref a2, .int v167, .int v168] h165).bind fun r => ix_kI r fun v170 h169 => if v166 = v170 then l_Law_law_18 a0 a1 a2 (x3 + 4) h169 else some ([.int (ix_bi false)], h169), (ix_ai h a0 (x3 + 1)).bind fun v171 => (ix_ai h a0 (x3 + 2)).bind fun v172 => (ix_M mRP_about [.ref a1, .int v171, .int v172] h).bind fun r => ix_kI r fun v174 h173 => (ix_ai h173 a0 (x3 + 1)).bind fun v175 => (ix_ai h173 a0 (x3 + 2)).bind fun v176 => (ix_M mMo_about [.ref a2, .int v175, .int v176] h173).bind fun r => ix_kI r fun v178 h177 => if v174 = v178 then l_Law_law_18 a0 a1 a2 (x3 + 4) h177 else some ([.int (ix_bi false)], h177), (ix_ai h a0 (x3 + 1)).bind fun v179 => (ix_ai h a0 (x3 + 2)).bind fun v180 => (ix_M mRP_meeting [.ref a1, .int v179, .int v180] h).bind fun r => ix_kI r fun v182 h181 => (ix_ai h181 a0 (x3 + 1)).bind fun v183 => (ix_ai h181 a0 (x3 + 2)).bind fun v184 => (ix_M mMo_meeting [.ref a2, .int v183, .int v184] h181).bind fun r => ix_kI r fun v186 h185 => if v182 = v186 then l_Law_law_18 a0 a1 a2 (x3 + 4) h185 else some ([.int (ix_bi false)], h185), (ix_ai h a0 (x3 + 1)).bind fun v187 => (ix_ai h a0 (x3 + 2)).bind fun v188 => (ix_M mRP_exchange [.ref a1, .int v187, .int v188] h).bind fun r => ix_kI r fun v190 h189 => (ix_ai h189 a0 (x3 + 1)).bind fun v191 => (ix_ai h189 a0 (x3 + 2)).bind fun v192 => (ix_M mMo_exchange [.ref a2, .int v191, .int v192] h189).bind fun r => ix_kI r fun v194 h193 => if v190 = v194 then l_Law_law_18 a0 a1 a2 (x3 + 4) h193 else some ([.int (ix_bi false)], h193), (ix_ai h a0 (x3 + 1)).bind fun v195 => (ix_ai h a0 (x3 + 2)).bind fun v196 => (ix_M mRP_check [.ref a1, .int v195, .int v196] h).bind fun r => ix_kI r fun v198 h197 => (ix_ai h197 a0 (x3 + 1)).bind fun v199 => (ix_ai h197 a0 (x3 + 2)).bind fun v200 => (ix_M mMo_check [.ref a2, .int v199, .int v200] h197).bind fun r => ix_kI r fun v202 h201 => if v198 = v202 then l_Law_law_18 a0 a1 a2 (x3 + 4) h201 else some ([.int (ix_bi false)], h201), (ix_ai h a0 (x3 + 1)).bind fun v203 => (ix_M mRP_count [.ref a1, .int v203] h).bind fun r => ix_kI r fun v205 h204 => (ix_ai h204 a0 (x3 + 1)).bind fun v206 => (ix_M mMo_count [.ref a2, .int v206] h204).bind fun r => ix_kI r fun v208 h207 => if v205 = v208 then l_Law_law_18 a0 a1 a2 (x3 + 4) h207 else some ([.int (ix_bi false)], h207), (ix_ai h a0 (x3 + 1)).bind fun v209 => (ix_M mRP_save [.ref a1, .int v209] h).bind fun r => ix_kI r fun v211 h210 => (ix_ai h210 a0 (x3 + 1)).bind fun v212 => (ix_M mMo_save [.ref a2, .int v212] h210).bind fun r => ix_kI r fun v214 h213 => if v211 = v214 then l_Law_law_18 a0 a1 a2 (x3 + 4) h213 else some ([.int (ix_bi false)], h213), (ix_ai h a0 (x3 + 1)).bind fun v215 => (ix_M mRP_restore [.ref a1, .int v215] h).bind fun r => ix_kI r fun v217 h216 => (ix_ai h216 a0 (x3 + 1)).bind fun v218 => (ix_M mMo_restore [.ref a2, .int v218] h216).bind fun r => ix_kI r fun v220 h219 => if v217 = v220 then l_Law_law_18 a0 a1 a2 (x3 + 4) h219 else some ([.int (ix_bi false)], h219)] (l_Law_law_18 a0 a1 a2 (x3 + 4) h) := by
  unfold l_Law_law_18
  refine ix_K_px kq_Law_law i_Law_law_18 rfl rfl ?_
  refine ix_K_px kq_Law_law i_Law_law_19 rfl rfl ?_
  refine ix_K_an kq_Law_law i_Law_law_20 rfl (fun v1 => ?_)
  refine ix_K_ci kq_Law_law i_Law_law_21 rfl kci_4 ?_
  refine ix_K_px kq_Law_law i_Law_law_22 rfl rfl ?_
  refine ix_K_ic_gt (tgt := 1068) kq_Law_law i_Law_law_23 rfl (by decide) ?_ ?_
  · refine ix_K_ci kq_Law_law i_Law_law_1068 rfl kci_1 ?_
    exact ix_D_ret kq_Law_law i_Law_law_1069 (ix_rtZ rfl true)
  · refine ix_K_px kq_Law_law i_Law_law_26 rfl rfl ?_
    refine ix_K_px kq_Law_law i_Law_law_27 rfl rfl ?_
    refine ix_K_ai kq_Law_law i_Law_law_28 rfl (fun v2 => ?_)
    refine ix_K_cb kq_Law_law i_Law_law_29 rfl kcb_63 ?_
    refine ix_K_px kq_Law_law i_Law_law_31 rfl rfl ?_
    refine ix_K_tsw (tg := [180, 213, 246, 279, 312, 335, 368, 421, 434, 447, 460, 494, 527, 540, 554, 568, 601, 644, 657, 690, 713, 736, 749, 772, 805, 828, 861, 894, 927, 960, 993, 1016, 1039]) (dt := 1062) kq_Law_law i_Law_law_32 rfl (by decide) (by decide) (by decide) (by decide) (ix_lc ?_ (ix_lc ?_ (ix_lc ?_ (ix_lc ?_ (ix_lc ?_ (ix_lc ?_ (ix_lc ?_ (ix_lc ?_ (ix_lc ?_ (ix_lc ?_ (ix_lc ?_ (ix_lc ?_ (ix_lc ?_ (ix_lc ?_ (ix_lc ?_ (ix_lc ?_ (ix_lc ?_ (ix_lc ?_ (ix_lc ?_ (ix_lc ?_ (ix_lc ?_ (ix_lc ?_ (ix_lc ?_ (ix_lc ?_ (ix_lc ?_ (ix_lc ?_ (ix_lc ?_ (ix_lc ?_ (ix_lc ?_ (ix_lc ?_ (ix_lc ?_ (ix_lc ?_ (ix_lc ?_ rfl))))))))))))))))))))))))))))))))) ?_
    · refine ix_K_px kq_Law_law i_Law_law_180 rfl rfl ?_
      refine ix_K_px kq_Law_law i_Law_law_181 rfl rfl ?_
      refine ix_K_px kq_Law_law i_Law_law_182 rfl rfl ?_
      refine ix_K_ci kq_Law_law i_Law_law_183 rfl kci_1 ?_
      refine ix_K_px kq_Law_law i_Law_law_184 rfl rfl ?_
      refine ix_K_ai kq_Law_law i_Law_law_185 rfl (fun v3 => ?_)
      refine ix_K_px kq_Law_law i_Law_law_186 rfl rfl ?_
      refine ix_K_px kq_Law_law i_Law_law_187 rfl rfl ?_
      refine ix_K_ci kq_Law_law i_Law_law_188 rfl kci_2 ?_
      refine ix_K_px kq_Law_law i_Law_law_189 rfl rfl ?_
      refine ix_K_ai kq_Law_law i_Law_law_190 rfl (fun v4 => ?_)
      refine ix_K_callI (as := [.ref a1, .int v3, .int v4]) (rest := []) kq_Law_law i_Law_law_191 rfl kq_RP_setUp (by decide) rfl (Or.inl rfl) (fun v6 h5 => ?_)
      refine ix_K_px kq_Law_law i_Law_law_194 rfl rfl ?_
      refine ix_K_px kq_Law_law i_Law_law_195 rfl rfl ?_
      refine ix_K_px kq_Law_law i_Law_law_196 rfl rfl ?_
      refine ix_K_ci kq_Law_law i_Law_law_197 rfl kci_1 ?_
      refine ix_K_px kq_Law_law i_Law_law_198 rfl rfl ?_
      refine ix_K_ai kq_Law_law i_Law_law_199 rfl (fun v7 => ?_)
      refine ix_K_px kq_Law_law i_Law_law_200 rfl rfl ?_
      refine ix_K_px kq_Law_law i_Law_law_201 rfl rfl ?_
      refine ix_K_ci kq_Law_law i_Law_law_202 rfl kci_2 ?_
      refine ix_K_px kq_Law_law i_Law_law_203 rfl rfl ?_
      refine ix_K_ai kq_Law_law i_Law_law_204 rfl (fun v8 => ?_)
      refine ix_K_callI (as := [.ref a2, .int v7, .int v8]) (rest := [.int v6]) kq_Law_law i_Law_law_205 rfl kq_Mo_setUp (by decide) rfl (Or.inl rfl) (fun v10 h9 => ?_)
      refine ix_K_ic_eq (tgt := 1062) kq_Law_law i_Law_law_208 rfl (by decide) ?_ ?_
      · refine ix_K_inc (L2 := [some (.ref a0), some (.ref a1), some (.ref a2), some (.int (x3 + 4))]) kq_Law_law i_Law_law_1062 rfl rfl (Nat.le_of_ble_eq_true rfl) kci_4 rfl ?_
        refine ix_K_goto (tgt := 18) kq_Law_law i_Law_law_1065 rfl (by decide) ?_
        exact ix_D_cut i_Law_law_18 rfl
      · refine ix_K_ci kq_Law_law i_Law_law_211 rfl kci_0 ?_
        exact ix_D_ret kq_Law_law i_Law_law_212 (ix_rtZ rfl false)
    · refine ix_K_px kq_Law_law i_Law_law_213 rfl rfl ?_
      refine ix_K_px kq_Law_law i_Law_law_214 rfl rfl ?_
      refine ix_K_px kq_Law_law i_Law_law_215 rfl rfl ?_
      refine ix_K_ci kq_Law_law i_Law_law_216 rfl kci_1 ?_
      refine ix_K_px kq_Law_law i_Law_law_217 rfl rfl ?_
      refine ix_K_ai kq_Law_law i_Law_law_218 rfl (fun v11 => ?_)
      refine ix_K_px kq_Law_law i_Law_law_219 rfl rfl ?_
      refine ix_K_px kq_Law_law i_Law_law_220 rfl rfl ?_
      refine ix_K_ci kq_Law_law i_Law_law_221 rfl kci_2 ?_
      refine ix_K_px kq_Law_law i_Law_law_222 rfl rfl ?_
      refine ix_K_ai kq_Law_law i_Law_law_223 rfl (fun v12 => ?_)
      refine ix_K_callI (as := [.ref a1, .int v11, .int v12]) (rest := []) kq_Law_law i_Law_law_224 rfl kq_RP_wall (by decide) rfl (Or.inl rfl) (fun v14 h13 => ?_)
      refine ix_K_px kq_Law_law i_Law_law_227 rfl rfl ?_
      refine ix_K_px kq_Law_law i_Law_law_228 rfl rfl ?_
      refine ix_K_px kq_Law_law i_Law_law_229 rfl rfl ?_
      refine ix_K_ci kq_Law_law i_Law_law_230 rfl kci_1 ?_
      refine ix_K_px kq_Law_law i_Law_law_231 rfl rfl ?_
      refine ix_K_ai kq_Law_law i_Law_law_232 rfl (fun v15 => ?_)
      refine ix_K_px kq_Law_law i_Law_law_233 rfl rfl ?_
      refine ix_K_px kq_Law_law i_Law_law_234 rfl rfl ?_
      refine ix_K_ci kq_Law_law i_Law_law_235 rfl kci_2 ?_
      refine ix_K_px kq_Law_law i_Law_law_236 rfl rfl ?_
      refine ix_K_ai kq_Law_law i_Law_law_237 rfl (fun v16 => ?_)
      refine ix_K_callI (as := [.ref a2, .int v15, .int v16]) (rest := [.int v14]) kq_Law_law i_Law_law_238 rfl kq_Mo_wall (by decide) rfl (Or.inl rfl) (fun v18 h17 => ?_)
      refine ix_K_ic_eq (tgt := 1062) kq_Law_law i_Law_law_241 rfl (by decide) ?_ ?_
      · refine ix_K_inc (L2 := [some (.ref a0), some (.ref a1), some (.ref a2), some (.int (x3 + 4))]) kq_Law_law i_Law_law_1062 rfl rfl (Nat.le_of_ble_eq_true rfl) kci_4 rfl ?_
        refine ix_K_goto (tgt := 18) kq_Law_law i_Law_law_1065 rfl (by decide) ?_
        exact ix_D_cut i_Law_law_18 rfl
      · refine ix_K_ci kq_Law_law i_Law_law_244 rfl kci_0 ?_
        exact ix_D_ret kq_Law_law i_Law_law_245 (ix_rtZ rfl false)
    · refine ix_K_px kq_Law_law i_Law_law_246 rfl rfl ?_
      refine ix_K_px kq_Law_law i_Law_law_247 rfl rfl ?_
      refine ix_K_px kq_Law_law i_Law_law_248 rfl rfl ?_
      refine ix_K_ci kq_Law_law i_Law_law_249 rfl kci_1 ?_
      refine ix_K_px kq_Law_law i_Law_law_250 rfl rfl ?_
      refine ix_K_ai kq_Law_law i_Law_law_251 rfl (fun v19 => ?_)
      refine ix_K_px kq_Law_law i_Law_law_252 rfl rfl ?_
      refine ix_K_px kq_Law_law i_Law_law_253 rfl rfl ?_
      refine ix_K_ci kq_Law_law i_Law_law_254 rfl kci_2 ?_
      refine ix_K_px kq_Law_law i_Law_law_255 rfl rfl ?_
      refine ix_K_ai kq_Law_law i_Law_law_256 rfl (fun v20 => ?_)
      refine ix_K_callI (as := [.ref a1, .int v19, .int v20]) (rest := []) kq_Law_law i_Law_law_257 rfl kq_RP_role (by decide) rfl (Or.inl rfl) (fun v22 h21 => ?_)
      refine ix_K_px kq_Law_law i_Law_law_260 rfl rfl ?_
      refine ix_K_px kq_Law_law i_Law_law_261 rfl rfl ?_
      refine ix_K_px kq_Law_law i_Law_law_262 rfl rfl ?_
      refine ix_K_ci kq_Law_law i_Law_law_263 rfl kci_1 ?_
      refine ix_K_px kq_Law_law i_Law_law_264 rfl rfl ?_
      refine ix_K_ai kq_Law_law i_Law_law_265 rfl (fun v23 => ?_)
      refine ix_K_px kq_Law_law i_Law_law_266 rfl rfl ?_
      refine ix_K_px kq_Law_law i_Law_law_267 rfl rfl ?_
      refine ix_K_ci kq_Law_law i_Law_law_268 rfl kci_2 ?_
      refine ix_K_px kq_Law_law i_Law_law_269 rfl rfl ?_
      refine ix_K_ai kq_Law_law i_Law_law_270 rfl (fun v24 => ?_)
      refine ix_K_callI (as := [.ref a2, .int v23, .int v24]) (rest := [.int v22]) kq_Law_law i_Law_law_271 rfl kq_Mo_role (by decide) rfl (Or.inl rfl) (fun v26 h25 => ?_)
      refine ix_K_ic_eq (tgt := 1062) kq_Law_law i_Law_law_274 rfl (by decide) ?_ ?_
      · refine ix_K_inc (L2 := [some (.ref a0), some (.ref a1), some (.ref a2), some (.int (x3 + 4))]) kq_Law_law i_Law_law_1062 rfl rfl (Nat.le_of_ble_eq_true rfl) kci_4 rfl ?_
        refine ix_K_goto (tgt := 18) kq_Law_law i_Law_law_1065 rfl (by decide) ?_
        exact ix_D_cut i_Law_law_18 rfl
      · refine ix_K_ci kq_Law_law i_Law_law_277 rfl kci_0 ?_
        exact ix_D_ret kq_Law_law i_Law_law_278 (ix_rtZ rfl false)
    · refine ix_K_px kq_Law_law i_Law_law_279 rfl rfl ?_
      refine ix_K_px kq_Law_law i_Law_law_280 rfl rfl ?_
      refine ix_K_px kq_Law_law i_Law_law_281 rfl rfl ?_
      refine ix_K_ci kq_Law_law i_Law_law_282 rfl kci_1 ?_
      refine ix_K_px kq_Law_law i_Law_law_283 rfl rfl ?_
      refine ix_K_ai kq_Law_law i_Law_law_284 rfl (fun v27 => ?_)
      refine ix_K_px kq_Law_law i_Law_law_285 rfl rfl ?_
      refine ix_K_px kq_Law_law i_Law_law_286 rfl rfl ?_
      refine ix_K_ci kq_Law_law i_Law_law_287 rfl kci_2 ?_
      refine ix_K_px kq_Law_law i_Law_law_288 rfl rfl ?_
      refine ix_K_ai kq_Law_law i_Law_law_289 rfl (fun v28 => ?_)
      refine ix_K_callI (as := [.ref a1, .int v27, .int v28]) (rest := []) kq_Law_law i_Law_law_290 rfl kq_RP_wire (by decide) rfl (Or.inl rfl) (fun v30 h29 => ?_)
      refine ix_K_px kq_Law_law i_Law_law_293 rfl rfl ?_
      refine ix_K_px kq_Law_law i_Law_law_294 rfl rfl ?_
      refine ix_K_px kq_Law_law i_Law_law_295 rfl rfl ?_
      refine ix_K_ci kq_Law_law i_Law_law_296 rfl kci_1 ?_
      refine ix_K_px kq_Law_law i_Law_law_297 rfl rfl ?_
      refine ix_K_ai kq_Law_law i_Law_law_298 rfl (fun v31 => ?_)
      refine ix_K_px kq_Law_law i_Law_law_299 rfl rfl ?_
      refine ix_K_px kq_Law_law i_Law_law_300 rfl rfl ?_
      refine ix_K_ci kq_Law_law i_Law_law_301 rfl kci_2 ?_
      refine ix_K_px kq_Law_law i_Law_law_302 rfl rfl ?_
      refine ix_K_ai kq_Law_law i_Law_law_303 rfl (fun v32 => ?_)
      refine ix_K_callI (as := [.ref a2, .int v31, .int v32]) (rest := [.int v30]) kq_Law_law i_Law_law_304 rfl kq_Mo_wire (by decide) rfl (Or.inl rfl) (fun v34 h33 => ?_)
      refine ix_K_ic_eq (tgt := 1062) kq_Law_law i_Law_law_307 rfl (by decide) ?_ ?_
      · refine ix_K_inc (L2 := [some (.ref a0), some (.ref a1), some (.ref a2), some (.int (x3 + 4))]) kq_Law_law i_Law_law_1062 rfl rfl (Nat.le_of_ble_eq_true rfl) kci_4 rfl ?_
        refine ix_K_goto (tgt := 18) kq_Law_law i_Law_law_1065 rfl (by decide) ?_
        exact ix_D_cut i_Law_law_18 rfl
      · refine ix_K_ci kq_Law_law i_Law_law_310 rfl kci_0 ?_
        exact ix_D_ret kq_Law_law i_Law_law_311 (ix_rtZ rfl false)
    · refine ix_K_px kq_Law_law i_Law_law_312 rfl rfl ?_
      refine ix_K_px kq_Law_law i_Law_law_313 rfl rfl ?_
      refine ix_K_px kq_Law_law i_Law_law_314 rfl rfl ?_
      refine ix_K_ci kq_Law_law i_Law_law_315 rfl kci_1 ?_
      refine ix_K_px kq_Law_law i_Law_law_316 rfl rfl ?_
      refine ix_K_ai kq_Law_law i_Law_law_317 rfl (fun v35 => ?_)
      refine ix_K_callI (as := [.ref a1, .int v35]) (rest := []) kq_Law_law i_Law_law_318 rfl kq_RP_turn (by decide) rfl (Or.inl rfl) (fun v37 h36 => ?_)
      refine ix_K_px kq_Law_law i_Law_law_321 rfl rfl ?_
      refine ix_K_px kq_Law_law i_Law_law_322 rfl rfl ?_
      refine ix_K_px kq_Law_law i_Law_law_323 rfl rfl ?_
      refine ix_K_ci kq_Law_law i_Law_law_324 rfl kci_1 ?_
      refine ix_K_px kq_Law_law i_Law_law_325 rfl rfl ?_
      refine ix_K_ai kq_Law_law i_Law_law_326 rfl (fun v38 => ?_)
      refine ix_K_callI (as := [.ref a2, .int v38]) (rest := [.int v37]) kq_Law_law i_Law_law_327 rfl kq_Mo_turn (by decide) rfl (Or.inl rfl) (fun v40 h39 => ?_)
      refine ix_K_ic_eq (tgt := 1062) kq_Law_law i_Law_law_330 rfl (by decide) ?_ ?_
      · refine ix_K_inc (L2 := [some (.ref a0), some (.ref a1), some (.ref a2), some (.int (x3 + 4))]) kq_Law_law i_Law_law_1062 rfl rfl (Nat.le_of_ble_eq_true rfl) kci_4 rfl ?_
        refine ix_K_goto (tgt := 18) kq_Law_law i_Law_law_1065 rfl (by decide) ?_
        exact ix_D_cut i_Law_law_18 rfl
      · refine ix_K_ci kq_Law_law i_Law_law_333 rfl kci_0 ?_
        exact ix_D_ret kq_Law_law i_Law_law_334 (ix_rtZ rfl false)
    · refine ix_K_px kq_Law_law i_Law_law_335 rfl rfl ?_
      refine ix_K_px kq_Law_law i_Law_law_336 rfl rfl ?_
      refine ix_K_px kq_Law_law i_Law_law_337 rfl rfl ?_
      refine ix_K_ci kq_Law_law i_Law_law_338 rfl kci_1 ?_
      refine ix_K_px kq_Law_law i_Law_law_339 rfl rfl ?_
      refine ix_K_ai kq_Law_law i_Law_law_340 rfl (fun v41 => ?_)
      refine ix_K_px kq_Law_law i_Law_law_341 rfl rfl ?_
      refine ix_K_px kq_Law_law i_Law_law_342 rfl rfl ?_
      refine ix_K_ci kq_Law_law i_Law_law_343 rfl kci_2 ?_
      refine ix_K_px kq_Law_law i_Law_law_344 rfl rfl ?_
      refine ix_K_ai kq_Law_law i_Law_law_345 rfl (fun v42 => ?_)
      refine ix_K_callI (as := [.ref a1, .int v41, .int v42]) (rest := []) kq_Law_law i_Law_law_346 rfl kq_RP_cell (by decide) rfl (Or.inl rfl) (fun v44 h43 => ?_)
      refine ix_K_px kq_Law_law i_Law_law_349 rfl rfl ?_
      refine ix_K_px kq_Law_law i_Law_law_350 rfl rfl ?_
      refine ix_K_px kq_Law_law i_Law_law_351 rfl rfl ?_
      refine ix_K_ci kq_Law_law i_Law_law_352 rfl kci_1 ?_
      refine ix_K_px kq_Law_law i_Law_law_353 rfl rfl ?_
      refine ix_K_ai kq_Law_law i_Law_law_354 rfl (fun v45 => ?_)
      refine ix_K_px kq_Law_law i_Law_law_355 rfl rfl ?_
      refine ix_K_px kq_Law_law i_Law_law_356 rfl rfl ?_
      refine ix_K_ci kq_Law_law i_Law_law_357 rfl kci_2 ?_
      refine ix_K_px kq_Law_law i_Law_law_358 rfl rfl ?_
      refine ix_K_ai kq_Law_law i_Law_law_359 rfl (fun v46 => ?_)
      refine ix_K_callI (as := [.ref a2, .int v45, .int v46]) (rest := [.int v44]) kq_Law_law i_Law_law_360 rfl kq_Mo_cell (by decide) rfl (Or.inl rfl) (fun v48 h47 => ?_)
      refine ix_K_ic_eq (tgt := 1062) kq_Law_law i_Law_law_363 rfl (by decide) ?_ ?_
      · refine ix_K_inc (L2 := [some (.ref a0), some (.ref a1), some (.ref a2), some (.int (x3 + 4))]) kq_Law_law i_Law_law_1062 rfl rfl (Nat.le_of_ble_eq_true rfl) kci_4 rfl ?_
        refine ix_K_goto (tgt := 18) kq_Law_law i_Law_law_1065 rfl (by decide) ?_
        exact ix_D_cut i_Law_law_18 rfl
      · refine ix_K_ci kq_Law_law i_Law_law_366 rfl kci_0 ?_
        exact ix_D_ret kq_Law_law i_Law_law_367 (ix_rtZ rfl false)
    · refine ix_K_px kq_Law_law i_Law_law_368 rfl rfl ?_
      refine ix_K_px kq_Law_law i_Law_law_369 rfl rfl ?_
      refine ix_K_px kq_Law_law i_Law_law_370 rfl rfl ?_
      refine ix_K_ci kq_Law_law i_Law_law_371 rfl kci_1 ?_
      refine ix_K_px kq_Law_law i_Law_law_372 rfl rfl ?_
      refine ix_K_ai kq_Law_law i_Law_law_373 rfl (fun v49 => ?_)
      refine ix_K_px kq_Law_law i_Law_law_374 rfl rfl ?_
      refine ix_K_cb kq_Law_law i_Law_law_375 rfl kcb_32 ?_
      refine ix_K_px kq_Law_law i_Law_law_377 rfl rfl ?_
      refine ix_K_px kq_Law_law i_Law_law_378 rfl rfl ?_
      refine ix_K_px kq_Law_law i_Law_law_379 rfl rfl ?_
      refine ix_K_ci kq_Law_law i_Law_law_380 rfl kci_2 ?_
      refine ix_K_px kq_Law_law i_Law_law_381 rfl rfl ?_
      refine ix_K_ai kq_Law_law i_Law_law_382 rfl (fun v50 => ?_)
      refine ix_K_px kq_Law_law i_Law_law_383 rfl rfl ?_
      refine ix_K_c2 kq_Law_law i_Law_law_384 rfl kc2_4294967295 ?_
      refine ix_K_px kq_Law_law i_Law_law_387 rfl rfl ?_
      refine ix_K_px kq_Law_law i_Law_law_388 rfl rfl ?_
      refine ix_K_callI (as := [.ref a1, .long ((ix_shl (Int32.toInt64 v49) 32) ||| ((Int32.toInt64 v50) &&& 4294967295))]) (rest := []) kq_Law_law i_Law_law_389 rfl kq_RP_put (by decide) rfl (Or.inl rfl) (fun v52 h51 => ?_)
      refine ix_K_px kq_Law_law i_Law_law_392 rfl rfl ?_
      refine ix_K_px kq_Law_law i_Law_law_393 rfl rfl ?_
      refine ix_K_px kq_Law_law i_Law_law_394 rfl rfl ?_
      refine ix_K_ci kq_Law_law i_Law_law_395 rfl kci_1 ?_
      refine ix_K_px kq_Law_law i_Law_law_396 rfl rfl ?_
      refine ix_K_ai kq_Law_law i_Law_law_397 rfl (fun v53 => ?_)
      refine ix_K_px kq_Law_law i_Law_law_398 rfl rfl ?_
      refine ix_K_cb kq_Law_law i_Law_law_399 rfl kcb_32 ?_
      refine ix_K_px kq_Law_law i_Law_law_401 rfl rfl ?_
      refine ix_K_px kq_Law_law i_Law_law_402 rfl rfl ?_
      refine ix_K_px kq_Law_law i_Law_law_403 rfl rfl ?_
      refine ix_K_ci kq_Law_law i_Law_law_404 rfl kci_2 ?_
      refine ix_K_px kq_Law_law i_Law_law_405 rfl rfl ?_
      refine ix_K_ai kq_Law_law i_Law_law_406 rfl (fun v54 => ?_)
      refine ix_K_px kq_Law_law i_Law_law_407 rfl rfl ?_
      refine ix_K_c2 kq_Law_law i_Law_law_408 rfl kc2_4294967295 ?_
      refine ix_K_px kq_Law_law i_Law_law_411 rfl rfl ?_
      refine ix_K_px kq_Law_law i_Law_law_412 rfl rfl ?_
      refine ix_K_callI (as := [.ref a2, .long ((ix_shl (Int32.toInt64 v53) 32) ||| ((Int32.toInt64 v54) &&& 4294967295))]) (rest := [.int v52]) kq_Law_law i_Law_law_413 rfl kq_Mo_put (by decide) rfl (Or.inl rfl) (fun v56 h55 => ?_)
      refine ix_K_ic_eq (tgt := 1062) kq_Law_law i_Law_law_416 rfl (by decide) ?_ ?_
      · refine ix_K_inc (L2 := [some (.ref a0), some (.ref a1), some (.ref a2), some (.int (x3 + 4))]) kq_Law_law i_Law_law_1062 rfl rfl (Nat.le_of_ble_eq_true rfl) kci_4 rfl ?_
        refine ix_K_goto (tgt := 18) kq_Law_law i_Law_law_1065 rfl (by decide) ?_
        exact ix_D_cut i_Law_law_18 rfl
      · refine ix_K_ci kq_Law_law i_Law_law_419 rfl kci_0 ?_
        exact ix_D_ret kq_Law_law i_Law_law_420 (ix_rtZ rfl false)
    · refine ix_K_px kq_Law_law i_Law_law_421 rfl rfl ?_
      refine ix_K_callI (as := [.ref a1]) (rest := []) kq_Law_law i_Law_law_422 rfl kq_RP_wipe (by decide) rfl (Or.inl rfl) (fun v58 h57 => ?_)
      refine ix_K_px kq_Law_law i_Law_law_425 rfl rfl ?_
      refine ix_K_callI (as := [.ref a2]) (rest := [.int v58]) kq_Law_law i_Law_law_426 rfl kq_Mo_wipe (by decide) rfl (Or.inl rfl) (fun v60 h59 => ?_)
      refine ix_K_ic_eq (tgt := 1062) kq_Law_law i_Law_law_429 rfl (by decide) ?_ ?_
      · refine ix_K_inc (L2 := [some (.ref a0), some (.ref a1), some (.ref a2), some (.int (x3 + 4))]) kq_Law_law i_Law_law_1062 rfl rfl (Nat.le_of_ble_eq_true rfl) kci_4 rfl ?_
        refine ix_K_goto (tgt := 18) kq_Law_law i_Law_law_1065 rfl (by decide) ?_
        exact ix_D_cut i_Law_law_18 rfl
      · refine ix_K_ci kq_Law_law i_Law_law_432 rfl kci_0 ?_
        exact ix_D_ret kq_Law_law i_Law_law_433 (ix_rtZ rfl false)
    · refine ix_K_px kq_Law_law i_Law_law_434 rfl rfl ?_
      refine ix_K_callI (as := [.ref a1]) (rest := []) kq_Law_law i_Law_law_435 rfl kq_RP_fault (by decide) rfl (Or.inl rfl) (fun v62 h61 => ?_)
      refine ix_K_px kq_Law_law i_Law_law_438 rfl rfl ?_
      refine ix_K_callI (as := [.ref a2]) (rest := [.int v62]) kq_Law_law i_Law_law_439 rfl kq_Mo_fault (by decide) rfl (Or.inl rfl) (fun v64 h63 => ?_)
      refine ix_K_ic_eq (tgt := 1062) kq_Law_law i_Law_law_442 rfl (by decide) ?_ ?_
      · refine ix_K_inc (L2 := [some (.ref a0), some (.ref a1), some (.ref a2), some (.int (x3 + 4))]) kq_Law_law i_Law_law_1062 rfl rfl (Nat.le_of_ble_eq_true rfl) kci_4 rfl ?_
        refine ix_K_goto (tgt := 18) kq_Law_law i_Law_law_1065 rfl (by decide) ?_
        exact ix_D_cut i_Law_law_18 rfl
      · refine ix_K_ci kq_Law_law i_Law_law_445 rfl kci_0 ?_
        exact ix_D_ret kq_Law_law i_Law_law_446 (ix_rtZ rfl false)
    · refine ix_K_px kq_Law_law i_Law_law_447 rfl rfl ?_
      refine ix_K_callI (as := [.ref a1]) (rest := []) kq_Law_law i_Law_law_448 rfl kq_RP_load (by decide) rfl (Or.inl rfl) (fun v66 h65 => ?_)
      refine ix_K_px kq_Law_law i_Law_law_451 rfl rfl ?_
      refine ix_K_callI (as := [.ref a2]) (rest := [.int v66]) kq_Law_law i_Law_law_452 rfl kq_Mo_load (by decide) rfl (Or.inl rfl) (fun v68 h67 => ?_)
      refine ix_K_ic_eq (tgt := 1062) kq_Law_law i_Law_law_455 rfl (by decide) ?_ ?_
      · refine ix_K_inc (L2 := [some (.ref a0), some (.ref a1), some (.ref a2), some (.int (x3 + 4))]) kq_Law_law i_Law_law_1062 rfl rfl (Nat.le_of_ble_eq_true rfl) kci_4 rfl ?_
        refine ix_K_goto (tgt := 18) kq_Law_law i_Law_law_1065 rfl (by decide) ?_
        exact ix_D_cut i_Law_law_18 rfl
      · refine ix_K_ci kq_Law_law i_Law_law_458 rfl kci_0 ?_
        exact ix_D_ret kq_Law_law i_Law_law_459 (ix_rtZ rfl false)
    · refine ix_K_px kq_Law_law i_Law_law_460 rfl rfl ?_
      refine ix_K_px kq_Law_law i_Law_law_461 rfl rfl ?_
      refine ix_K_px kq_Law_law i_Law_law_462 rfl rfl ?_
      refine ix_K_ci kq_Law_law i_Law_law_463 rfl kci_1 ?_
      refine ix_K_px kq_Law_law i_Law_law_464 rfl rfl ?_
      refine ix_K_ai kq_Law_law i_Law_law_465 rfl (fun v69 => ?_)
      refine ix_K_px kq_Law_law i_Law_law_466 rfl rfl ?_
      refine ix_K_px kq_Law_law i_Law_law_467 rfl rfl ?_
      refine ix_K_ci kq_Law_law i_Law_law_468 rfl kci_2 ?_
      refine ix_K_px kq_Law_law i_Law_law_469 rfl rfl ?_
      refine ix_K_ai kq_Law_law i_Law_law_470 rfl (fun v70 => ?_)
      refine ix_K_callL (as := [.ref a1, .int v69, .int v70]) (rest := []) kq_Law_law i_Law_law_471 rfl kq_RP_falling (by decide) rfl rfl (fun v72 h71 => ?_)
      refine ix_K_px kq_Law_law i_Law_law_474 rfl rfl ?_
      refine ix_K_px kq_Law_law i_Law_law_475 rfl rfl ?_
      refine ix_K_px kq_Law_law i_Law_law_476 rfl rfl ?_
      refine ix_K_ci kq_Law_law i_Law_law_477 rfl kci_1 ?_
      refine ix_K_px kq_Law_law i_Law_law_478 rfl rfl ?_
      refine ix_K_ai kq_Law_law i_Law_law_479 rfl (fun v73 => ?_)
      refine ix_K_px kq_Law_law i_Law_law_480 rfl rfl ?_
      refine ix_K_px kq_Law_law i_Law_law_481 rfl rfl ?_
      refine ix_K_ci kq_Law_law i_Law_law_482 rfl kci_2 ?_
      refine ix_K_px kq_Law_law i_Law_law_483 rfl rfl ?_
      refine ix_K_ai kq_Law_law i_Law_law_484 rfl (fun v74 => ?_)
      refine ix_K_callL (as := [.ref a2, .int v73, .int v74]) (rest := [.long v72]) kq_Law_law i_Law_law_485 rfl kq_Mo_falling (by decide) rfl rfl (fun v76 h75 => ?_)
      refine ix_K_px kq_Law_law i_Law_law_488 rfl rfl ?_
      refine ix_K_lc_eq (tgt := 1062) kq_Law_law i_Law_law_489 rfl (by decide) ?_ ?_
      · refine ix_K_inc (L2 := [some (.ref a0), some (.ref a1), some (.ref a2), some (.int (x3 + 4))]) kq_Law_law i_Law_law_1062 rfl rfl (Nat.le_of_ble_eq_true rfl) kci_4 rfl ?_
        refine ix_K_goto (tgt := 18) kq_Law_law i_Law_law_1065 rfl (by decide) ?_
        exact ix_D_cut i_Law_law_18 rfl
      · refine ix_K_ci kq_Law_law i_Law_law_492 rfl kci_0 ?_
        exact ix_D_ret kq_Law_law i_Law_law_493 (ix_rtZ rfl false)
    · refine ix_K_px kq_Law_law i_Law_law_494 rfl rfl ?_
      refine ix_K_px kq_Law_law i_Law_law_495 rfl rfl ?_
      refine ix_K_px kq_Law_law i_Law_law_496 rfl rfl ?_
      refine ix_K_ci kq_Law_law i_Law_law_497 rfl kci_1 ?_
      refine ix_K_px kq_Law_law i_Law_law_498 rfl rfl ?_
      refine ix_K_ai kq_Law_law i_Law_law_499 rfl (fun v77 => ?_)
      refine ix_K_px kq_Law_law i_Law_law_500 rfl rfl ?_
      refine ix_K_px kq_Law_law i_Law_law_501 rfl rfl ?_
      refine ix_K_ci kq_Law_law i_Law_law_502 rfl kci_2 ?_
      refine ix_K_px kq_Law_law i_Law_law_503 rfl rfl ?_
      refine ix_K_ai kq_Law_law i_Law_law_504 rfl (fun v78 => ?_)
      refine ix_K_callI (as := [.ref a1, .int v77, .int v78]) (rest := []) kq_Law_law i_Law_law_505 rfl kq_RP_pair (by decide) rfl (Or.inl rfl) (fun v80 h79 => ?_)
      refine ix_K_px kq_Law_law i_Law_law_508 rfl rfl ?_
      refine ix_K_px kq_Law_law i_Law_law_509 rfl rfl ?_
      refine ix_K_px kq_Law_law i_Law_law_510 rfl rfl ?_
      refine ix_K_ci kq_Law_law i_Law_law_511 rfl kci_1 ?_
      refine ix_K_px kq_Law_law i_Law_law_512 rfl rfl ?_
      refine ix_K_ai kq_Law_law i_Law_law_513 rfl (fun v81 => ?_)
      refine ix_K_px kq_Law_law i_Law_law_514 rfl rfl ?_
      refine ix_K_px kq_Law_law i_Law_law_515 rfl rfl ?_
      refine ix_K_ci kq_Law_law i_Law_law_516 rfl kci_2 ?_
      refine ix_K_px kq_Law_law i_Law_law_517 rfl rfl ?_
      refine ix_K_ai kq_Law_law i_Law_law_518 rfl (fun v82 => ?_)
      refine ix_K_callI (as := [.ref a2, .int v81, .int v82]) (rest := [.int v80]) kq_Law_law i_Law_law_519 rfl kq_Mo_pair (by decide) rfl (Or.inl rfl) (fun v84 h83 => ?_)
      refine ix_K_ic_eq (tgt := 1062) kq_Law_law i_Law_law_522 rfl (by decide) ?_ ?_
      · refine ix_K_inc (L2 := [some (.ref a0), some (.ref a1), some (.ref a2), some (.int (x3 + 4))]) kq_Law_law i_Law_law_1062 rfl rfl (Nat.le_of_ble_eq_true rfl) kci_4 rfl ?_
        refine ix_K_goto (tgt := 18) kq_Law_law i_Law_law_1065 rfl (by decide) ?_
        exact ix_D_cut i_Law_law_18 rfl
      · refine ix_K_ci kq_Law_law i_Law_law_525 rfl kci_0 ?_
        exact ix_D_ret kq_Law_law i_Law_law_526 (ix_rtZ rfl false)
    · refine ix_K_px kq_Law_law i_Law_law_527 rfl rfl ?_
      refine ix_K_callI (as := [.ref a1]) (rest := []) kq_Law_law i_Law_law_528 rfl kq_RP_unpair (by decide) rfl (Or.inl rfl) (fun v86 h85 => ?_)
      refine ix_K_px kq_Law_law i_Law_law_531 rfl rfl ?_
      refine ix_K_callI (as := [.ref a2]) (rest := [.int v86]) kq_Law_law i_Law_law_532 rfl kq_Mo_unpair (by decide) rfl (Or.inl rfl) (fun v88 h87 => ?_)
      refine ix_K_ic_eq (tgt := 1062) kq_Law_law i_Law_law_535 rfl (by decide) ?_ ?_
      · refine ix_K_inc (L2 := [some (.ref a0), some (.ref a1), some (.ref a2), some (.int (x3 + 4))]) kq_Law_law i_Law_law_1062 rfl rfl (Nat.le_of_ble_eq_true rfl) kci_4 rfl ?_
        refine ix_K_goto (tgt := 18) kq_Law_law i_Law_law_1065 rfl (by decide) ?_
        exact ix_D_cut i_Law_law_18 rfl
      · refine ix_K_ci kq_Law_law i_Law_law_538 rfl kci_0 ?_
        exact ix_D_ret kq_Law_law i_Law_law_539 (ix_rtZ rfl false)
    · refine ix_K_px kq_Law_law i_Law_law_540 rfl rfl ?_
      refine ix_K_callL (as := [.ref a1]) (rest := []) kq_Law_law i_Law_law_541 rfl kq_RP_tuples (by decide) rfl rfl (fun v90 h89 => ?_)
      refine ix_K_px kq_Law_law i_Law_law_544 rfl rfl ?_
      refine ix_K_callL (as := [.ref a2]) (rest := [.long v90]) kq_Law_law i_Law_law_545 rfl kq_Mo_tuples (by decide) rfl rfl (fun v92 h91 => ?_)
      refine ix_K_px kq_Law_law i_Law_law_548 rfl rfl ?_
      refine ix_K_lc_eq (tgt := 1062) kq_Law_law i_Law_law_549 rfl (by decide) ?_ ?_
      · refine ix_K_inc (L2 := [some (.ref a0), some (.ref a1), some (.ref a2), some (.int (x3 + 4))]) kq_Law_law i_Law_law_1062 rfl rfl (Nat.le_of_ble_eq_true rfl) kci_4 rfl ?_
        refine ix_K_goto (tgt := 18) kq_Law_law i_Law_law_1065 rfl (by decide) ?_
        exact ix_D_cut i_Law_law_18 rfl
      · refine ix_K_ci kq_Law_law i_Law_law_552 rfl kci_0 ?_
        exact ix_D_ret kq_Law_law i_Law_law_553 (ix_rtZ rfl false)
    · refine ix_K_px kq_Law_law i_Law_law_554 rfl rfl ?_
      refine ix_K_callL (as := [.ref a1]) (rest := []) kq_Law_law i_Law_law_555 rfl kq_RP_determinant (by decide) rfl rfl (fun v94 h93 => ?_)
      refine ix_K_px kq_Law_law i_Law_law_558 rfl rfl ?_
      refine ix_K_callL (as := [.ref a2]) (rest := [.long v94]) kq_Law_law i_Law_law_559 rfl kq_Mo_determinant (by decide) rfl rfl (fun v96 h95 => ?_)
      refine ix_K_px kq_Law_law i_Law_law_562 rfl rfl ?_
      refine ix_K_lc_eq (tgt := 1062) kq_Law_law i_Law_law_563 rfl (by decide) ?_ ?_
      · refine ix_K_inc (L2 := [some (.ref a0), some (.ref a1), some (.ref a2), some (.int (x3 + 4))]) kq_Law_law i_Law_law_1062 rfl rfl (Nat.le_of_ble_eq_true rfl) kci_4 rfl ?_
        refine ix_K_goto (tgt := 18) kq_Law_law i_Law_law_1065 rfl (by decide) ?_
        exact ix_D_cut i_Law_law_18 rfl
      · refine ix_K_ci kq_Law_law i_Law_law_566 rfl kci_0 ?_
        exact ix_D_ret kq_Law_law i_Law_law_567 (ix_rtZ rfl false)
    · refine ix_K_px kq_Law_law i_Law_law_568 rfl rfl ?_
      refine ix_K_px kq_Law_law i_Law_law_569 rfl rfl ?_
      refine ix_K_px kq_Law_law i_Law_law_570 rfl rfl ?_
      refine ix_K_ci kq_Law_law i_Law_law_571 rfl kci_1 ?_
      refine ix_K_px kq_Law_law i_Law_law_572 rfl rfl ?_
      refine ix_K_ai kq_Law_law i_Law_law_573 rfl (fun v97 => ?_)
      refine ix_K_px kq_Law_law i_Law_law_574 rfl rfl ?_
      refine ix_K_px kq_Law_law i_Law_law_575 rfl rfl ?_
      refine ix_K_ci kq_Law_law i_Law_law_576 rfl kci_2 ?_
      refine ix_K_px kq_Law_law i_Law_law_577 rfl rfl ?_
      refine ix_K_ai kq_Law_law i_Law_law_578 rfl (fun v98 => ?_)
      refine ix_K_callI (as := [.ref a1, .int v97, .int v98]) (rest := []) kq_Law_law i_Law_law_579 rfl kq_RP_steps (by decide) rfl (Or.inl rfl) (fun v100 h99 => ?_)
      refine ix_K_px kq_Law_law i_Law_law_582 rfl rfl ?_
      refine ix_K_px kq_Law_law i_Law_law_583 rfl rfl ?_
      refine ix_K_px kq_Law_law i_Law_law_584 rfl rfl ?_
      refine ix_K_ci kq_Law_law i_Law_law_585 rfl kci_1 ?_
      refine ix_K_px kq_Law_law i_Law_law_586 rfl rfl ?_
      refine ix_K_ai kq_Law_law i_Law_law_587 rfl (fun v101 => ?_)
      refine ix_K_px kq_Law_law i_Law_law_588 rfl rfl ?_
      refine ix_K_px kq_Law_law i_Law_law_589 rfl rfl ?_
      refine ix_K_ci kq_Law_law i_Law_law_590 rfl kci_2 ?_
      refine ix_K_px kq_Law_law i_Law_law_591 rfl rfl ?_
      refine ix_K_ai kq_Law_law i_Law_law_592 rfl (fun v102 => ?_)
      refine ix_K_callI (as := [.ref a2, .int v101, .int v102]) (rest := [.int v100]) kq_Law_law i_Law_law_593 rfl kq_Mo_steps (by decide) rfl (Or.inl rfl) (fun v104 h103 => ?_)
      refine ix_K_ic_eq (tgt := 1062) kq_Law_law i_Law_law_596 rfl (by decide) ?_ ?_
      · refine ix_K_inc (L2 := [some (.ref a0), some (.ref a1), some (.ref a2), some (.int (x3 + 4))]) kq_Law_law i_Law_law_1062 rfl rfl (Nat.le_of_ble_eq_true rfl) kci_4 rfl ?_
        refine ix_K_goto (tgt := 18) kq_Law_law i_Law_law_1065 rfl (by decide) ?_
        exact ix_D_cut i_Law_law_18 rfl
      · refine ix_K_ci kq_Law_law i_Law_law_599 rfl kci_0 ?_
        exact ix_D_ret kq_Law_law i_Law_law_600 (ix_rtZ rfl false)
    · refine ix_K_px kq_Law_law i_Law_law_601 rfl rfl ?_
      refine ix_K_px kq_Law_law i_Law_law_602 rfl rfl ?_
      refine ix_K_px kq_Law_law i_Law_law_603 rfl rfl ?_
      refine ix_K_ci kq_Law_law i_Law_law_604 rfl kci_1 ?_
      refine ix_K_px kq_Law_law i_Law_law_605 rfl rfl ?_
      refine ix_K_ai kq_Law_law i_Law_law_606 rfl (fun v105 => ?_)
      refine ix_K_px kq_Law_law i_Law_law_607 rfl rfl ?_
      refine ix_K_px kq_Law_law i_Law_law_608 rfl rfl ?_
      refine ix_K_ci kq_Law_law i_Law_law_609 rfl kci_2 ?_
      refine ix_K_px kq_Law_law i_Law_law_610 rfl rfl ?_
      refine ix_K_ai kq_Law_law i_Law_law_611 rfl (fun v106 => ?_)
      refine ix_K_px kq_Law_law i_Law_law_612 rfl rfl ?_
      refine ix_K_px kq_Law_law i_Law_law_613 rfl rfl ?_
      refine ix_K_ci kq_Law_law i_Law_law_614 rfl kci_3 ?_
      refine ix_K_px kq_Law_law i_Law_law_615 rfl rfl ?_
      refine ix_K_ai kq_Law_law i_Law_law_616 rfl (fun v107 => ?_)
      refine ix_K_callI (as := [.ref a1, .int v105, .int v106, .int v107]) (rest := []) kq_Law_law i_Law_law_617 rfl kq_RP_shortest (by decide) rfl (Or.inl rfl) (fun v109 h108 => ?_)
      refine ix_K_px kq_Law_law i_Law_law_620 rfl rfl ?_
      refine ix_K_px kq_Law_law i_Law_law_621 rfl rfl ?_
      refine ix_K_px kq_Law_law i_Law_law_622 rfl rfl ?_
      refine ix_K_ci kq_Law_law i_Law_law_623 rfl kci_1 ?_
      refine ix_K_px kq_Law_law i_Law_law_624 rfl rfl ?_
      refine ix_K_ai kq_Law_law i_Law_law_625 rfl (fun v110 => ?_)
      refine ix_K_px kq_Law_law i_Law_law_626 rfl rfl ?_
      refine ix_K_px kq_Law_law i_Law_law_627 rfl rfl ?_
      refine ix_K_ci kq_Law_law i_Law_law_628 rfl kci_2 ?_
      refine ix_K_px kq_Law_law i_Law_law_629 rfl rfl ?_
      refine ix_K_ai kq_Law_law i_Law_law_630 rfl (fun v111 => ?_)
      refine ix_K_px kq_Law_law i_Law_law_631 rfl rfl ?_
      refine ix_K_px kq_Law_law i_Law_law_632 rfl rfl ?_
      refine ix_K_ci kq_Law_law i_Law_law_633 rfl kci_3 ?_
      refine ix_K_px kq_Law_law i_Law_law_634 rfl rfl ?_
      refine ix_K_ai kq_Law_law i_Law_law_635 rfl (fun v112 => ?_)
      refine ix_K_callI (as := [.ref a2, .int v110, .int v111, .int v112]) (rest := [.int v109]) kq_Law_law i_Law_law_636 rfl kq_Mo_shortest (by decide) rfl (Or.inl rfl) (fun v114 h113 => ?_)
      refine ix_K_ic_eq (tgt := 1062) kq_Law_law i_Law_law_639 rfl (by decide) ?_ ?_
      · refine ix_K_inc (L2 := [some (.ref a0), some (.ref a1), some (.ref a2), some (.int (x3 + 4))]) kq_Law_law i_Law_law_1062 rfl rfl (Nat.le_of_ble_eq_true rfl) kci_4 rfl ?_
        refine ix_K_goto (tgt := 18) kq_Law_law i_Law_law_1065 rfl (by decide) ?_
        exact ix_D_cut i_Law_law_18 rfl
      · refine ix_K_ci kq_Law_law i_Law_law_642 rfl kci_0 ?_
        exact ix_D_ret kq_Law_law i_Law_law_643 (ix_rtZ rfl false)
    · refine ix_K_px kq_Law_law i_Law_law_644 rfl rfl ?_
      refine ix_K_callI (as := [.ref a1]) (rest := []) kq_Law_law i_Law_law_645 rfl kq_RP_flow (by decide) rfl (Or.inl rfl) (fun v116 h115 => ?_)
      refine ix_K_px kq_Law_law i_Law_law_648 rfl rfl ?_
      refine ix_K_callI (as := [.ref a2]) (rest := [.int v116]) kq_Law_law i_Law_law_649 rfl kq_Mo_flow (by decide) rfl (Or.inl rfl) (fun v118 h117 => ?_)
      refine ix_K_ic_eq (tgt := 1062) kq_Law_law i_Law_law_652 rfl (by decide) ?_ ?_
      · refine ix_K_inc (L2 := [some (.ref a0), some (.ref a1), some (.ref a2), some (.int (x3 + 4))]) kq_Law_law i_Law_law_1062 rfl rfl (Nat.le_of_ble_eq_true rfl) kci_4 rfl ?_
        refine ix_K_goto (tgt := 18) kq_Law_law i_Law_law_1065 rfl (by decide) ?_
        exact ix_D_cut i_Law_law_18 rfl
      · refine ix_K_ci kq_Law_law i_Law_law_655 rfl kci_0 ?_
        exact ix_D_ret kq_Law_law i_Law_law_656 (ix_rtZ rfl false)
    · refine ix_K_px kq_Law_law i_Law_law_657 rfl rfl ?_
      refine ix_K_px kq_Law_law i_Law_law_658 rfl rfl ?_
      refine ix_K_px kq_Law_law i_Law_law_659 rfl rfl ?_
      refine ix_K_ci kq_Law_law i_Law_law_660 rfl kci_1 ?_
      refine ix_K_px kq_Law_law i_Law_law_661 rfl rfl ?_
      refine ix_K_ai kq_Law_law i_Law_law_662 rfl (fun v119 => ?_)
      refine ix_K_px kq_Law_law i_Law_law_663 rfl rfl ?_
      refine ix_K_px kq_Law_law i_Law_law_664 rfl rfl ?_
      refine ix_K_ci kq_Law_law i_Law_law_665 rfl kci_2 ?_
      refine ix_K_px kq_Law_law i_Law_law_666 rfl rfl ?_
      refine ix_K_ai kq_Law_law i_Law_law_667 rfl (fun v120 => ?_)
      refine ix_K_callI (as := [.ref a1, .int v119, .int v120]) (rest := []) kq_Law_law i_Law_law_668 rfl kq_RP_pass (by decide) rfl (Or.inl rfl) (fun v122 h121 => ?_)
      refine ix_K_px kq_Law_law i_Law_law_671 rfl rfl ?_
      refine ix_K_px kq_Law_law i_Law_law_672 rfl rfl ?_
      refine ix_K_px kq_Law_law i_Law_law_673 rfl rfl ?_
      refine ix_K_ci kq_Law_law i_Law_law_674 rfl kci_1 ?_
      refine ix_K_px kq_Law_law i_Law_law_675 rfl rfl ?_
      refine ix_K_ai kq_Law_law i_Law_law_676 rfl (fun v123 => ?_)
      refine ix_K_px kq_Law_law i_Law_law_677 rfl rfl ?_
      refine ix_K_px kq_Law_law i_Law_law_678 rfl rfl ?_
      refine ix_K_ci kq_Law_law i_Law_law_679 rfl kci_2 ?_
      refine ix_K_px kq_Law_law i_Law_law_680 rfl rfl ?_
      refine ix_K_ai kq_Law_law i_Law_law_681 rfl (fun v124 => ?_)
      refine ix_K_callI (as := [.ref a2, .int v123, .int v124]) (rest := [.int v122]) kq_Law_law i_Law_law_682 rfl kq_Mo_pass (by decide) rfl (Or.inl rfl) (fun v126 h125 => ?_)
      refine ix_K_ic_eq (tgt := 1062) kq_Law_law i_Law_law_685 rfl (by decide) ?_ ?_
      · refine ix_K_inc (L2 := [some (.ref a0), some (.ref a1), some (.ref a2), some (.int (x3 + 4))]) kq_Law_law i_Law_law_1062 rfl rfl (Nat.le_of_ble_eq_true rfl) kci_4 rfl ?_
        refine ix_K_goto (tgt := 18) kq_Law_law i_Law_law_1065 rfl (by decide) ?_
        exact ix_D_cut i_Law_law_18 rfl
      · refine ix_K_ci kq_Law_law i_Law_law_688 rfl kci_0 ?_
        exact ix_D_ret kq_Law_law i_Law_law_689 (ix_rtZ rfl false)
    · refine ix_K_px kq_Law_law i_Law_law_690 rfl rfl ?_
      refine ix_K_px kq_Law_law i_Law_law_691 rfl rfl ?_
      refine ix_K_px kq_Law_law i_Law_law_692 rfl rfl ?_
      refine ix_K_ci kq_Law_law i_Law_law_693 rfl kci_1 ?_
      refine ix_K_px kq_Law_law i_Law_law_694 rfl rfl ?_
      refine ix_K_ai kq_Law_law i_Law_law_695 rfl (fun v127 => ?_)
      refine ix_K_callI (as := [.ref a1, .int v127]) (rest := []) kq_Law_law i_Law_law_696 rfl kq_RP_changed (by decide) rfl (Or.inl rfl) (fun v129 h128 => ?_)
      refine ix_K_px kq_Law_law i_Law_law_699 rfl rfl ?_
      refine ix_K_px kq_Law_law i_Law_law_700 rfl rfl ?_
      refine ix_K_px kq_Law_law i_Law_law_701 rfl rfl ?_
      refine ix_K_ci kq_Law_law i_Law_law_702 rfl kci_1 ?_
      refine ix_K_px kq_Law_law i_Law_law_703 rfl rfl ?_
      refine ix_K_ai kq_Law_law i_Law_law_704 rfl (fun v130 => ?_)
      refine ix_K_callI (as := [.ref a2, .int v130]) (rest := [.int v129]) kq_Law_law i_Law_law_705 rfl kq_Mo_changed (by decide) rfl (Or.inl rfl) (fun v132 h131 => ?_)
      refine ix_K_ic_eq (tgt := 1062) kq_Law_law i_Law_law_708 rfl (by decide) ?_ ?_
      · refine ix_K_inc (L2 := [some (.ref a0), some (.ref a1), some (.ref a2), some (.int (x3 + 4))]) kq_Law_law i_Law_law_1062 rfl rfl (Nat.le_of_ble_eq_true rfl) kci_4 rfl ?_
        refine ix_K_goto (tgt := 18) kq_Law_law i_Law_law_1065 rfl (by decide) ?_
        exact ix_D_cut i_Law_law_18 rfl
      · refine ix_K_ci kq_Law_law i_Law_law_711 rfl kci_0 ?_
        exact ix_D_ret kq_Law_law i_Law_law_712 (ix_rtZ rfl false)
    · refine ix_K_px kq_Law_law i_Law_law_713 rfl rfl ?_
      refine ix_K_px kq_Law_law i_Law_law_714 rfl rfl ?_
      refine ix_K_px kq_Law_law i_Law_law_715 rfl rfl ?_
      refine ix_K_ci kq_Law_law i_Law_law_716 rfl kci_1 ?_
      refine ix_K_px kq_Law_law i_Law_law_717 rfl rfl ?_
      refine ix_K_ai kq_Law_law i_Law_law_718 rfl (fun v133 => ?_)
      refine ix_K_callI (as := [.ref a1, .int v133]) (rest := []) kq_Law_law i_Law_law_719 rfl kq_RP_bestTurns (by decide) rfl (Or.inl rfl) (fun v135 h134 => ?_)
      refine ix_K_px kq_Law_law i_Law_law_722 rfl rfl ?_
      refine ix_K_px kq_Law_law i_Law_law_723 rfl rfl ?_
      refine ix_K_px kq_Law_law i_Law_law_724 rfl rfl ?_
      refine ix_K_ci kq_Law_law i_Law_law_725 rfl kci_1 ?_
      refine ix_K_px kq_Law_law i_Law_law_726 rfl rfl ?_
      refine ix_K_ai kq_Law_law i_Law_law_727 rfl (fun v136 => ?_)
      refine ix_K_callI (as := [.ref a2, .int v136]) (rest := [.int v135]) kq_Law_law i_Law_law_728 rfl kq_Mo_bestTurns (by decide) rfl (Or.inl rfl) (fun v138 h137 => ?_)
      refine ix_K_ic_eq (tgt := 1062) kq_Law_law i_Law_law_731 rfl (by decide) ?_ ?_
      · refine ix_K_inc (L2 := [some (.ref a0), some (.ref a1), some (.ref a2), some (.int (x3 + 4))]) kq_Law_law i_Law_law_1062 rfl rfl (Nat.le_of_ble_eq_true rfl) kci_4 rfl ?_
        refine ix_K_goto (tgt := 18) kq_Law_law i_Law_law_1065 rfl (by decide) ?_
        exact ix_D_cut i_Law_law_18 rfl
      · refine ix_K_ci kq_Law_law i_Law_law_734 rfl kci_0 ?_
        exact ix_D_ret kq_Law_law i_Law_law_735 (ix_rtZ rfl false)
    · refine ix_K_px kq_Law_law i_Law_law_736 rfl rfl ?_
      refine ix_K_callI (as := [.ref a1]) (rest := []) kq_Law_law i_Law_law_737 rfl kq_RP_cover (by decide) rfl (Or.inl rfl) (fun v140 h139 => ?_)
      refine ix_K_px kq_Law_law i_Law_law_740 rfl rfl ?_
      refine ix_K_callI (as := [.ref a2]) (rest := [.int v140]) kq_Law_law i_Law_law_741 rfl kq_Mo_cover (by decide) rfl (Or.inl rfl) (fun v142 h141 => ?_)
      refine ix_K_ic_eq (tgt := 1062) kq_Law_law i_Law_law_744 rfl (by decide) ?_ ?_
      · refine ix_K_inc (L2 := [some (.ref a0), some (.ref a1), some (.ref a2), some (.int (x3 + 4))]) kq_Law_law i_Law_law_1062 rfl rfl (Nat.le_of_ble_eq_true rfl) kci_4 rfl ?_
        refine ix_K_goto (tgt := 18) kq_Law_law i_Law_law_1065 rfl (by decide) ?_
        exact ix_D_cut i_Law_law_18 rfl
      · refine ix_K_ci kq_Law_law i_Law_law_747 rfl kci_0 ?_
        exact ix_D_ret kq_Law_law i_Law_law_748 (ix_rtZ rfl false)
    · refine ix_K_px kq_Law_law i_Law_law_749 rfl rfl ?_
      refine ix_K_px kq_Law_law i_Law_law_750 rfl rfl ?_
      refine ix_K_px kq_Law_law i_Law_law_751 rfl rfl ?_
      refine ix_K_ci kq_Law_law i_Law_law_752 rfl kci_1 ?_
      refine ix_K_px kq_Law_law i_Law_law_753 rfl rfl ?_
      refine ix_K_ai kq_Law_law i_Law_law_754 rfl (fun v143 => ?_)
      refine ix_K_callI (as := [.ref a1, .int v143]) (rest := []) kq_Law_law i_Law_law_755 rfl kq_RP_group (by decide) rfl (Or.inl rfl) (fun v145 h144 => ?_)
      refine ix_K_px kq_Law_law i_Law_law_758 rfl rfl ?_
      refine ix_K_px kq_Law_law i_Law_law_759 rfl rfl ?_
      refine ix_K_px kq_Law_law i_Law_law_760 rfl rfl ?_
      refine ix_K_ci kq_Law_law i_Law_law_761 rfl kci_1 ?_
      refine ix_K_px kq_Law_law i_Law_law_762 rfl rfl ?_
      refine ix_K_ai kq_Law_law i_Law_law_763 rfl (fun v146 => ?_)
      refine ix_K_callI (as := [.ref a2, .int v146]) (rest := [.int v145]) kq_Law_law i_Law_law_764 rfl kq_Mo_group (by decide) rfl (Or.inl rfl) (fun v148 h147 => ?_)
      refine ix_K_ic_eq (tgt := 1062) kq_Law_law i_Law_law_767 rfl (by decide) ?_ ?_
      · refine ix_K_inc (L2 := [some (.ref a0), some (.ref a1), some (.ref a2), some (.int (x3 + 4))]) kq_Law_law i_Law_law_1062 rfl rfl (Nat.le_of_ble_eq_true rfl) kci_4 rfl ?_
        refine ix_K_goto (tgt := 18) kq_Law_law i_Law_law_1065 rfl (by decide) ?_
        exact ix_D_cut i_Law_law_18 rfl
      · refine ix_K_ci kq_Law_law i_Law_law_770 rfl kci_0 ?_
        exact ix_D_ret kq_Law_law i_Law_law_771 (ix_rtZ rfl false)
    · refine ix_K_px kq_Law_law i_Law_law_772 rfl rfl ?_
      refine ix_K_px kq_Law_law i_Law_law_773 rfl rfl ?_
      refine ix_K_px kq_Law_law i_Law_law_774 rfl rfl ?_
      refine ix_K_ci kq_Law_law i_Law_law_775 rfl kci_1 ?_
      refine ix_K_px kq_Law_law i_Law_law_776 rfl rfl ?_
      refine ix_K_ai kq_Law_law i_Law_law_777 rfl (fun v149 => ?_)
      refine ix_K_px kq_Law_law i_Law_law_778 rfl rfl ?_
      refine ix_K_px kq_Law_law i_Law_law_779 rfl rfl ?_
      refine ix_K_ci kq_Law_law i_Law_law_780 rfl kci_2 ?_
      refine ix_K_px kq_Law_law i_Law_law_781 rfl rfl ?_
      refine ix_K_ai kq_Law_law i_Law_law_782 rfl (fun v150 => ?_)
      refine ix_K_callI (as := [.ref a1, .int v149, .int v150]) (rest := []) kq_Law_law i_Law_law_783 rfl kq_RP_step (by decide) rfl (Or.inl rfl) (fun v152 h151 => ?_)
      refine ix_K_px kq_Law_law i_Law_law_786 rfl rfl ?_
      refine ix_K_px kq_Law_law i_Law_law_787 rfl rfl ?_
      refine ix_K_px kq_Law_law i_Law_law_788 rfl rfl ?_
      refine ix_K_ci kq_Law_law i_Law_law_789 rfl kci_1 ?_
      refine ix_K_px kq_Law_law i_Law_law_790 rfl rfl ?_
      refine ix_K_ai kq_Law_law i_Law_law_791 rfl (fun v153 => ?_)
      refine ix_K_px kq_Law_law i_Law_law_792 rfl rfl ?_
      refine ix_K_px kq_Law_law i_Law_law_793 rfl rfl ?_
      refine ix_K_ci kq_Law_law i_Law_law_794 rfl kci_2 ?_
      refine ix_K_px kq_Law_law i_Law_law_795 rfl rfl ?_
      refine ix_K_ai kq_Law_law i_Law_law_796 rfl (fun v154 => ?_)
      refine ix_K_callI (as := [.ref a2, .int v153, .int v154]) (rest := [.int v152]) kq_Law_law i_Law_law_797 rfl kq_Mo_step (by decide) rfl (Or.inl rfl) (fun v156 h155 => ?_)
      refine ix_K_ic_eq (tgt := 1062) kq_Law_law i_Law_law_800 rfl (by decide) ?_ ?_
      · refine ix_K_inc (L2 := [some (.ref a0), some (.ref a1), some (.ref a2), some (.int (x3 + 4))]) kq_Law_law i_Law_law_1062 rfl rfl (Nat.le_of_ble_eq_true rfl) kci_4 rfl ?_
        refine ix_K_goto (tgt := 18) kq_Law_law i_Law_law_1065 rfl (by decide) ?_
        exact ix_D_cut i_Law_law_18 rfl
      · refine ix_K_ci kq_Law_law i_Law_law_803 rfl kci_0 ?_
        exact ix_D_ret kq_Law_law i_Law_law_804 (ix_rtZ rfl false)
    · refine ix_K_px kq_Law_law i_Law_law_805 rfl rfl ?_
      refine ix_K_px kq_Law_law i_Law_law_806 rfl rfl ?_
      refine ix_K_px kq_Law_law i_Law_law_807 rfl rfl ?_
      refine ix_K_ci kq_Law_law i_Law_law_808 rfl kci_1 ?_
      refine ix_K_px kq_Law_law i_Law_law_809 rfl rfl ?_
      refine ix_K_ai kq_Law_law i_Law_law_810 rfl (fun v157 => ?_)
      refine ix_K_callI (as := [.ref a1, .int v157]) (rest := []) kq_Law_law i_Law_law_811 rfl kq_RP_back (by decide) rfl (Or.inl rfl) (fun v159 h158 => ?_)
      refine ix_K_px kq_Law_law i_Law_law_814 rfl rfl ?_
      refine ix_K_px kq_Law_law i_Law_law_815 rfl rfl ?_
      refine ix_K_px kq_Law_law i_Law_law_816 rfl rfl ?_
      refine ix_K_ci kq_Law_law i_Law_law_817 rfl kci_1 ?_
      refine ix_K_px kq_Law_law i_Law_law_818 rfl rfl ?_
      refine ix_K_ai kq_Law_law i_Law_law_819 rfl (fun v160 => ?_)
      refine ix_K_callI (as := [.ref a2, .int v160]) (rest := [.int v159]) kq_Law_law i_Law_law_820 rfl kq_Mo_back (by decide) rfl (Or.inl rfl) (fun v162 h161 => ?_)
      refine ix_K_ic_eq (tgt := 1062) kq_Law_law i_Law_law_823 rfl (by decide) ?_ ?_
      · refine ix_K_inc (L2 := [some (.ref a0), some (.ref a1), some (.ref a2), some (.int (x3 + 4))]) kq_Law_law i_Law_law_1062 rfl rfl (Nat.le_of_ble_eq_true rfl) kci_4 rfl ?_
        refine ix_K_goto (tgt := 18) kq_Law_law i_Law_law_1065 rfl (by decide) ?_
        exact ix_D_cut i_Law_law_18 rfl
      · refine ix_K_ci kq_Law_law i_Law_law_826 rfl kci_0 ?_
        exact ix_D_ret kq_Law_law i_Law_law_827 (ix_rtZ rfl false)
    · refine ix_K_px kq_Law_law i_Law_law_828 rfl rfl ?_
      refine ix_K_px kq_Law_law i_Law_law_829 rfl rfl ?_
      refine ix_K_px kq_Law_law i_Law_law_830 rfl rfl ?_
      refine ix_K_ci kq_Law_law i_Law_law_831 rfl kci_1 ?_
      refine ix_K_px kq_Law_law i_Law_law_832 rfl rfl ?_
      refine ix_K_ai kq_Law_law i_Law_law_833 rfl (fun v163 => ?_)
      refine ix_K_px kq_Law_law i_Law_law_834 rfl rfl ?_
      refine ix_K_px kq_Law_law i_Law_law_835 rfl rfl ?_
      refine ix_K_ci kq_Law_law i_Law_law_836 rfl kci_2 ?_
      refine ix_K_px kq_Law_law i_Law_law_837 rfl rfl ?_
      refine ix_K_ai kq_Law_law i_Law_law_838 rfl (fun v164 => ?_)
      refine ix_K_callI (as := [.ref a1, .int v163, .int v164]) (rest := []) kq_Law_law i_Law_law_839 rfl kq_RP_route (by decide) rfl (Or.inl rfl) (fun v166 h165 => ?_)
      refine ix_K_px kq_Law_law i_Law_law_842 rfl rfl ?_
      refine ix_K_px kq_Law_law i_Law_law_843 rfl rfl ?_
      refine ix_K_px kq_Law_law i_Law_law_844 rfl rfl ?_
      refine ix_K_ci kq_Law_law i_Law_law_845 rfl kci_1 ?_
      refine ix_K_px kq_Law_law i_Law_law_846 rfl rfl ?_
      refine ix_K_ai kq_Law_law i_Law_law_847 rfl (fun v167 => ?_)
      refine ix_K_px kq_Law_law i_Law_law_848 rfl rfl ?_
      refine ix_K_px kq_Law_law i_Law_law_849 rfl rfl ?_
      refine ix_K_ci kq_Law_law i_Law_law_850 rfl kci_2 ?_
      refine ix_K_px kq_Law_law i_Law_law_851 rfl rfl ?_
      refine ix_K_ai kq_Law_law i_Law_law_852 rfl (fun v168 => ?_)
      refine ix_K_callI (as := [.ref a2, .int v167, .int v168]) (rest := [.int v166]) kq_Law_law i_Law_law_853 rfl kq_Mo_route (by decide) rfl (Or.inl rfl) (fun v170 h169 => ?_)
      refine ix_K_ic_eq (tgt := 1062) kq_Law_law i_Law_law_856 rfl (by decide) ?_ ?_
      · refine ix_K_inc (L2 := [some (.ref a0), some (.ref a1), some (.ref a2), some (.int (x3 + 4))]) kq_Law_law i_Law_law_1062 rfl rfl (Nat.le_of_ble_eq_true rfl) kci_4 rfl ?_
        refine ix_K_goto (tgt := 18) kq_Law_law i_Law_law_1065 rfl (by decide) ?_
        exact ix_D_cut i_Law_law_18 rfl
      · refine ix_K_ci kq_Law_law i_Law_law_859 rfl kci_0 ?_
        exact ix_D_ret kq_Law_law i_Law_law_860 (ix_rtZ rfl false)
    · refine ix_K_px kq_Law_law i_Law_law_861 rfl rfl ?_
      refine ix_K_px kq_Law_law i_Law_law_862 rfl rfl ?_
      refine ix_K_px kq_Law_law i_Law_law_863 rfl rfl ?_
      refine ix_K_ci kq_Law_law i_Law_law_864 rfl kci_1 ?_
      refine ix_K_px kq_Law_law i_Law_law_865 rfl rfl ?_
      refine ix_K_ai kq_Law_law i_Law_law_866 rfl (fun v171 => ?_)
      refine ix_K_px kq_Law_law i_Law_law_867 rfl rfl ?_
      refine ix_K_px kq_Law_law i_Law_law_868 rfl rfl ?_
      refine ix_K_ci kq_Law_law i_Law_law_869 rfl kci_2 ?_
      refine ix_K_px kq_Law_law i_Law_law_870 rfl rfl ?_
      refine ix_K_ai kq_Law_law i_Law_law_871 rfl (fun v172 => ?_)
      refine ix_K_callI (as := [.ref a1, .int v171, .int v172]) (rest := []) kq_Law_law i_Law_law_872 rfl kq_RP_about (by decide) rfl (Or.inl rfl) (fun v174 h173 => ?_)
      refine ix_K_px kq_Law_law i_Law_law_875 rfl rfl ?_
      refine ix_K_px kq_Law_law i_Law_law_876 rfl rfl ?_
      refine ix_K_px kq_Law_law i_Law_law_877 rfl rfl ?_
      refine ix_K_ci kq_Law_law i_Law_law_878 rfl kci_1 ?_
      refine ix_K_px kq_Law_law i_Law_law_879 rfl rfl ?_
      refine ix_K_ai kq_Law_law i_Law_law_880 rfl (fun v175 => ?_)
      refine ix_K_px kq_Law_law i_Law_law_881 rfl rfl ?_
      refine ix_K_px kq_Law_law i_Law_law_882 rfl rfl ?_
      refine ix_K_ci kq_Law_law i_Law_law_883 rfl kci_2 ?_
      refine ix_K_px kq_Law_law i_Law_law_884 rfl rfl ?_
      refine ix_K_ai kq_Law_law i_Law_law_885 rfl (fun v176 => ?_)
      refine ix_K_callI (as := [.ref a2, .int v175, .int v176]) (rest := [.int v174]) kq_Law_law i_Law_law_886 rfl kq_Mo_about (by decide) rfl (Or.inl rfl) (fun v178 h177 => ?_)
      refine ix_K_ic_eq (tgt := 1062) kq_Law_law i_Law_law_889 rfl (by decide) ?_ ?_
      · refine ix_K_inc (L2 := [some (.ref a0), some (.ref a1), some (.ref a2), some (.int (x3 + 4))]) kq_Law_law i_Law_law_1062 rfl rfl (Nat.le_of_ble_eq_true rfl) kci_4 rfl ?_
        refine ix_K_goto (tgt := 18) kq_Law_law i_Law_law_1065 rfl (by decide) ?_
        exact ix_D_cut i_Law_law_18 rfl
      · refine ix_K_ci kq_Law_law i_Law_law_892 rfl kci_0 ?_
        exact ix_D_ret kq_Law_law i_Law_law_893 (ix_rtZ rfl false)
    · refine ix_K_px kq_Law_law i_Law_law_894 rfl rfl ?_
      refine ix_K_px kq_Law_law i_Law_law_895 rfl rfl ?_
      refine ix_K_px kq_Law_law i_Law_law_896 rfl rfl ?_
      refine ix_K_ci kq_Law_law i_Law_law_897 rfl kci_1 ?_
      refine ix_K_px kq_Law_law i_Law_law_898 rfl rfl ?_
      refine ix_K_ai kq_Law_law i_Law_law_899 rfl (fun v179 => ?_)
      refine ix_K_px kq_Law_law i_Law_law_900 rfl rfl ?_
      refine ix_K_px kq_Law_law i_Law_law_901 rfl rfl ?_
      refine ix_K_ci kq_Law_law i_Law_law_902 rfl kci_2 ?_
      refine ix_K_px kq_Law_law i_Law_law_903 rfl rfl ?_
      refine ix_K_ai kq_Law_law i_Law_law_904 rfl (fun v180 => ?_)
      refine ix_K_callI (as := [.ref a1, .int v179, .int v180]) (rest := []) kq_Law_law i_Law_law_905 rfl kq_RP_meeting (by decide) rfl (Or.inl rfl) (fun v182 h181 => ?_)
      refine ix_K_px kq_Law_law i_Law_law_908 rfl rfl ?_
      refine ix_K_px kq_Law_law i_Law_law_909 rfl rfl ?_
      refine ix_K_px kq_Law_law i_Law_law_910 rfl rfl ?_
      refine ix_K_ci kq_Law_law i_Law_law_911 rfl kci_1 ?_
      refine ix_K_px kq_Law_law i_Law_law_912 rfl rfl ?_
      refine ix_K_ai kq_Law_law i_Law_law_913 rfl (fun v183 => ?_)
      refine ix_K_px kq_Law_law i_Law_law_914 rfl rfl ?_
      refine ix_K_px kq_Law_law i_Law_law_915 rfl rfl ?_
      refine ix_K_ci kq_Law_law i_Law_law_916 rfl kci_2 ?_
      refine ix_K_px kq_Law_law i_Law_law_917 rfl rfl ?_
      refine ix_K_ai kq_Law_law i_Law_law_918 rfl (fun v184 => ?_)
      refine ix_K_callI (as := [.ref a2, .int v183, .int v184]) (rest := [.int v182]) kq_Law_law i_Law_law_919 rfl kq_Mo_meeting (by decide) rfl (Or.inl rfl) (fun v186 h185 => ?_)
      refine ix_K_ic_eq (tgt := 1062) kq_Law_law i_Law_law_922 rfl (by decide) ?_ ?_
      · refine ix_K_inc (L2 := [some (.ref a0), some (.ref a1), some (.ref a2), some (.int (x3 + 4))]) kq_Law_law i_Law_law_1062 rfl rfl (Nat.le_of_ble_eq_true rfl) kci_4 rfl ?_
        refine ix_K_goto (tgt := 18) kq_Law_law i_Law_law_1065 rfl (by decide) ?_
        exact ix_D_cut i_Law_law_18 rfl
      · refine ix_K_ci kq_Law_law i_Law_law_925 rfl kci_0 ?_
        exact ix_D_ret kq_Law_law i_Law_law_926 (ix_rtZ rfl false)
    · refine ix_K_px kq_Law_law i_Law_law_927 rfl rfl ?_
      refine ix_K_px kq_Law_law i_Law_law_928 rfl rfl ?_
      refine ix_K_px kq_Law_law i_Law_law_929 rfl rfl ?_
      refine ix_K_ci kq_Law_law i_Law_law_930 rfl kci_1 ?_
      refine ix_K_px kq_Law_law i_Law_law_931 rfl rfl ?_
      refine ix_K_ai kq_Law_law i_Law_law_932 rfl (fun v187 => ?_)
      refine ix_K_px kq_Law_law i_Law_law_933 rfl rfl ?_
      refine ix_K_px kq_Law_law i_Law_law_934 rfl rfl ?_
      refine ix_K_ci kq_Law_law i_Law_law_935 rfl kci_2 ?_
      refine ix_K_px kq_Law_law i_Law_law_936 rfl rfl ?_
      refine ix_K_ai kq_Law_law i_Law_law_937 rfl (fun v188 => ?_)
      refine ix_K_callI (as := [.ref a1, .int v187, .int v188]) (rest := []) kq_Law_law i_Law_law_938 rfl kq_RP_exchange (by decide) rfl (Or.inl rfl) (fun v190 h189 => ?_)
      refine ix_K_px kq_Law_law i_Law_law_941 rfl rfl ?_
      refine ix_K_px kq_Law_law i_Law_law_942 rfl rfl ?_
      refine ix_K_px kq_Law_law i_Law_law_943 rfl rfl ?_
      refine ix_K_ci kq_Law_law i_Law_law_944 rfl kci_1 ?_
      refine ix_K_px kq_Law_law i_Law_law_945 rfl rfl ?_
      refine ix_K_ai kq_Law_law i_Law_law_946 rfl (fun v191 => ?_)
      refine ix_K_px kq_Law_law i_Law_law_947 rfl rfl ?_
      refine ix_K_px kq_Law_law i_Law_law_948 rfl rfl ?_
      refine ix_K_ci kq_Law_law i_Law_law_949 rfl kci_2 ?_
      refine ix_K_px kq_Law_law i_Law_law_950 rfl rfl ?_
      refine ix_K_ai kq_Law_law i_Law_law_951 rfl (fun v192 => ?_)
      refine ix_K_callI (as := [.ref a2, .int v191, .int v192]) (rest := [.int v190]) kq_Law_law i_Law_law_952 rfl kq_Mo_exchange (by decide) rfl (Or.inl rfl) (fun v194 h193 => ?_)
      refine ix_K_ic_eq (tgt := 1062) kq_Law_law i_Law_law_955 rfl (by decide) ?_ ?_
      · refine ix_K_inc (L2 := [some (.ref a0), some (.ref a1), some (.ref a2), some (.int (x3 + 4))]) kq_Law_law i_Law_law_1062 rfl rfl (Nat.le_of_ble_eq_true rfl) kci_4 rfl ?_
        refine ix_K_goto (tgt := 18) kq_Law_law i_Law_law_1065 rfl (by decide) ?_
        exact ix_D_cut i_Law_law_18 rfl
      · refine ix_K_ci kq_Law_law i_Law_law_958 rfl kci_0 ?_
        exact ix_D_ret kq_Law_law i_Law_law_959 (ix_rtZ rfl false)
    · refine ix_K_px kq_Law_law i_Law_law_960 rfl rfl ?_
      refine ix_K_px kq_Law_law i_Law_law_961 rfl rfl ?_
      refine ix_K_px kq_Law_law i_Law_law_962 rfl rfl ?_
      refine ix_K_ci kq_Law_law i_Law_law_963 rfl kci_1 ?_
      refine ix_K_px kq_Law_law i_Law_law_964 rfl rfl ?_
      refine ix_K_ai kq_Law_law i_Law_law_965 rfl (fun v195 => ?_)
      refine ix_K_px kq_Law_law i_Law_law_966 rfl rfl ?_
      refine ix_K_px kq_Law_law i_Law_law_967 rfl rfl ?_
      refine ix_K_ci kq_Law_law i_Law_law_968 rfl kci_2 ?_
      refine ix_K_px kq_Law_law i_Law_law_969 rfl rfl ?_
      refine ix_K_ai kq_Law_law i_Law_law_970 rfl (fun v196 => ?_)
      refine ix_K_callI (as := [.ref a1, .int v195, .int v196]) (rest := []) kq_Law_law i_Law_law_971 rfl kq_RP_check (by decide) rfl (Or.inl rfl) (fun v198 h197 => ?_)
      refine ix_K_px kq_Law_law i_Law_law_974 rfl rfl ?_
      refine ix_K_px kq_Law_law i_Law_law_975 rfl rfl ?_
      refine ix_K_px kq_Law_law i_Law_law_976 rfl rfl ?_
      refine ix_K_ci kq_Law_law i_Law_law_977 rfl kci_1 ?_
      refine ix_K_px kq_Law_law i_Law_law_978 rfl rfl ?_
      refine ix_K_ai kq_Law_law i_Law_law_979 rfl (fun v199 => ?_)
      refine ix_K_px kq_Law_law i_Law_law_980 rfl rfl ?_
      refine ix_K_px kq_Law_law i_Law_law_981 rfl rfl ?_
      refine ix_K_ci kq_Law_law i_Law_law_982 rfl kci_2 ?_
      refine ix_K_px kq_Law_law i_Law_law_983 rfl rfl ?_
      refine ix_K_ai kq_Law_law i_Law_law_984 rfl (fun v200 => ?_)
      refine ix_K_callI (as := [.ref a2, .int v199, .int v200]) (rest := [.int v198]) kq_Law_law i_Law_law_985 rfl kq_Mo_check (by decide) rfl (Or.inl rfl) (fun v202 h201 => ?_)
      refine ix_K_ic_eq (tgt := 1062) kq_Law_law i_Law_law_988 rfl (by decide) ?_ ?_
      · refine ix_K_inc (L2 := [some (.ref a0), some (.ref a1), some (.ref a2), some (.int (x3 + 4))]) kq_Law_law i_Law_law_1062 rfl rfl (Nat.le_of_ble_eq_true rfl) kci_4 rfl ?_
        refine ix_K_goto (tgt := 18) kq_Law_law i_Law_law_1065 rfl (by decide) ?_
        exact ix_D_cut i_Law_law_18 rfl
      · refine ix_K_ci kq_Law_law i_Law_law_991 rfl kci_0 ?_
        exact ix_D_ret kq_Law_law i_Law_law_992 (ix_rtZ rfl false)
    · refine ix_K_px kq_Law_law i_Law_law_993 rfl rfl ?_
      refine ix_K_px kq_Law_law i_Law_law_994 rfl rfl ?_
      refine ix_K_px kq_Law_law i_Law_law_995 rfl rfl ?_
      refine ix_K_ci kq_Law_law i_Law_law_996 rfl kci_1 ?_
      refine ix_K_px kq_Law_law i_Law_law_997 rfl rfl ?_
      refine ix_K_ai kq_Law_law i_Law_law_998 rfl (fun v203 => ?_)
      refine ix_K_callI (as := [.ref a1, .int v203]) (rest := []) kq_Law_law i_Law_law_999 rfl kq_RP_count (by decide) rfl (Or.inl rfl) (fun v205 h204 => ?_)
      refine ix_K_px kq_Law_law i_Law_law_1002 rfl rfl ?_
      refine ix_K_px kq_Law_law i_Law_law_1003 rfl rfl ?_
      refine ix_K_px kq_Law_law i_Law_law_1004 rfl rfl ?_
      refine ix_K_ci kq_Law_law i_Law_law_1005 rfl kci_1 ?_
      refine ix_K_px kq_Law_law i_Law_law_1006 rfl rfl ?_
      refine ix_K_ai kq_Law_law i_Law_law_1007 rfl (fun v206 => ?_)
      refine ix_K_callI (as := [.ref a2, .int v206]) (rest := [.int v205]) kq_Law_law i_Law_law_1008 rfl kq_Mo_count (by decide) rfl (Or.inl rfl) (fun v208 h207 => ?_)
      refine ix_K_ic_eq (tgt := 1062) kq_Law_law i_Law_law_1011 rfl (by decide) ?_ ?_
      · refine ix_K_inc (L2 := [some (.ref a0), some (.ref a1), some (.ref a2), some (.int (x3 + 4))]) kq_Law_law i_Law_law_1062 rfl rfl (Nat.le_of_ble_eq_true rfl) kci_4 rfl ?_
        refine ix_K_goto (tgt := 18) kq_Law_law i_Law_law_1065 rfl (by decide) ?_
        exact ix_D_cut i_Law_law_18 rfl
      · refine ix_K_ci kq_Law_law i_Law_law_1014 rfl kci_0 ?_
        exact ix_D_ret kq_Law_law i_Law_law_1015 (ix_rtZ rfl false)
    · refine ix_K_px kq_Law_law i_Law_law_1016 rfl rfl ?_
      refine ix_K_px kq_Law_law i_Law_law_1017 rfl rfl ?_
      refine ix_K_px kq_Law_law i_Law_law_1018 rfl rfl ?_
      refine ix_K_ci kq_Law_law i_Law_law_1019 rfl kci_1 ?_
      refine ix_K_px kq_Law_law i_Law_law_1020 rfl rfl ?_
      refine ix_K_ai kq_Law_law i_Law_law_1021 rfl (fun v209 => ?_)
      refine ix_K_callI (as := [.ref a1, .int v209]) (rest := []) kq_Law_law i_Law_law_1022 rfl kq_RP_save (by decide) rfl (Or.inl rfl) (fun v211 h210 => ?_)
      refine ix_K_px kq_Law_law i_Law_law_1025 rfl rfl ?_
      refine ix_K_px kq_Law_law i_Law_law_1026 rfl rfl ?_
      refine ix_K_px kq_Law_law i_Law_law_1027 rfl rfl ?_
      refine ix_K_ci kq_Law_law i_Law_law_1028 rfl kci_1 ?_
      refine ix_K_px kq_Law_law i_Law_law_1029 rfl rfl ?_
      refine ix_K_ai kq_Law_law i_Law_law_1030 rfl (fun v212 => ?_)
      refine ix_K_callI (as := [.ref a2, .int v212]) (rest := [.int v211]) kq_Law_law i_Law_law_1031 rfl kq_Mo_save (by decide) rfl (Or.inl rfl) (fun v214 h213 => ?_)
      refine ix_K_ic_eq (tgt := 1062) kq_Law_law i_Law_law_1034 rfl (by decide) ?_ ?_
      · refine ix_K_inc (L2 := [some (.ref a0), some (.ref a1), some (.ref a2), some (.int (x3 + 4))]) kq_Law_law i_Law_law_1062 rfl rfl (Nat.le_of_ble_eq_true rfl) kci_4 rfl ?_
        refine ix_K_goto (tgt := 18) kq_Law_law i_Law_law_1065 rfl (by decide) ?_
        exact ix_D_cut i_Law_law_18 rfl
      · refine ix_K_ci kq_Law_law i_Law_law_1037 rfl kci_0 ?_
        exact ix_D_ret kq_Law_law i_Law_law_1038 (ix_rtZ rfl false)
    · refine ix_K_px kq_Law_law i_Law_law_1039 rfl rfl ?_
      refine ix_K_px kq_Law_law i_Law_law_1040 rfl rfl ?_
      refine ix_K_px kq_Law_law i_Law_law_1041 rfl rfl ?_
      refine ix_K_ci kq_Law_law i_Law_law_1042 rfl kci_1 ?_
      refine ix_K_px kq_Law_law i_Law_law_1043 rfl rfl ?_
      refine ix_K_ai kq_Law_law i_Law_law_1044 rfl (fun v215 => ?_)
      refine ix_K_callI (as := [.ref a1, .int v215]) (rest := []) kq_Law_law i_Law_law_1045 rfl kq_RP_restore (by decide) rfl (Or.inl rfl) (fun v217 h216 => ?_)
      refine ix_K_px kq_Law_law i_Law_law_1048 rfl rfl ?_
      refine ix_K_px kq_Law_law i_Law_law_1049 rfl rfl ?_
      refine ix_K_px kq_Law_law i_Law_law_1050 rfl rfl ?_
      refine ix_K_ci kq_Law_law i_Law_law_1051 rfl kci_1 ?_
      refine ix_K_px kq_Law_law i_Law_law_1052 rfl rfl ?_
      refine ix_K_ai kq_Law_law i_Law_law_1053 rfl (fun v218 => ?_)
      refine ix_K_callI (as := [.ref a2, .int v218]) (rest := [.int v217]) kq_Law_law i_Law_law_1054 rfl kq_Mo_restore (by decide) rfl (Or.inl rfl) (fun v220 h219 => ?_)
      refine ix_K_ic_eq (tgt := 1062) kq_Law_law i_Law_law_1057 rfl (by decide) ?_ ?_
      · refine ix_K_inc (L2 := [some (.ref a0), some (.ref a1), some (.ref a2), some (.int (x3 + 4))]) kq_Law_law i_Law_law_1062 rfl rfl (Nat.le_of_ble_eq_true rfl) kci_4 rfl ?_
        refine ix_K_goto (tgt := 18) kq_Law_law i_Law_law_1065 rfl (by decide) ?_
        exact ix_D_cut i_Law_law_18 rfl
      · refine ix_K_ci kq_Law_law i_Law_law_1060 rfl kci_0 ?_
        exact ix_D_ret kq_Law_law i_Law_law_1061 (ix_rtZ rfl false)
    · refine ix_K_inc (L2 := [some (.ref a0), some (.ref a1), some (.ref a2), some (.int (x3 + 4))]) kq_Law_law i_Law_law_1062 rfl rfl (Nat.le_of_ble_eq_true rfl) kci_4 rfl ?_
      refine ix_K_goto (tgt := 18) kq_Law_law i_Law_law_1065 rfl (by decide) ?_
      exact ix_D_cut i_Law_law_18 rfl
set_option maxRecDepth 20000 in
set_option maxHeartbeats 1000000 in
theorem e_Law_law (a0 : Nat) (h : ixH) : ix_D mLaw_law 0 [some (.ref a0), none, none, none] [] h = (ix_M mRP_init [.ref h.1] (ix_nw h (.inr (0, ix_df 0)) (ix_N 0))).bind fun r => ix_kV r fun h1 => (ix_M mMo_init [.ref h1.1] (ix_nw h1 (.inr (11, ix_df 11)) (ix_N 11))).bind fun r => ix_kV r fun h2 => l_Law_law_18 a0 h.1 h1.1 0 h2 := by
  refine ix_K_nw kq_Law_law i_Law_law_0 rfl rfl ?_
  refine ix_K_px kq_Law_law i_Law_law_3 rfl rfl ?_
  refine ix_K_callV (as := [.ref h.1]) (rest := [.ref h.1]) kq_Law_law i_Law_law_4 rfl kq_RP_init (by decide) rfl rfl (fun h1 => ?_)
  refine ix_K_sr (L2 := [some (.ref a0), some (.ref h.1), none, none]) kq_Law_law i_Law_law_7 rfl (Or.inr ⟨_, rfl, rfl⟩) (Nat.le_of_ble_eq_true rfl) rfl ?_
  refine ix_K_nw kq_Law_law i_Law_law_8 rfl rfl ?_
  refine ix_K_px kq_Law_law i_Law_law_11 rfl rfl ?_
  refine ix_K_callV (as := [.ref h1.1]) (rest := [.ref h1.1]) kq_Law_law i_Law_law_12 rfl kq_Mo_init (by decide) rfl rfl (fun h2 => ?_)
  refine ix_K_sr (L2 := [some (.ref a0), some (.ref h.1), some (.ref h1.1), none]) kq_Law_law i_Law_law_15 rfl (Or.inr ⟨_, rfl, rfl⟩) (Nat.le_of_ble_eq_true rfl) rfl ?_
  refine ix_K_ci kq_Law_law i_Law_law_16 rfl kci_0 ?_
  refine ix_K_si (L2 := [some (.ref a0), some (.ref h.1), some (.ref h1.1), some (.int 0)]) kq_Law_law i_Law_law_17 rfl (Or.inr ⟨_, rfl, rfl⟩) (Nat.le_of_ble_eq_true rfl) rfl ?_
  exact ix_D_cut i_Law_law_18 rfl
theorem x_Law_law {a0 : Nat} {h h1 : ixH} {v : Bool} (hd : ix_D mLaw_law 0 [some (.ref a0), none, none, none] [] h = some ([.int (ix_bi v)], h1)) : ix_M mLaw_law [.ref a0] h = some ([.int (ix_bi v)], h1) := ix_M_of (ix_ent_s kq_Law_law rfl rfl (Nat.le_of_ble_eq_true rfl) rfl) hd (ix_okrZ rfl v)
