theorem eL_law_0 : Dn cL_law 0 (.new 7) 3 3 := ⟨by decide +kernel, rfl⟩
theorem eL_law_3 : Dn cL_law 3 (.dup) 1 4 := ⟨by decide +kernel, rfl⟩
theorem eL_law_4 : Dn cL_law 4 (.invokespecial 9) 3 7 := ⟨by decide +kernel, rfl⟩
theorem eL_law_7 : Dn cL_law 7 (.astore_n 1) 1 8 := ⟨by decide +kernel, rfl⟩
theorem eL_law_8 : Dn cL_law 8 (.new 10) 3 11 := ⟨by decide +kernel, rfl⟩
theorem eL_law_11 : Dn cL_law 11 (.dup) 1 12 := ⟨by decide +kernel, rfl⟩
theorem eL_law_12 : Dn cL_law 12 (.invokespecial 12) 3 15 := ⟨by decide +kernel, rfl⟩
theorem eL_law_15 : Dn cL_law 15 (.astore_n 2) 1 16 := ⟨by decide +kernel, rfl⟩
theorem eL_law_16 : Dn cL_law 16 (.iconst 0) 1 17 := ⟨by decide +kernel, rfl⟩
theorem eL_law_17 : Dn cL_law 17 (.istore_n 3) 1 18 := ⟨by decide +kernel, rfl⟩
theorem eL_law_18 : Dn cL_law 18 (.iload_n 3) 1 19 := ⟨by decide +kernel, rfl⟩
theorem eL_law_19 : Dn cL_law 19 (.aload_n 0) 1 20 := ⟨by decide +kernel, rfl⟩
theorem eL_law_20 : Dn cL_law 20 (.arraylength) 1 21 := ⟨by decide +kernel, rfl⟩
theorem eL_law_21 : Dn cL_law 21 (.iconst 5) 1 22 := ⟨by decide +kernel, rfl⟩
theorem eL_law_22 : Dn cL_law 22 (.isub) 1 23 := ⟨by decide +kernel, rfl⟩
theorem eL_law_23 : Dn cL_law 23 (.if_icmp .gt 1126) 3 26 := ⟨by decide +kernel, rfl⟩
theorem eL_law_26 : Dn cL_law 26 (.aload_n 0) 1 27 := ⟨by decide +kernel, rfl⟩
theorem eL_law_27 : Dn cL_law 27 (.iload_n 3) 1 28 := ⟨by decide +kernel, rfl⟩
theorem eL_law_28 : Dn cL_law 28 (.iaload) 1 29 := ⟨by decide +kernel, rfl⟩
theorem eL_law_29 : Dn cL_law 29 (.bipush 31) 2 31 := ⟨by decide +kernel, rfl⟩
theorem eL_law_31 : Dn cL_law 31 (.iand) 1 32 := ⟨by decide +kernel, rfl⟩
theorem eL_law_32 : Dn cL_law 32 (.tableswitch 1111 0 30 #[140, 203, 216, 229, 252, 285, 308, 341, 374, 413, 472, 515, 568, 601, 670, 693, 716, 749, 772, 805, 828, 851, 874, 927, 950, 983, 1016, 1029, 1042, 1065, 1088]) 140 172 := ⟨by decide +kernel, rfl⟩
theorem eL_law_172 : Dn cL_law 172 (.aload_n 1) 1 173 := ⟨by decide +kernel, rfl⟩
theorem eL_law_173 : Dn cL_law 173 (.aload_n 0) 1 174 := ⟨by decide +kernel, rfl⟩
theorem eL_law_174 : Dn cL_law 174 (.iload_n 3) 1 175 := ⟨by decide +kernel, rfl⟩
theorem eL_law_175 : Dn cL_law 175 (.iconst 1) 1 176 := ⟨by decide +kernel, rfl⟩
theorem eL_law_176 : Dn cL_law 176 (.iadd) 1 177 := ⟨by decide +kernel, rfl⟩
theorem eL_law_177 : Dn cL_law 177 (.iaload) 1 178 := ⟨by decide +kernel, rfl⟩
theorem eL_law_178 : Dn cL_law 178 (.aload_n 0) 1 179 := ⟨by decide +kernel, rfl⟩
theorem eL_law_179 : Dn cL_law 179 (.iload_n 3) 1 180 := ⟨by decide +kernel, rfl⟩
theorem eL_law_180 : Dn cL_law 180 (.iconst 2) 1 181 := ⟨by decide +kernel, rfl⟩
theorem eL_law_181 : Dn cL_law 181 (.iadd) 1 182 := ⟨by decide +kernel, rfl⟩
theorem eL_law_182 : Dn cL_law 182 (.iaload) 1 183 := ⟨by decide +kernel, rfl⟩
theorem eL_law_183 : Dn cL_law 183 (.i2l) 1 184 := ⟨by decide +kernel, rfl⟩
theorem eL_law_184 : Dn cL_law 184 (.bipush 32) 2 186 := ⟨by decide +kernel, rfl⟩
theorem eL_law_186 : Dn cL_law 186 (.lshl) 1 187 := ⟨by decide +kernel, rfl⟩
theorem eL_law_187 : Dn cL_law 187 (.aload_n 0) 1 188 := ⟨by decide +kernel, rfl⟩
theorem eL_law_188 : Dn cL_law 188 (.iload_n 3) 1 189 := ⟨by decide +kernel, rfl⟩
theorem eL_law_189 : Dn cL_law 189 (.iconst 3) 1 190 := ⟨by decide +kernel, rfl⟩
theorem eL_law_190 : Dn cL_law 190 (.iadd) 1 191 := ⟨by decide +kernel, rfl⟩
theorem eL_law_191 : Dn cL_law 191 (.iaload) 1 192 := ⟨by decide +kernel, rfl⟩
theorem eL_law_192 : Dn cL_law 192 (.i2l) 1 193 := ⟨by decide +kernel, rfl⟩
theorem eL_law_193 : Dn cL_law 193 (.ldc2_w 13) 3 196 := ⟨by decide +kernel, rfl⟩
theorem eL_law_196 : Dn cL_law 196 (.land) 1 197 := ⟨by decide +kernel, rfl⟩
theorem eL_law_197 : Dn cL_law 197 (.lor) 1 198 := ⟨by decide +kernel, rfl⟩
theorem eL_law_198 : Dn cL_law 198 (.invokevirtual 15) 3 201 := ⟨by decide +kernel, rfl⟩
theorem eL_law_201 : Dn cL_law 201 (.aload_n 2) 1 202 := ⟨by decide +kernel, rfl⟩
theorem eL_law_202 : Dn cL_law 202 (.aload_n 0) 1 203 := ⟨by decide +kernel, rfl⟩
theorem eL_law_203 : Dn cL_law 203 (.iload_n 3) 1 204 := ⟨by decide +kernel, rfl⟩
theorem eL_law_204 : Dn cL_law 204 (.iconst 1) 1 205 := ⟨by decide +kernel, rfl⟩
theorem eL_law_205 : Dn cL_law 205 (.iadd) 1 206 := ⟨by decide +kernel, rfl⟩
theorem eL_law_206 : Dn cL_law 206 (.iaload) 1 207 := ⟨by decide +kernel, rfl⟩
theorem eL_law_207 : Dn cL_law 207 (.aload_n 0) 1 208 := ⟨by decide +kernel, rfl⟩
theorem eL_law_208 : Dn cL_law 208 (.iload_n 3) 1 209 := ⟨by decide +kernel, rfl⟩
theorem eL_law_209 : Dn cL_law 209 (.iconst 2) 1 210 := ⟨by decide +kernel, rfl⟩
theorem eL_law_210 : Dn cL_law 210 (.iadd) 1 211 := ⟨by decide +kernel, rfl⟩
theorem eL_law_211 : Dn cL_law 211 (.iaload) 1 212 := ⟨by decide +kernel, rfl⟩
theorem eL_law_212 : Dn cL_law 212 (.i2l) 1 213 := ⟨by decide +kernel, rfl⟩
theorem eL_law_213 : Dn cL_law 213 (.bipush 32) 2 215 := ⟨by decide +kernel, rfl⟩
theorem eL_law_215 : Dn cL_law 215 (.lshl) 1 216 := ⟨by decide +kernel, rfl⟩
theorem eL_law_216 : Dn cL_law 216 (.aload_n 0) 1 217 := ⟨by decide +kernel, rfl⟩
theorem eL_law_217 : Dn cL_law 217 (.iload_n 3) 1 218 := ⟨by decide +kernel, rfl⟩
theorem eL_law_218 : Dn cL_law 218 (.iconst 3) 1 219 := ⟨by decide +kernel, rfl⟩
theorem eL_law_219 : Dn cL_law 219 (.iadd) 1 220 := ⟨by decide +kernel, rfl⟩
theorem eL_law_220 : Dn cL_law 220 (.iaload) 1 221 := ⟨by decide +kernel, rfl⟩
theorem eL_law_221 : Dn cL_law 221 (.i2l) 1 222 := ⟨by decide +kernel, rfl⟩
theorem eL_law_222 : Dn cL_law 222 (.ldc2_w 13) 3 225 := ⟨by decide +kernel, rfl⟩
theorem eL_law_225 : Dn cL_law 225 (.land) 1 226 := ⟨by decide +kernel, rfl⟩
theorem eL_law_226 : Dn cL_law 226 (.lor) 1 227 := ⟨by decide +kernel, rfl⟩
theorem eL_law_227 : Dn cL_law 227 (.invokevirtual 19) 3 230 := ⟨by decide +kernel, rfl⟩
theorem eL_law_230 : Dn cL_law 230 (.if_icmp .eq 913) 3 233 := ⟨by decide +kernel, rfl⟩
theorem eL_law_233 : Dn cL_law 233 (.iconst 0) 1 234 := ⟨by decide +kernel, rfl⟩
theorem eL_law_234 : Dn cL_law 234 (.ireturn) 1 235 := ⟨by decide +kernel, rfl⟩
theorem eL_law_235 : Dn cL_law 235 (.aload_n 1) 1 236 := ⟨by decide +kernel, rfl⟩
theorem eL_law_236 : Dn cL_law 236 (.invokevirtual 20) 3 239 := ⟨by decide +kernel, rfl⟩
theorem eL_law_239 : Dn cL_law 239 (.aload_n 2) 1 240 := ⟨by decide +kernel, rfl⟩
theorem eL_law_240 : Dn cL_law 240 (.invokevirtual 24) 3 243 := ⟨by decide +kernel, rfl⟩
theorem eL_law_243 : Dn cL_law 243 (.if_icmp .eq 900) 3 246 := ⟨by decide +kernel, rfl⟩
theorem eL_law_246 : Dn cL_law 246 (.iconst 0) 1 247 := ⟨by decide +kernel, rfl⟩
theorem eL_law_247 : Dn cL_law 247 (.ireturn) 1 248 := ⟨by decide +kernel, rfl⟩
theorem eL_law_248 : Dn cL_law 248 (.aload_n 1) 1 249 := ⟨by decide +kernel, rfl⟩
theorem eL_law_249 : Dn cL_law 249 (.invokevirtual 25) 3 252 := ⟨by decide +kernel, rfl⟩
theorem eL_law_252 : Dn cL_law 252 (.aload_n 2) 1 253 := ⟨by decide +kernel, rfl⟩
theorem eL_law_253 : Dn cL_law 253 (.invokevirtual 28) 3 256 := ⟨by decide +kernel, rfl⟩
theorem eL_law_256 : Dn cL_law 256 (.if_icmp .eq 887) 3 259 := ⟨by decide +kernel, rfl⟩
theorem eL_law_259 : Dn cL_law 259 (.iconst 0) 1 260 := ⟨by decide +kernel, rfl⟩
theorem eL_law_260 : Dn cL_law 260 (.ireturn) 1 261 := ⟨by decide +kernel, rfl⟩
theorem eL_law_261 : Dn cL_law 261 (.aload_n 1) 1 262 := ⟨by decide +kernel, rfl⟩
theorem eL_law_262 : Dn cL_law 262 (.aload_n 0) 1 263 := ⟨by decide +kernel, rfl⟩
theorem eL_law_263 : Dn cL_law 263 (.iload_n 3) 1 264 := ⟨by decide +kernel, rfl⟩
theorem eL_law_264 : Dn cL_law 264 (.iconst 1) 1 265 := ⟨by decide +kernel, rfl⟩
theorem eL_law_265 : Dn cL_law 265 (.iadd) 1 266 := ⟨by decide +kernel, rfl⟩
theorem eL_law_266 : Dn cL_law 266 (.iaload) 1 267 := ⟨by decide +kernel, rfl⟩
theorem eL_law_267 : Dn cL_law 267 (.invokevirtual 29) 3 270 := ⟨by decide +kernel, rfl⟩
theorem eL_law_270 : Dn cL_law 270 (.aload_n 2) 1 271 := ⟨by decide +kernel, rfl⟩
theorem eL_law_271 : Dn cL_law 271 (.aload_n 0) 1 272 := ⟨by decide +kernel, rfl⟩
theorem eL_law_272 : Dn cL_law 272 (.iload_n 3) 1 273 := ⟨by decide +kernel, rfl⟩
theorem eL_law_273 : Dn cL_law 273 (.iconst 1) 1 274 := ⟨by decide +kernel, rfl⟩
theorem eL_law_274 : Dn cL_law 274 (.iadd) 1 275 := ⟨by decide +kernel, rfl⟩
theorem eL_law_275 : Dn cL_law 275 (.iaload) 1 276 := ⟨by decide +kernel, rfl⟩
theorem eL_law_276 : Dn cL_law 276 (.invokevirtual 33) 3 279 := ⟨by decide +kernel, rfl⟩
theorem eL_law_279 : Dn cL_law 279 (.if_icmp .eq 864) 3 282 := ⟨by decide +kernel, rfl⟩
theorem eL_law_282 : Dn cL_law 282 (.iconst 0) 1 283 := ⟨by decide +kernel, rfl⟩
theorem eL_law_283 : Dn cL_law 283 (.ireturn) 1 284 := ⟨by decide +kernel, rfl⟩
theorem eL_law_284 : Dn cL_law 284 (.aload_n 1) 1 285 := ⟨by decide +kernel, rfl⟩
theorem eL_law_285 : Dn cL_law 285 (.aload_n 0) 1 286 := ⟨by decide +kernel, rfl⟩
theorem eL_law_286 : Dn cL_law 286 (.iload_n 3) 1 287 := ⟨by decide +kernel, rfl⟩
theorem eL_law_287 : Dn cL_law 287 (.iconst 1) 1 288 := ⟨by decide +kernel, rfl⟩
theorem eL_law_288 : Dn cL_law 288 (.iadd) 1 289 := ⟨by decide +kernel, rfl⟩
theorem eL_law_289 : Dn cL_law 289 (.iaload) 1 290 := ⟨by decide +kernel, rfl⟩
theorem eL_law_290 : Dn cL_law 290 (.aload_n 0) 1 291 := ⟨by decide +kernel, rfl⟩
theorem eL_law_291 : Dn cL_law 291 (.iload_n 3) 1 292 := ⟨by decide +kernel, rfl⟩
theorem eL_law_292 : Dn cL_law 292 (.iconst 2) 1 293 := ⟨by decide +kernel, rfl⟩
theorem eL_law_293 : Dn cL_law 293 (.iadd) 1 294 := ⟨by decide +kernel, rfl⟩
theorem eL_law_294 : Dn cL_law 294 (.iaload) 1 295 := ⟨by decide +kernel, rfl⟩
theorem eL_law_295 : Dn cL_law 295 (.invokevirtual 34) 3 298 := ⟨by decide +kernel, rfl⟩
theorem eL_law_298 : Dn cL_law 298 (.aload_n 2) 1 299 := ⟨by decide +kernel, rfl⟩
theorem eL_law_299 : Dn cL_law 299 (.aload_n 0) 1 300 := ⟨by decide +kernel, rfl⟩
theorem eL_law_300 : Dn cL_law 300 (.iload_n 3) 1 301 := ⟨by decide +kernel, rfl⟩
theorem eL_law_301 : Dn cL_law 301 (.iconst 1) 1 302 := ⟨by decide +kernel, rfl⟩
theorem eL_law_302 : Dn cL_law 302 (.iadd) 1 303 := ⟨by decide +kernel, rfl⟩
theorem eL_law_303 : Dn cL_law 303 (.iaload) 1 304 := ⟨by decide +kernel, rfl⟩
theorem eL_law_304 : Dn cL_law 304 (.aload_n 0) 1 305 := ⟨by decide +kernel, rfl⟩
theorem eL_law_305 : Dn cL_law 305 (.iload_n 3) 1 306 := ⟨by decide +kernel, rfl⟩
theorem eL_law_306 : Dn cL_law 306 (.iconst 2) 1 307 := ⟨by decide +kernel, rfl⟩
theorem eL_law_307 : Dn cL_law 307 (.iadd) 1 308 := ⟨by decide +kernel, rfl⟩
theorem eL_law_308 : Dn cL_law 308 (.iaload) 1 309 := ⟨by decide +kernel, rfl⟩
theorem eL_law_309 : Dn cL_law 309 (.invokevirtual 38) 3 312 := ⟨by decide +kernel, rfl⟩
theorem eL_law_312 : Dn cL_law 312 (.if_icmp .eq 831) 3 315 := ⟨by decide +kernel, rfl⟩
theorem eL_law_315 : Dn cL_law 315 (.iconst 0) 1 316 := ⟨by decide +kernel, rfl⟩
theorem eL_law_316 : Dn cL_law 316 (.ireturn) 1 317 := ⟨by decide +kernel, rfl⟩
theorem eL_law_317 : Dn cL_law 317 (.aload_n 1) 1 318 := ⟨by decide +kernel, rfl⟩
theorem eL_law_318 : Dn cL_law 318 (.aload_n 0) 1 319 := ⟨by decide +kernel, rfl⟩
theorem eL_law_319 : Dn cL_law 319 (.iload_n 3) 1 320 := ⟨by decide +kernel, rfl⟩
theorem eL_law_320 : Dn cL_law 320 (.iconst 1) 1 321 := ⟨by decide +kernel, rfl⟩
theorem eL_law_321 : Dn cL_law 321 (.iadd) 1 322 := ⟨by decide +kernel, rfl⟩
theorem eL_law_322 : Dn cL_law 322 (.iaload) 1 323 := ⟨by decide +kernel, rfl⟩
theorem eL_law_323 : Dn cL_law 323 (.invokevirtual 39) 3 326 := ⟨by decide +kernel, rfl⟩
theorem eL_law_326 : Dn cL_law 326 (.aload_n 2) 1 327 := ⟨by decide +kernel, rfl⟩
theorem eL_law_327 : Dn cL_law 327 (.aload_n 0) 1 328 := ⟨by decide +kernel, rfl⟩
theorem eL_law_328 : Dn cL_law 328 (.iload_n 3) 1 329 := ⟨by decide +kernel, rfl⟩
theorem eL_law_329 : Dn cL_law 329 (.iconst 1) 1 330 := ⟨by decide +kernel, rfl⟩
theorem eL_law_330 : Dn cL_law 330 (.iadd) 1 331 := ⟨by decide +kernel, rfl⟩
theorem eL_law_331 : Dn cL_law 331 (.iaload) 1 332 := ⟨by decide +kernel, rfl⟩
theorem eL_law_332 : Dn cL_law 332 (.invokevirtual 42) 3 335 := ⟨by decide +kernel, rfl⟩
theorem eL_law_335 : Dn cL_law 335 (.if_icmp .eq 808) 3 338 := ⟨by decide +kernel, rfl⟩
theorem eL_law_338 : Dn cL_law 338 (.iconst 0) 1 339 := ⟨by decide +kernel, rfl⟩
theorem eL_law_339 : Dn cL_law 339 (.ireturn) 1 340 := ⟨by decide +kernel, rfl⟩
theorem eL_law_340 : Dn cL_law 340 (.aload_n 1) 1 341 := ⟨by decide +kernel, rfl⟩
theorem eL_law_341 : Dn cL_law 341 (.aload_n 0) 1 342 := ⟨by decide +kernel, rfl⟩
theorem eL_law_342 : Dn cL_law 342 (.iload_n 3) 1 343 := ⟨by decide +kernel, rfl⟩
theorem eL_law_343 : Dn cL_law 343 (.iconst 1) 1 344 := ⟨by decide +kernel, rfl⟩
theorem eL_law_344 : Dn cL_law 344 (.iadd) 1 345 := ⟨by decide +kernel, rfl⟩
theorem eL_law_345 : Dn cL_law 345 (.iaload) 1 346 := ⟨by decide +kernel, rfl⟩
theorem eL_law_346 : Dn cL_law 346 (.aload_n 0) 1 347 := ⟨by decide +kernel, rfl⟩
theorem eL_law_347 : Dn cL_law 347 (.iload_n 3) 1 348 := ⟨by decide +kernel, rfl⟩
theorem eL_law_348 : Dn cL_law 348 (.iconst 2) 1 349 := ⟨by decide +kernel, rfl⟩
theorem eL_law_349 : Dn cL_law 349 (.iadd) 1 350 := ⟨by decide +kernel, rfl⟩
theorem eL_law_350 : Dn cL_law 350 (.iaload) 1 351 := ⟨by decide +kernel, rfl⟩
theorem eL_law_351 : Dn cL_law 351 (.invokevirtual 43) 3 354 := ⟨by decide +kernel, rfl⟩
theorem eL_law_354 : Dn cL_law 354 (.aload_n 2) 1 355 := ⟨by decide +kernel, rfl⟩
theorem eL_law_355 : Dn cL_law 355 (.aload_n 0) 1 356 := ⟨by decide +kernel, rfl⟩
theorem eL_law_356 : Dn cL_law 356 (.iload_n 3) 1 357 := ⟨by decide +kernel, rfl⟩
theorem eL_law_357 : Dn cL_law 357 (.iconst 1) 1 358 := ⟨by decide +kernel, rfl⟩
theorem eL_law_358 : Dn cL_law 358 (.iadd) 1 359 := ⟨by decide +kernel, rfl⟩
theorem eL_law_359 : Dn cL_law 359 (.iaload) 1 360 := ⟨by decide +kernel, rfl⟩
theorem eL_law_360 : Dn cL_law 360 (.aload_n 0) 1 361 := ⟨by decide +kernel, rfl⟩
theorem eL_law_361 : Dn cL_law 361 (.iload_n 3) 1 362 := ⟨by decide +kernel, rfl⟩
theorem eL_law_362 : Dn cL_law 362 (.iconst 2) 1 363 := ⟨by decide +kernel, rfl⟩
theorem eL_law_363 : Dn cL_law 363 (.iadd) 1 364 := ⟨by decide +kernel, rfl⟩
theorem eL_law_364 : Dn cL_law 364 (.iaload) 1 365 := ⟨by decide +kernel, rfl⟩
theorem eL_law_365 : Dn cL_law 365 (.invokevirtual 46) 3 368 := ⟨by decide +kernel, rfl⟩
theorem eL_law_368 : Dn cL_law 368 (.if_icmp .eq 775) 3 371 := ⟨by decide +kernel, rfl⟩
theorem eL_law_371 : Dn cL_law 371 (.iconst 0) 1 372 := ⟨by decide +kernel, rfl⟩
theorem eL_law_372 : Dn cL_law 372 (.ireturn) 1 373 := ⟨by decide +kernel, rfl⟩
theorem eL_law_373 : Dn cL_law 373 (.aload_n 1) 1 374 := ⟨by decide +kernel, rfl⟩
theorem eL_law_374 : Dn cL_law 374 (.aload_n 0) 1 375 := ⟨by decide +kernel, rfl⟩
theorem eL_law_375 : Dn cL_law 375 (.iload_n 3) 1 376 := ⟨by decide +kernel, rfl⟩
theorem eL_law_376 : Dn cL_law 376 (.iconst 1) 1 377 := ⟨by decide +kernel, rfl⟩
theorem eL_law_377 : Dn cL_law 377 (.iadd) 1 378 := ⟨by decide +kernel, rfl⟩
theorem eL_law_378 : Dn cL_law 378 (.iaload) 1 379 := ⟨by decide +kernel, rfl⟩
theorem eL_law_379 : Dn cL_law 379 (.aload_n 0) 1 380 := ⟨by decide +kernel, rfl⟩
theorem eL_law_380 : Dn cL_law 380 (.iload_n 3) 1 381 := ⟨by decide +kernel, rfl⟩
theorem eL_law_381 : Dn cL_law 381 (.iconst 2) 1 382 := ⟨by decide +kernel, rfl⟩
theorem eL_law_382 : Dn cL_law 382 (.iadd) 1 383 := ⟨by decide +kernel, rfl⟩
theorem eL_law_383 : Dn cL_law 383 (.iaload) 1 384 := ⟨by decide +kernel, rfl⟩
theorem eL_law_384 : Dn cL_law 384 (.invokevirtual 47) 3 387 := ⟨by decide +kernel, rfl⟩
theorem eL_law_387 : Dn cL_law 387 (.aload_n 2) 1 388 := ⟨by decide +kernel, rfl⟩
theorem eL_law_388 : Dn cL_law 388 (.aload_n 0) 1 389 := ⟨by decide +kernel, rfl⟩
theorem eL_law_389 : Dn cL_law 389 (.iload_n 3) 1 390 := ⟨by decide +kernel, rfl⟩
theorem eL_law_390 : Dn cL_law 390 (.iconst 1) 1 391 := ⟨by decide +kernel, rfl⟩
theorem eL_law_391 : Dn cL_law 391 (.iadd) 1 392 := ⟨by decide +kernel, rfl⟩
theorem eL_law_392 : Dn cL_law 392 (.iaload) 1 393 := ⟨by decide +kernel, rfl⟩
theorem eL_law_393 : Dn cL_law 393 (.aload_n 0) 1 394 := ⟨by decide +kernel, rfl⟩
theorem eL_law_394 : Dn cL_law 394 (.iload_n 3) 1 395 := ⟨by decide +kernel, rfl⟩
theorem eL_law_395 : Dn cL_law 395 (.iconst 2) 1 396 := ⟨by decide +kernel, rfl⟩
theorem eL_law_396 : Dn cL_law 396 (.iadd) 1 397 := ⟨by decide +kernel, rfl⟩
theorem eL_law_397 : Dn cL_law 397 (.iaload) 1 398 := ⟨by decide +kernel, rfl⟩
theorem eL_law_398 : Dn cL_law 398 (.invokevirtual 50) 3 401 := ⟨by decide +kernel, rfl⟩
theorem eL_law_401 : Dn cL_law 401 (.if_icmp .eq 742) 3 404 := ⟨by decide +kernel, rfl⟩
theorem eL_law_404 : Dn cL_law 404 (.iconst 0) 1 405 := ⟨by decide +kernel, rfl⟩
theorem eL_law_405 : Dn cL_law 405 (.ireturn) 1 406 := ⟨by decide +kernel, rfl⟩
theorem eL_law_406 : Dn cL_law 406 (.aload_n 1) 1 407 := ⟨by decide +kernel, rfl⟩
theorem eL_law_407 : Dn cL_law 407 (.aload_n 0) 1 408 := ⟨by decide +kernel, rfl⟩
theorem eL_law_408 : Dn cL_law 408 (.iload_n 3) 1 409 := ⟨by decide +kernel, rfl⟩
theorem eL_law_409 : Dn cL_law 409 (.iconst 1) 1 410 := ⟨by decide +kernel, rfl⟩
theorem eL_law_410 : Dn cL_law 410 (.iadd) 1 411 := ⟨by decide +kernel, rfl⟩
theorem eL_law_411 : Dn cL_law 411 (.iaload) 1 412 := ⟨by decide +kernel, rfl⟩
theorem eL_law_412 : Dn cL_law 412 (.ifCond .eq 7) 3 415 := ⟨by decide +kernel, rfl⟩
theorem eL_law_415 : Dn cL_law 415 (.iconst 1) 1 416 := ⟨by decide +kernel, rfl⟩
theorem eL_law_416 : Dn cL_law 416 (.goto 4) 3 419 := ⟨by decide +kernel, rfl⟩
theorem eL_law_419 : Dn cL_law 419 (.iconst 0) 1 420 := ⟨by decide +kernel, rfl⟩
theorem eL_law_420 : Dn cL_law 420 (.invokevirtual 51) 3 423 := ⟨by decide +kernel, rfl⟩
theorem eL_law_423 : Dn cL_law 423 (.aload_n 2) 1 424 := ⟨by decide +kernel, rfl⟩
theorem eL_law_424 : Dn cL_law 424 (.aload_n 0) 1 425 := ⟨by decide +kernel, rfl⟩
theorem eL_law_425 : Dn cL_law 425 (.iload_n 3) 1 426 := ⟨by decide +kernel, rfl⟩
theorem eL_law_426 : Dn cL_law 426 (.iconst 1) 1 427 := ⟨by decide +kernel, rfl⟩
theorem eL_law_427 : Dn cL_law 427 (.iadd) 1 428 := ⟨by decide +kernel, rfl⟩
theorem eL_law_428 : Dn cL_law 428 (.iaload) 1 429 := ⟨by decide +kernel, rfl⟩
theorem eL_law_429 : Dn cL_law 429 (.ifCond .eq 7) 3 432 := ⟨by decide +kernel, rfl⟩
theorem eL_law_432 : Dn cL_law 432 (.iconst 1) 1 433 := ⟨by decide +kernel, rfl⟩
theorem eL_law_433 : Dn cL_law 433 (.goto 4) 3 436 := ⟨by decide +kernel, rfl⟩
theorem eL_law_436 : Dn cL_law 436 (.iconst 0) 1 437 := ⟨by decide +kernel, rfl⟩
theorem eL_law_437 : Dn cL_law 437 (.invokevirtual 55) 3 440 := ⟨by decide +kernel, rfl⟩
theorem eL_law_440 : Dn cL_law 440 (.if_icmp .eq 703) 3 443 := ⟨by decide +kernel, rfl⟩
theorem eL_law_443 : Dn cL_law 443 (.iconst 0) 1 444 := ⟨by decide +kernel, rfl⟩
theorem eL_law_444 : Dn cL_law 444 (.ireturn) 1 445 := ⟨by decide +kernel, rfl⟩
theorem eL_law_445 : Dn cL_law 445 (.aload_n 1) 1 446 := ⟨by decide +kernel, rfl⟩
theorem eL_law_446 : Dn cL_law 446 (.aload_n 0) 1 447 := ⟨by decide +kernel, rfl⟩
theorem eL_law_447 : Dn cL_law 447 (.iload_n 3) 1 448 := ⟨by decide +kernel, rfl⟩
theorem eL_law_448 : Dn cL_law 448 (.iconst 1) 1 449 := ⟨by decide +kernel, rfl⟩
theorem eL_law_449 : Dn cL_law 449 (.iadd) 1 450 := ⟨by decide +kernel, rfl⟩
theorem eL_law_450 : Dn cL_law 450 (.iaload) 1 451 := ⟨by decide +kernel, rfl⟩
theorem eL_law_451 : Dn cL_law 451 (.aload_n 0) 1 452 := ⟨by decide +kernel, rfl⟩
theorem eL_law_452 : Dn cL_law 452 (.iload_n 3) 1 453 := ⟨by decide +kernel, rfl⟩
theorem eL_law_453 : Dn cL_law 453 (.iconst 2) 1 454 := ⟨by decide +kernel, rfl⟩
theorem eL_law_454 : Dn cL_law 454 (.iadd) 1 455 := ⟨by decide +kernel, rfl⟩
theorem eL_law_455 : Dn cL_law 455 (.iaload) 1 456 := ⟨by decide +kernel, rfl⟩
theorem eL_law_456 : Dn cL_law 456 (.aload_n 0) 1 457 := ⟨by decide +kernel, rfl⟩
theorem eL_law_457 : Dn cL_law 457 (.iload_n 3) 1 458 := ⟨by decide +kernel, rfl⟩
theorem eL_law_458 : Dn cL_law 458 (.iconst 3) 1 459 := ⟨by decide +kernel, rfl⟩
theorem eL_law_459 : Dn cL_law 459 (.iadd) 1 460 := ⟨by decide +kernel, rfl⟩
theorem eL_law_460 : Dn cL_law 460 (.iaload) 1 461 := ⟨by decide +kernel, rfl⟩
theorem eL_law_461 : Dn cL_law 461 (.ifCond .eq 7) 3 464 := ⟨by decide +kernel, rfl⟩
theorem eL_law_464 : Dn cL_law 464 (.iconst 1) 1 465 := ⟨by decide +kernel, rfl⟩
theorem eL_law_465 : Dn cL_law 465 (.goto 4) 3 468 := ⟨by decide +kernel, rfl⟩
theorem eL_law_468 : Dn cL_law 468 (.iconst 0) 1 469 := ⟨by decide +kernel, rfl⟩
theorem eL_law_469 : Dn cL_law 469 (.invokevirtual 56) 3 472 := ⟨by decide +kernel, rfl⟩
theorem eL_law_472 : Dn cL_law 472 (.aload_n 2) 1 473 := ⟨by decide +kernel, rfl⟩
theorem eL_law_473 : Dn cL_law 473 (.aload_n 0) 1 474 := ⟨by decide +kernel, rfl⟩
theorem eL_law_474 : Dn cL_law 474 (.iload_n 3) 1 475 := ⟨by decide +kernel, rfl⟩
theorem eL_law_475 : Dn cL_law 475 (.iconst 1) 1 476 := ⟨by decide +kernel, rfl⟩
theorem eL_law_476 : Dn cL_law 476 (.iadd) 1 477 := ⟨by decide +kernel, rfl⟩
theorem eL_law_477 : Dn cL_law 477 (.iaload) 1 478 := ⟨by decide +kernel, rfl⟩
theorem eL_law_478 : Dn cL_law 478 (.aload_n 0) 1 479 := ⟨by decide +kernel, rfl⟩
theorem eL_law_479 : Dn cL_law 479 (.iload_n 3) 1 480 := ⟨by decide +kernel, rfl⟩
theorem eL_law_480 : Dn cL_law 480 (.iconst 2) 1 481 := ⟨by decide +kernel, rfl⟩
theorem eL_law_481 : Dn cL_law 481 (.iadd) 1 482 := ⟨by decide +kernel, rfl⟩
theorem eL_law_482 : Dn cL_law 482 (.iaload) 1 483 := ⟨by decide +kernel, rfl⟩
theorem eL_law_483 : Dn cL_law 483 (.aload_n 0) 1 484 := ⟨by decide +kernel, rfl⟩
theorem eL_law_484 : Dn cL_law 484 (.iload_n 3) 1 485 := ⟨by decide +kernel, rfl⟩
theorem eL_law_485 : Dn cL_law 485 (.iconst 3) 1 486 := ⟨by decide +kernel, rfl⟩
theorem eL_law_486 : Dn cL_law 486 (.iadd) 1 487 := ⟨by decide +kernel, rfl⟩
theorem eL_law_487 : Dn cL_law 487 (.iaload) 1 488 := ⟨by decide +kernel, rfl⟩
theorem eL_law_488 : Dn cL_law 488 (.ifCond .eq 7) 3 491 := ⟨by decide +kernel, rfl⟩
theorem eL_law_491 : Dn cL_law 491 (.iconst 1) 1 492 := ⟨by decide +kernel, rfl⟩
theorem eL_law_492 : Dn cL_law 492 (.goto 4) 3 495 := ⟨by decide +kernel, rfl⟩
theorem eL_law_495 : Dn cL_law 495 (.iconst 0) 1 496 := ⟨by decide +kernel, rfl⟩
theorem eL_law_496 : Dn cL_law 496 (.invokevirtual 60) 3 499 := ⟨by decide +kernel, rfl⟩
theorem eL_law_499 : Dn cL_law 499 (.if_icmp .eq 644) 3 502 := ⟨by decide +kernel, rfl⟩
theorem eL_law_502 : Dn cL_law 502 (.iconst 0) 1 503 := ⟨by decide +kernel, rfl⟩
theorem eL_law_503 : Dn cL_law 503 (.ireturn) 1 504 := ⟨by decide +kernel, rfl⟩
theorem eL_law_504 : Dn cL_law 504 (.aload_n 1) 1 505 := ⟨by decide +kernel, rfl⟩
theorem eL_law_505 : Dn cL_law 505 (.aload_n 0) 1 506 := ⟨by decide +kernel, rfl⟩
theorem eL_law_506 : Dn cL_law 506 (.iload_n 3) 1 507 := ⟨by decide +kernel, rfl⟩
theorem eL_law_507 : Dn cL_law 507 (.iconst 1) 1 508 := ⟨by decide +kernel, rfl⟩
theorem eL_law_508 : Dn cL_law 508 (.iadd) 1 509 := ⟨by decide +kernel, rfl⟩
theorem eL_law_509 : Dn cL_law 509 (.iaload) 1 510 := ⟨by decide +kernel, rfl⟩
theorem eL_law_510 : Dn cL_law 510 (.aload_n 0) 1 511 := ⟨by decide +kernel, rfl⟩
theorem eL_law_511 : Dn cL_law 511 (.iload_n 3) 1 512 := ⟨by decide +kernel, rfl⟩
theorem eL_law_512 : Dn cL_law 512 (.iconst 2) 1 513 := ⟨by decide +kernel, rfl⟩
theorem eL_law_513 : Dn cL_law 513 (.iadd) 1 514 := ⟨by decide +kernel, rfl⟩
theorem eL_law_514 : Dn cL_law 514 (.iaload) 1 515 := ⟨by decide +kernel, rfl⟩
theorem eL_law_515 : Dn cL_law 515 (.aload_n 0) 1 516 := ⟨by decide +kernel, rfl⟩
theorem eL_law_516 : Dn cL_law 516 (.iload_n 3) 1 517 := ⟨by decide +kernel, rfl⟩
theorem eL_law_517 : Dn cL_law 517 (.iconst 3) 1 518 := ⟨by decide +kernel, rfl⟩
theorem eL_law_518 : Dn cL_law 518 (.iadd) 1 519 := ⟨by decide +kernel, rfl⟩
theorem eL_law_519 : Dn cL_law 519 (.iaload) 1 520 := ⟨by decide +kernel, rfl⟩
theorem eL_law_520 : Dn cL_law 520 (.invokevirtual 61) 3 523 := ⟨by decide +kernel, rfl⟩
theorem eL_law_523 : Dn cL_law 523 (.aload_n 2) 1 524 := ⟨by decide +kernel, rfl⟩
theorem eL_law_524 : Dn cL_law 524 (.aload_n 0) 1 525 := ⟨by decide +kernel, rfl⟩
theorem eL_law_525 : Dn cL_law 525 (.iload_n 3) 1 526 := ⟨by decide +kernel, rfl⟩
theorem eL_law_526 : Dn cL_law 526 (.iconst 1) 1 527 := ⟨by decide +kernel, rfl⟩
theorem eL_law_527 : Dn cL_law 527 (.iadd) 1 528 := ⟨by decide +kernel, rfl⟩
theorem eL_law_528 : Dn cL_law 528 (.iaload) 1 529 := ⟨by decide +kernel, rfl⟩
theorem eL_law_529 : Dn cL_law 529 (.aload_n 0) 1 530 := ⟨by decide +kernel, rfl⟩
theorem eL_law_530 : Dn cL_law 530 (.iload_n 3) 1 531 := ⟨by decide +kernel, rfl⟩
theorem eL_law_531 : Dn cL_law 531 (.iconst 2) 1 532 := ⟨by decide +kernel, rfl⟩
theorem eL_law_532 : Dn cL_law 532 (.iadd) 1 533 := ⟨by decide +kernel, rfl⟩
theorem eL_law_533 : Dn cL_law 533 (.iaload) 1 534 := ⟨by decide +kernel, rfl⟩
theorem eL_law_534 : Dn cL_law 534 (.aload_n 0) 1 535 := ⟨by decide +kernel, rfl⟩
theorem eL_law_535 : Dn cL_law 535 (.iload_n 3) 1 536 := ⟨by decide +kernel, rfl⟩
theorem eL_law_536 : Dn cL_law 536 (.iconst 3) 1 537 := ⟨by decide +kernel, rfl⟩
theorem eL_law_537 : Dn cL_law 537 (.iadd) 1 538 := ⟨by decide +kernel, rfl⟩
theorem eL_law_538 : Dn cL_law 538 (.iaload) 1 539 := ⟨by decide +kernel, rfl⟩
theorem eL_law_539 : Dn cL_law 539 (.invokevirtual 65) 3 542 := ⟨by decide +kernel, rfl⟩
theorem eL_law_542 : Dn cL_law 542 (.if_icmp .eq 601) 3 545 := ⟨by decide +kernel, rfl⟩
theorem eL_law_545 : Dn cL_law 545 (.iconst 0) 1 546 := ⟨by decide +kernel, rfl⟩
theorem eL_law_546 : Dn cL_law 546 (.ireturn) 1 547 := ⟨by decide +kernel, rfl⟩
theorem eL_law_547 : Dn cL_law 547 (.aload_n 1) 1 548 := ⟨by decide +kernel, rfl⟩
theorem eL_law_548 : Dn cL_law 548 (.aload_n 0) 1 549 := ⟨by decide +kernel, rfl⟩
theorem eL_law_549 : Dn cL_law 549 (.iload_n 3) 1 550 := ⟨by decide +kernel, rfl⟩
theorem eL_law_550 : Dn cL_law 550 (.iconst 1) 1 551 := ⟨by decide +kernel, rfl⟩
theorem eL_law_551 : Dn cL_law 551 (.iadd) 1 552 := ⟨by decide +kernel, rfl⟩
theorem eL_law_552 : Dn cL_law 552 (.iaload) 1 553 := ⟨by decide +kernel, rfl⟩
theorem eL_law_553 : Dn cL_law 553 (.aload_n 0) 1 554 := ⟨by decide +kernel, rfl⟩
theorem eL_law_554 : Dn cL_law 554 (.iload_n 3) 1 555 := ⟨by decide +kernel, rfl⟩
theorem eL_law_555 : Dn cL_law 555 (.iconst 2) 1 556 := ⟨by decide +kernel, rfl⟩
theorem eL_law_556 : Dn cL_law 556 (.iadd) 1 557 := ⟨by decide +kernel, rfl⟩
theorem eL_law_557 : Dn cL_law 557 (.iaload) 1 558 := ⟨by decide +kernel, rfl⟩
theorem eL_law_558 : Dn cL_law 558 (.aload_n 0) 1 559 := ⟨by decide +kernel, rfl⟩
theorem eL_law_559 : Dn cL_law 559 (.iload_n 3) 1 560 := ⟨by decide +kernel, rfl⟩
theorem eL_law_560 : Dn cL_law 560 (.iconst 3) 1 561 := ⟨by decide +kernel, rfl⟩
theorem eL_law_561 : Dn cL_law 561 (.iadd) 1 562 := ⟨by decide +kernel, rfl⟩
theorem eL_law_562 : Dn cL_law 562 (.iaload) 1 563 := ⟨by decide +kernel, rfl⟩
theorem eL_law_563 : Dn cL_law 563 (.aload_n 0) 1 564 := ⟨by decide +kernel, rfl⟩
theorem eL_law_564 : Dn cL_law 564 (.iload_n 3) 1 565 := ⟨by decide +kernel, rfl⟩
theorem eL_law_565 : Dn cL_law 565 (.iconst 4) 1 566 := ⟨by decide +kernel, rfl⟩
theorem eL_law_566 : Dn cL_law 566 (.iadd) 1 567 := ⟨by decide +kernel, rfl⟩
theorem eL_law_567 : Dn cL_law 567 (.iaload) 1 568 := ⟨by decide +kernel, rfl⟩
theorem eL_law_568 : Dn cL_law 568 (.invokevirtual 66) 3 571 := ⟨by decide +kernel, rfl⟩
theorem eL_law_571 : Dn cL_law 571 (.aload_n 2) 1 572 := ⟨by decide +kernel, rfl⟩
theorem eL_law_572 : Dn cL_law 572 (.aload_n 0) 1 573 := ⟨by decide +kernel, rfl⟩
theorem eL_law_573 : Dn cL_law 573 (.iload_n 3) 1 574 := ⟨by decide +kernel, rfl⟩
theorem eL_law_574 : Dn cL_law 574 (.iconst 1) 1 575 := ⟨by decide +kernel, rfl⟩
theorem eL_law_575 : Dn cL_law 575 (.iadd) 1 576 := ⟨by decide +kernel, rfl⟩
theorem eL_law_576 : Dn cL_law 576 (.iaload) 1 577 := ⟨by decide +kernel, rfl⟩
theorem eL_law_577 : Dn cL_law 577 (.aload_n 0) 1 578 := ⟨by decide +kernel, rfl⟩
theorem eL_law_578 : Dn cL_law 578 (.iload_n 3) 1 579 := ⟨by decide +kernel, rfl⟩
theorem eL_law_579 : Dn cL_law 579 (.iconst 2) 1 580 := ⟨by decide +kernel, rfl⟩
theorem eL_law_580 : Dn cL_law 580 (.iadd) 1 581 := ⟨by decide +kernel, rfl⟩
theorem eL_law_581 : Dn cL_law 581 (.iaload) 1 582 := ⟨by decide +kernel, rfl⟩
theorem eL_law_582 : Dn cL_law 582 (.aload_n 0) 1 583 := ⟨by decide +kernel, rfl⟩
theorem eL_law_583 : Dn cL_law 583 (.iload_n 3) 1 584 := ⟨by decide +kernel, rfl⟩
theorem eL_law_584 : Dn cL_law 584 (.iconst 3) 1 585 := ⟨by decide +kernel, rfl⟩
theorem eL_law_585 : Dn cL_law 585 (.iadd) 1 586 := ⟨by decide +kernel, rfl⟩
theorem eL_law_586 : Dn cL_law 586 (.iaload) 1 587 := ⟨by decide +kernel, rfl⟩
theorem eL_law_587 : Dn cL_law 587 (.aload_n 0) 1 588 := ⟨by decide +kernel, rfl⟩
theorem eL_law_588 : Dn cL_law 588 (.iload_n 3) 1 589 := ⟨by decide +kernel, rfl⟩
theorem eL_law_589 : Dn cL_law 589 (.iconst 4) 1 590 := ⟨by decide +kernel, rfl⟩
theorem eL_law_590 : Dn cL_law 590 (.iadd) 1 591 := ⟨by decide +kernel, rfl⟩
theorem eL_law_591 : Dn cL_law 591 (.iaload) 1 592 := ⟨by decide +kernel, rfl⟩
theorem eL_law_592 : Dn cL_law 592 (.invokevirtual 70) 3 595 := ⟨by decide +kernel, rfl⟩
theorem eL_law_595 : Dn cL_law 595 (.if_icmp .eq 548) 3 598 := ⟨by decide +kernel, rfl⟩
theorem eL_law_598 : Dn cL_law 598 (.iconst 0) 1 599 := ⟨by decide +kernel, rfl⟩
theorem eL_law_599 : Dn cL_law 599 (.ireturn) 1 600 := ⟨by decide +kernel, rfl⟩
theorem eL_law_600 : Dn cL_law 600 (.aload_n 1) 1 601 := ⟨by decide +kernel, rfl⟩
theorem eL_law_601 : Dn cL_law 601 (.aload_n 0) 1 602 := ⟨by decide +kernel, rfl⟩
theorem eL_law_602 : Dn cL_law 602 (.iload_n 3) 1 603 := ⟨by decide +kernel, rfl⟩
theorem eL_law_603 : Dn cL_law 603 (.iconst 1) 1 604 := ⟨by decide +kernel, rfl⟩
theorem eL_law_604 : Dn cL_law 604 (.iadd) 1 605 := ⟨by decide +kernel, rfl⟩
theorem eL_law_605 : Dn cL_law 605 (.iaload) 1 606 := ⟨by decide +kernel, rfl⟩
theorem eL_law_606 : Dn cL_law 606 (.aload_n 0) 1 607 := ⟨by decide +kernel, rfl⟩
theorem eL_law_607 : Dn cL_law 607 (.iload_n 3) 1 608 := ⟨by decide +kernel, rfl⟩
theorem eL_law_608 : Dn cL_law 608 (.iconst 2) 1 609 := ⟨by decide +kernel, rfl⟩
theorem eL_law_609 : Dn cL_law 609 (.iadd) 1 610 := ⟨by decide +kernel, rfl⟩
theorem eL_law_610 : Dn cL_law 610 (.iaload) 1 611 := ⟨by decide +kernel, rfl⟩
theorem eL_law_611 : Dn cL_law 611 (.invokevirtual 71) 3 614 := ⟨by decide +kernel, rfl⟩
theorem eL_law_614 : Dn cL_law 614 (.aload_n 2) 1 615 := ⟨by decide +kernel, rfl⟩
theorem eL_law_615 : Dn cL_law 615 (.aload_n 0) 1 616 := ⟨by decide +kernel, rfl⟩
theorem eL_law_616 : Dn cL_law 616 (.iload_n 3) 1 617 := ⟨by decide +kernel, rfl⟩
theorem eL_law_617 : Dn cL_law 617 (.iconst 1) 1 618 := ⟨by decide +kernel, rfl⟩
theorem eL_law_618 : Dn cL_law 618 (.iadd) 1 619 := ⟨by decide +kernel, rfl⟩
theorem eL_law_619 : Dn cL_law 619 (.iaload) 1 620 := ⟨by decide +kernel, rfl⟩
theorem eL_law_620 : Dn cL_law 620 (.aload_n 0) 1 621 := ⟨by decide +kernel, rfl⟩
theorem eL_law_621 : Dn cL_law 621 (.iload_n 3) 1 622 := ⟨by decide +kernel, rfl⟩
theorem eL_law_622 : Dn cL_law 622 (.iconst 2) 1 623 := ⟨by decide +kernel, rfl⟩
theorem eL_law_623 : Dn cL_law 623 (.iadd) 1 624 := ⟨by decide +kernel, rfl⟩
theorem eL_law_624 : Dn cL_law 624 (.iaload) 1 625 := ⟨by decide +kernel, rfl⟩
theorem eL_law_625 : Dn cL_law 625 (.invokevirtual 74) 3 628 := ⟨by decide +kernel, rfl⟩
theorem eL_law_628 : Dn cL_law 628 (.if_icmp .eq 515) 3 631 := ⟨by decide +kernel, rfl⟩
theorem eL_law_631 : Dn cL_law 631 (.iconst 0) 1 632 := ⟨by decide +kernel, rfl⟩
theorem eL_law_632 : Dn cL_law 632 (.ireturn) 1 633 := ⟨by decide +kernel, rfl⟩
theorem eL_law_633 : Dn cL_law 633 (.aload_n 1) 1 634 := ⟨by decide +kernel, rfl⟩
theorem eL_law_634 : Dn cL_law 634 (.aload_n 0) 1 635 := ⟨by decide +kernel, rfl⟩
theorem eL_law_635 : Dn cL_law 635 (.iload_n 3) 1 636 := ⟨by decide +kernel, rfl⟩
theorem eL_law_636 : Dn cL_law 636 (.iconst 1) 1 637 := ⟨by decide +kernel, rfl⟩
theorem eL_law_637 : Dn cL_law 637 (.iadd) 1 638 := ⟨by decide +kernel, rfl⟩
theorem eL_law_638 : Dn cL_law 638 (.iaload) 1 639 := ⟨by decide +kernel, rfl⟩
theorem eL_law_639 : Dn cL_law 639 (.aload_n 0) 1 640 := ⟨by decide +kernel, rfl⟩
theorem eL_law_640 : Dn cL_law 640 (.iload_n 3) 1 641 := ⟨by decide +kernel, rfl⟩
theorem eL_law_641 : Dn cL_law 641 (.iconst 2) 1 642 := ⟨by decide +kernel, rfl⟩
theorem eL_law_642 : Dn cL_law 642 (.iadd) 1 643 := ⟨by decide +kernel, rfl⟩
theorem eL_law_643 : Dn cL_law 643 (.iaload) 1 644 := ⟨by decide +kernel, rfl⟩
theorem eL_law_644 : Dn cL_law 644 (.aload_n 0) 1 645 := ⟨by decide +kernel, rfl⟩
theorem eL_law_645 : Dn cL_law 645 (.iload_n 3) 1 646 := ⟨by decide +kernel, rfl⟩
theorem eL_law_646 : Dn cL_law 646 (.iconst 3) 1 647 := ⟨by decide +kernel, rfl⟩
theorem eL_law_647 : Dn cL_law 647 (.iadd) 1 648 := ⟨by decide +kernel, rfl⟩
theorem eL_law_648 : Dn cL_law 648 (.iaload) 1 649 := ⟨by decide +kernel, rfl⟩
theorem eL_law_649 : Dn cL_law 649 (.aload_n 0) 1 650 := ⟨by decide +kernel, rfl⟩
theorem eL_law_650 : Dn cL_law 650 (.iload_n 3) 1 651 := ⟨by decide +kernel, rfl⟩
theorem eL_law_651 : Dn cL_law 651 (.iconst 4) 1 652 := ⟨by decide +kernel, rfl⟩
theorem eL_law_652 : Dn cL_law 652 (.iadd) 1 653 := ⟨by decide +kernel, rfl⟩
theorem eL_law_653 : Dn cL_law 653 (.iaload) 1 654 := ⟨by decide +kernel, rfl⟩
theorem eL_law_654 : Dn cL_law 654 (.ifCond .eq 7) 3 657 := ⟨by decide +kernel, rfl⟩
theorem eL_law_657 : Dn cL_law 657 (.iconst 1) 1 658 := ⟨by decide +kernel, rfl⟩
theorem eL_law_658 : Dn cL_law 658 (.goto 4) 3 661 := ⟨by decide +kernel, rfl⟩
theorem eL_law_661 : Dn cL_law 661 (.iconst 0) 1 662 := ⟨by decide +kernel, rfl⟩
theorem eL_law_662 : Dn cL_law 662 (.invokevirtual 75) 3 665 := ⟨by decide +kernel, rfl⟩
theorem eL_law_665 : Dn cL_law 665 (.aload_n 2) 1 666 := ⟨by decide +kernel, rfl⟩
theorem eL_law_666 : Dn cL_law 666 (.aload_n 0) 1 667 := ⟨by decide +kernel, rfl⟩
theorem eL_law_667 : Dn cL_law 667 (.iload_n 3) 1 668 := ⟨by decide +kernel, rfl⟩
theorem eL_law_668 : Dn cL_law 668 (.iconst 1) 1 669 := ⟨by decide +kernel, rfl⟩
theorem eL_law_669 : Dn cL_law 669 (.iadd) 1 670 := ⟨by decide +kernel, rfl⟩
theorem eL_law_670 : Dn cL_law 670 (.iaload) 1 671 := ⟨by decide +kernel, rfl⟩
theorem eL_law_671 : Dn cL_law 671 (.aload_n 0) 1 672 := ⟨by decide +kernel, rfl⟩
theorem eL_law_672 : Dn cL_law 672 (.iload_n 3) 1 673 := ⟨by decide +kernel, rfl⟩
theorem eL_law_673 : Dn cL_law 673 (.iconst 2) 1 674 := ⟨by decide +kernel, rfl⟩
theorem eL_law_674 : Dn cL_law 674 (.iadd) 1 675 := ⟨by decide +kernel, rfl⟩
theorem eL_law_675 : Dn cL_law 675 (.iaload) 1 676 := ⟨by decide +kernel, rfl⟩
theorem eL_law_676 : Dn cL_law 676 (.aload_n 0) 1 677 := ⟨by decide +kernel, rfl⟩
theorem eL_law_677 : Dn cL_law 677 (.iload_n 3) 1 678 := ⟨by decide +kernel, rfl⟩
theorem eL_law_678 : Dn cL_law 678 (.iconst 3) 1 679 := ⟨by decide +kernel, rfl⟩
theorem eL_law_679 : Dn cL_law 679 (.iadd) 1 680 := ⟨by decide +kernel, rfl⟩
theorem eL_law_680 : Dn cL_law 680 (.iaload) 1 681 := ⟨by decide +kernel, rfl⟩
theorem eL_law_681 : Dn cL_law 681 (.aload_n 0) 1 682 := ⟨by decide +kernel, rfl⟩
theorem eL_law_682 : Dn cL_law 682 (.iload_n 3) 1 683 := ⟨by decide +kernel, rfl⟩
theorem eL_law_683 : Dn cL_law 683 (.iconst 4) 1 684 := ⟨by decide +kernel, rfl⟩
theorem eL_law_684 : Dn cL_law 684 (.iadd) 1 685 := ⟨by decide +kernel, rfl⟩
theorem eL_law_685 : Dn cL_law 685 (.iaload) 1 686 := ⟨by decide +kernel, rfl⟩
theorem eL_law_686 : Dn cL_law 686 (.ifCond .eq 7) 3 689 := ⟨by decide +kernel, rfl⟩
theorem eL_law_689 : Dn cL_law 689 (.iconst 1) 1 690 := ⟨by decide +kernel, rfl⟩
theorem eL_law_690 : Dn cL_law 690 (.goto 4) 3 693 := ⟨by decide +kernel, rfl⟩
theorem eL_law_693 : Dn cL_law 693 (.iconst 0) 1 694 := ⟨by decide +kernel, rfl⟩
theorem eL_law_694 : Dn cL_law 694 (.invokevirtual 79) 3 697 := ⟨by decide +kernel, rfl⟩
theorem eL_law_697 : Dn cL_law 697 (.if_icmp .eq 446) 3 700 := ⟨by decide +kernel, rfl⟩
theorem eL_law_700 : Dn cL_law 700 (.iconst 0) 1 701 := ⟨by decide +kernel, rfl⟩
theorem eL_law_701 : Dn cL_law 701 (.ireturn) 1 702 := ⟨by decide +kernel, rfl⟩
theorem eL_law_702 : Dn cL_law 702 (.aload_n 1) 1 703 := ⟨by decide +kernel, rfl⟩
theorem eL_law_703 : Dn cL_law 703 (.aload_n 0) 1 704 := ⟨by decide +kernel, rfl⟩
theorem eL_law_704 : Dn cL_law 704 (.iload_n 3) 1 705 := ⟨by decide +kernel, rfl⟩
theorem eL_law_705 : Dn cL_law 705 (.iconst 1) 1 706 := ⟨by decide +kernel, rfl⟩
theorem eL_law_706 : Dn cL_law 706 (.iadd) 1 707 := ⟨by decide +kernel, rfl⟩
theorem eL_law_707 : Dn cL_law 707 (.iaload) 1 708 := ⟨by decide +kernel, rfl⟩
theorem eL_law_708 : Dn cL_law 708 (.invokevirtual 80) 3 711 := ⟨by decide +kernel, rfl⟩
theorem eL_law_711 : Dn cL_law 711 (.aload_n 2) 1 712 := ⟨by decide +kernel, rfl⟩
theorem eL_law_712 : Dn cL_law 712 (.aload_n 0) 1 713 := ⟨by decide +kernel, rfl⟩
theorem eL_law_713 : Dn cL_law 713 (.iload_n 3) 1 714 := ⟨by decide +kernel, rfl⟩
theorem eL_law_714 : Dn cL_law 714 (.iconst 1) 1 715 := ⟨by decide +kernel, rfl⟩
theorem eL_law_715 : Dn cL_law 715 (.iadd) 1 716 := ⟨by decide +kernel, rfl⟩
theorem eL_law_716 : Dn cL_law 716 (.iaload) 1 717 := ⟨by decide +kernel, rfl⟩
theorem eL_law_717 : Dn cL_law 717 (.invokevirtual 83) 3 720 := ⟨by decide +kernel, rfl⟩
theorem eL_law_720 : Dn cL_law 720 (.if_icmp .eq 423) 3 723 := ⟨by decide +kernel, rfl⟩
theorem eL_law_723 : Dn cL_law 723 (.iconst 0) 1 724 := ⟨by decide +kernel, rfl⟩
theorem eL_law_724 : Dn cL_law 724 (.ireturn) 1 725 := ⟨by decide +kernel, rfl⟩
theorem eL_law_725 : Dn cL_law 725 (.aload_n 1) 1 726 := ⟨by decide +kernel, rfl⟩
theorem eL_law_726 : Dn cL_law 726 (.aload_n 0) 1 727 := ⟨by decide +kernel, rfl⟩
theorem eL_law_727 : Dn cL_law 727 (.iload_n 3) 1 728 := ⟨by decide +kernel, rfl⟩
theorem eL_law_728 : Dn cL_law 728 (.iconst 1) 1 729 := ⟨by decide +kernel, rfl⟩
theorem eL_law_729 : Dn cL_law 729 (.iadd) 1 730 := ⟨by decide +kernel, rfl⟩
theorem eL_law_730 : Dn cL_law 730 (.iaload) 1 731 := ⟨by decide +kernel, rfl⟩
theorem eL_law_731 : Dn cL_law 731 (.invokevirtual 84) 3 734 := ⟨by decide +kernel, rfl⟩
theorem eL_law_734 : Dn cL_law 734 (.aload_n 2) 1 735 := ⟨by decide +kernel, rfl⟩
theorem eL_law_735 : Dn cL_law 735 (.aload_n 0) 1 736 := ⟨by decide +kernel, rfl⟩
theorem eL_law_736 : Dn cL_law 736 (.iload_n 3) 1 737 := ⟨by decide +kernel, rfl⟩
theorem eL_law_737 : Dn cL_law 737 (.iconst 1) 1 738 := ⟨by decide +kernel, rfl⟩
theorem eL_law_738 : Dn cL_law 738 (.iadd) 1 739 := ⟨by decide +kernel, rfl⟩
theorem eL_law_739 : Dn cL_law 739 (.iaload) 1 740 := ⟨by decide +kernel, rfl⟩
theorem eL_law_740 : Dn cL_law 740 (.invokevirtual 87) 3 743 := ⟨by decide +kernel, rfl⟩
theorem eL_law_743 : Dn cL_law 743 (.if_icmp .eq 400) 3 746 := ⟨by decide +kernel, rfl⟩
theorem eL_law_746 : Dn cL_law 746 (.iconst 0) 1 747 := ⟨by decide +kernel, rfl⟩
theorem eL_law_747 : Dn cL_law 747 (.ireturn) 1 748 := ⟨by decide +kernel, rfl⟩
theorem eL_law_748 : Dn cL_law 748 (.aload_n 1) 1 749 := ⟨by decide +kernel, rfl⟩
theorem eL_law_749 : Dn cL_law 749 (.aload_n 0) 1 750 := ⟨by decide +kernel, rfl⟩
theorem eL_law_750 : Dn cL_law 750 (.iload_n 3) 1 751 := ⟨by decide +kernel, rfl⟩
theorem eL_law_751 : Dn cL_law 751 (.iconst 1) 1 752 := ⟨by decide +kernel, rfl⟩
theorem eL_law_752 : Dn cL_law 752 (.iadd) 1 753 := ⟨by decide +kernel, rfl⟩
theorem eL_law_753 : Dn cL_law 753 (.iaload) 1 754 := ⟨by decide +kernel, rfl⟩
theorem eL_law_754 : Dn cL_law 754 (.aload_n 0) 1 755 := ⟨by decide +kernel, rfl⟩
theorem eL_law_755 : Dn cL_law 755 (.iload_n 3) 1 756 := ⟨by decide +kernel, rfl⟩
theorem eL_law_756 : Dn cL_law 756 (.iconst 2) 1 757 := ⟨by decide +kernel, rfl⟩
theorem eL_law_757 : Dn cL_law 757 (.iadd) 1 758 := ⟨by decide +kernel, rfl⟩
theorem eL_law_758 : Dn cL_law 758 (.iaload) 1 759 := ⟨by decide +kernel, rfl⟩
theorem eL_law_759 : Dn cL_law 759 (.invokevirtual 88) 3 762 := ⟨by decide +kernel, rfl⟩
theorem eL_law_762 : Dn cL_law 762 (.aload_n 2) 1 763 := ⟨by decide +kernel, rfl⟩
theorem eL_law_763 : Dn cL_law 763 (.aload_n 0) 1 764 := ⟨by decide +kernel, rfl⟩
theorem eL_law_764 : Dn cL_law 764 (.iload_n 3) 1 765 := ⟨by decide +kernel, rfl⟩
theorem eL_law_765 : Dn cL_law 765 (.iconst 1) 1 766 := ⟨by decide +kernel, rfl⟩
theorem eL_law_766 : Dn cL_law 766 (.iadd) 1 767 := ⟨by decide +kernel, rfl⟩
theorem eL_law_767 : Dn cL_law 767 (.iaload) 1 768 := ⟨by decide +kernel, rfl⟩
theorem eL_law_768 : Dn cL_law 768 (.aload_n 0) 1 769 := ⟨by decide +kernel, rfl⟩
theorem eL_law_769 : Dn cL_law 769 (.iload_n 3) 1 770 := ⟨by decide +kernel, rfl⟩
theorem eL_law_770 : Dn cL_law 770 (.iconst 2) 1 771 := ⟨by decide +kernel, rfl⟩
theorem eL_law_771 : Dn cL_law 771 (.iadd) 1 772 := ⟨by decide +kernel, rfl⟩
theorem eL_law_772 : Dn cL_law 772 (.iaload) 1 773 := ⟨by decide +kernel, rfl⟩
theorem eL_law_773 : Dn cL_law 773 (.invokevirtual 91) 3 776 := ⟨by decide +kernel, rfl⟩
theorem eL_law_776 : Dn cL_law 776 (.if_icmp .eq 367) 3 779 := ⟨by decide +kernel, rfl⟩
theorem eL_law_779 : Dn cL_law 779 (.iconst 0) 1 780 := ⟨by decide +kernel, rfl⟩
theorem eL_law_780 : Dn cL_law 780 (.ireturn) 1 781 := ⟨by decide +kernel, rfl⟩
theorem eL_law_781 : Dn cL_law 781 (.aload_n 1) 1 782 := ⟨by decide +kernel, rfl⟩
theorem eL_law_782 : Dn cL_law 782 (.aload_n 0) 1 783 := ⟨by decide +kernel, rfl⟩
theorem eL_law_783 : Dn cL_law 783 (.iload_n 3) 1 784 := ⟨by decide +kernel, rfl⟩
theorem eL_law_784 : Dn cL_law 784 (.iconst 1) 1 785 := ⟨by decide +kernel, rfl⟩
theorem eL_law_785 : Dn cL_law 785 (.iadd) 1 786 := ⟨by decide +kernel, rfl⟩
theorem eL_law_786 : Dn cL_law 786 (.iaload) 1 787 := ⟨by decide +kernel, rfl⟩
theorem eL_law_787 : Dn cL_law 787 (.invokevirtual 92) 3 790 := ⟨by decide +kernel, rfl⟩
theorem eL_law_790 : Dn cL_law 790 (.aload_n 2) 1 791 := ⟨by decide +kernel, rfl⟩
theorem eL_law_791 : Dn cL_law 791 (.aload_n 0) 1 792 := ⟨by decide +kernel, rfl⟩
theorem eL_law_792 : Dn cL_law 792 (.iload_n 3) 1 793 := ⟨by decide +kernel, rfl⟩
theorem eL_law_793 : Dn cL_law 793 (.iconst 1) 1 794 := ⟨by decide +kernel, rfl⟩
theorem eL_law_794 : Dn cL_law 794 (.iadd) 1 795 := ⟨by decide +kernel, rfl⟩
theorem eL_law_795 : Dn cL_law 795 (.iaload) 1 796 := ⟨by decide +kernel, rfl⟩
theorem eL_law_796 : Dn cL_law 796 (.invokevirtual 95) 3 799 := ⟨by decide +kernel, rfl⟩
theorem eL_law_799 : Dn cL_law 799 (.if_icmp .eq 344) 3 802 := ⟨by decide +kernel, rfl⟩
theorem eL_law_802 : Dn cL_law 802 (.iconst 0) 1 803 := ⟨by decide +kernel, rfl⟩
theorem eL_law_803 : Dn cL_law 803 (.ireturn) 1 804 := ⟨by decide +kernel, rfl⟩
theorem eL_law_804 : Dn cL_law 804 (.aload_n 1) 1 805 := ⟨by decide +kernel, rfl⟩
theorem eL_law_805 : Dn cL_law 805 (.aload_n 0) 1 806 := ⟨by decide +kernel, rfl⟩
theorem eL_law_806 : Dn cL_law 806 (.iload_n 3) 1 807 := ⟨by decide +kernel, rfl⟩
theorem eL_law_807 : Dn cL_law 807 (.iconst 1) 1 808 := ⟨by decide +kernel, rfl⟩
theorem eL_law_808 : Dn cL_law 808 (.iadd) 1 809 := ⟨by decide +kernel, rfl⟩
theorem eL_law_809 : Dn cL_law 809 (.iaload) 1 810 := ⟨by decide +kernel, rfl⟩
theorem eL_law_810 : Dn cL_law 810 (.aload_n 0) 1 811 := ⟨by decide +kernel, rfl⟩
theorem eL_law_811 : Dn cL_law 811 (.iload_n 3) 1 812 := ⟨by decide +kernel, rfl⟩
theorem eL_law_812 : Dn cL_law 812 (.iconst 2) 1 813 := ⟨by decide +kernel, rfl⟩
theorem eL_law_813 : Dn cL_law 813 (.iadd) 1 814 := ⟨by decide +kernel, rfl⟩
theorem eL_law_814 : Dn cL_law 814 (.iaload) 1 815 := ⟨by decide +kernel, rfl⟩
theorem eL_law_815 : Dn cL_law 815 (.invokevirtual 96) 3 818 := ⟨by decide +kernel, rfl⟩
theorem eL_law_818 : Dn cL_law 818 (.aload_n 2) 1 819 := ⟨by decide +kernel, rfl⟩
theorem eL_law_819 : Dn cL_law 819 (.aload_n 0) 1 820 := ⟨by decide +kernel, rfl⟩
theorem eL_law_820 : Dn cL_law 820 (.iload_n 3) 1 821 := ⟨by decide +kernel, rfl⟩
theorem eL_law_821 : Dn cL_law 821 (.iconst 1) 1 822 := ⟨by decide +kernel, rfl⟩
theorem eL_law_822 : Dn cL_law 822 (.iadd) 1 823 := ⟨by decide +kernel, rfl⟩
theorem eL_law_823 : Dn cL_law 823 (.iaload) 1 824 := ⟨by decide +kernel, rfl⟩
theorem eL_law_824 : Dn cL_law 824 (.aload_n 0) 1 825 := ⟨by decide +kernel, rfl⟩
theorem eL_law_825 : Dn cL_law 825 (.iload_n 3) 1 826 := ⟨by decide +kernel, rfl⟩
theorem eL_law_826 : Dn cL_law 826 (.iconst 2) 1 827 := ⟨by decide +kernel, rfl⟩
theorem eL_law_827 : Dn cL_law 827 (.iadd) 1 828 := ⟨by decide +kernel, rfl⟩
theorem eL_law_828 : Dn cL_law 828 (.iaload) 1 829 := ⟨by decide +kernel, rfl⟩
theorem eL_law_829 : Dn cL_law 829 (.invokevirtual 99) 3 832 := ⟨by decide +kernel, rfl⟩
theorem eL_law_832 : Dn cL_law 832 (.if_icmp .eq 311) 3 835 := ⟨by decide +kernel, rfl⟩
theorem eL_law_835 : Dn cL_law 835 (.iconst 0) 1 836 := ⟨by decide +kernel, rfl⟩
theorem eL_law_836 : Dn cL_law 836 (.ireturn) 1 837 := ⟨by decide +kernel, rfl⟩
theorem eL_law_837 : Dn cL_law 837 (.aload_n 1) 1 838 := ⟨by decide +kernel, rfl⟩
theorem eL_law_838 : Dn cL_law 838 (.aload_n 0) 1 839 := ⟨by decide +kernel, rfl⟩
theorem eL_law_839 : Dn cL_law 839 (.iload_n 3) 1 840 := ⟨by decide +kernel, rfl⟩
theorem eL_law_840 : Dn cL_law 840 (.iconst 1) 1 841 := ⟨by decide +kernel, rfl⟩
theorem eL_law_841 : Dn cL_law 841 (.iadd) 1 842 := ⟨by decide +kernel, rfl⟩
theorem eL_law_842 : Dn cL_law 842 (.iaload) 1 843 := ⟨by decide +kernel, rfl⟩
theorem eL_law_843 : Dn cL_law 843 (.invokevirtual 100) 3 846 := ⟨by decide +kernel, rfl⟩
theorem eL_law_846 : Dn cL_law 846 (.aload_n 2) 1 847 := ⟨by decide +kernel, rfl⟩
theorem eL_law_847 : Dn cL_law 847 (.aload_n 0) 1 848 := ⟨by decide +kernel, rfl⟩
theorem eL_law_848 : Dn cL_law 848 (.iload_n 3) 1 849 := ⟨by decide +kernel, rfl⟩
theorem eL_law_849 : Dn cL_law 849 (.iconst 1) 1 850 := ⟨by decide +kernel, rfl⟩
theorem eL_law_850 : Dn cL_law 850 (.iadd) 1 851 := ⟨by decide +kernel, rfl⟩
theorem eL_law_851 : Dn cL_law 851 (.iaload) 1 852 := ⟨by decide +kernel, rfl⟩
theorem eL_law_852 : Dn cL_law 852 (.invokevirtual 103) 3 855 := ⟨by decide +kernel, rfl⟩
theorem eL_law_855 : Dn cL_law 855 (.if_icmp .eq 288) 3 858 := ⟨by decide +kernel, rfl⟩
theorem eL_law_858 : Dn cL_law 858 (.iconst 0) 1 859 := ⟨by decide +kernel, rfl⟩
theorem eL_law_859 : Dn cL_law 859 (.ireturn) 1 860 := ⟨by decide +kernel, rfl⟩
theorem eL_law_860 : Dn cL_law 860 (.aload_n 1) 1 861 := ⟨by decide +kernel, rfl⟩
theorem eL_law_861 : Dn cL_law 861 (.aload_n 0) 1 862 := ⟨by decide +kernel, rfl⟩
theorem eL_law_862 : Dn cL_law 862 (.iload_n 3) 1 863 := ⟨by decide +kernel, rfl⟩
theorem eL_law_863 : Dn cL_law 863 (.iconst 1) 1 864 := ⟨by decide +kernel, rfl⟩
theorem eL_law_864 : Dn cL_law 864 (.iadd) 1 865 := ⟨by decide +kernel, rfl⟩
theorem eL_law_865 : Dn cL_law 865 (.iaload) 1 866 := ⟨by decide +kernel, rfl⟩
theorem eL_law_866 : Dn cL_law 866 (.invokevirtual 104) 3 869 := ⟨by decide +kernel, rfl⟩
theorem eL_law_869 : Dn cL_law 869 (.aload_n 2) 1 870 := ⟨by decide +kernel, rfl⟩
theorem eL_law_870 : Dn cL_law 870 (.aload_n 0) 1 871 := ⟨by decide +kernel, rfl⟩
theorem eL_law_871 : Dn cL_law 871 (.iload_n 3) 1 872 := ⟨by decide +kernel, rfl⟩
theorem eL_law_872 : Dn cL_law 872 (.iconst 1) 1 873 := ⟨by decide +kernel, rfl⟩
theorem eL_law_873 : Dn cL_law 873 (.iadd) 1 874 := ⟨by decide +kernel, rfl⟩
theorem eL_law_874 : Dn cL_law 874 (.iaload) 1 875 := ⟨by decide +kernel, rfl⟩
theorem eL_law_875 : Dn cL_law 875 (.invokevirtual 107) 3 878 := ⟨by decide +kernel, rfl⟩
theorem eL_law_878 : Dn cL_law 878 (.if_icmp .eq 265) 3 881 := ⟨by decide +kernel, rfl⟩
theorem eL_law_881 : Dn cL_law 881 (.iconst 0) 1 882 := ⟨by decide +kernel, rfl⟩
theorem eL_law_882 : Dn cL_law 882 (.ireturn) 1 883 := ⟨by decide +kernel, rfl⟩
theorem eL_law_883 : Dn cL_law 883 (.aload_n 1) 1 884 := ⟨by decide +kernel, rfl⟩
theorem eL_law_884 : Dn cL_law 884 (.aload_n 0) 1 885 := ⟨by decide +kernel, rfl⟩
theorem eL_law_885 : Dn cL_law 885 (.iload_n 3) 1 886 := ⟨by decide +kernel, rfl⟩
theorem eL_law_886 : Dn cL_law 886 (.iconst 1) 1 887 := ⟨by decide +kernel, rfl⟩
theorem eL_law_887 : Dn cL_law 887 (.iadd) 1 888 := ⟨by decide +kernel, rfl⟩
theorem eL_law_888 : Dn cL_law 888 (.iaload) 1 889 := ⟨by decide +kernel, rfl⟩
theorem eL_law_889 : Dn cL_law 889 (.invokevirtual 108) 3 892 := ⟨by decide +kernel, rfl⟩
theorem eL_law_892 : Dn cL_law 892 (.aload_n 2) 1 893 := ⟨by decide +kernel, rfl⟩
theorem eL_law_893 : Dn cL_law 893 (.aload_n 0) 1 894 := ⟨by decide +kernel, rfl⟩
theorem eL_law_894 : Dn cL_law 894 (.iload_n 3) 1 895 := ⟨by decide +kernel, rfl⟩
theorem eL_law_895 : Dn cL_law 895 (.iconst 1) 1 896 := ⟨by decide +kernel, rfl⟩
theorem eL_law_896 : Dn cL_law 896 (.iadd) 1 897 := ⟨by decide +kernel, rfl⟩
theorem eL_law_897 : Dn cL_law 897 (.iaload) 1 898 := ⟨by decide +kernel, rfl⟩
theorem eL_law_898 : Dn cL_law 898 (.invokevirtual 111) 3 901 := ⟨by decide +kernel, rfl⟩
theorem eL_law_901 : Dn cL_law 901 (.if_icmp .eq 242) 3 904 := ⟨by decide +kernel, rfl⟩
theorem eL_law_904 : Dn cL_law 904 (.iconst 0) 1 905 := ⟨by decide +kernel, rfl⟩
theorem eL_law_905 : Dn cL_law 905 (.ireturn) 1 906 := ⟨by decide +kernel, rfl⟩
theorem eL_law_906 : Dn cL_law 906 (.aload_n 1) 1 907 := ⟨by decide +kernel, rfl⟩
theorem eL_law_907 : Dn cL_law 907 (.aload_n 0) 1 908 := ⟨by decide +kernel, rfl⟩
theorem eL_law_908 : Dn cL_law 908 (.iload_n 3) 1 909 := ⟨by decide +kernel, rfl⟩
theorem eL_law_909 : Dn cL_law 909 (.iconst 1) 1 910 := ⟨by decide +kernel, rfl⟩
theorem eL_law_910 : Dn cL_law 910 (.iadd) 1 911 := ⟨by decide +kernel, rfl⟩
theorem eL_law_911 : Dn cL_law 911 (.iaload) 1 912 := ⟨by decide +kernel, rfl⟩
theorem eL_law_912 : Dn cL_law 912 (.aload_n 0) 1 913 := ⟨by decide +kernel, rfl⟩
theorem eL_law_913 : Dn cL_law 913 (.iload_n 3) 1 914 := ⟨by decide +kernel, rfl⟩
theorem eL_law_914 : Dn cL_law 914 (.iconst 2) 1 915 := ⟨by decide +kernel, rfl⟩
theorem eL_law_915 : Dn cL_law 915 (.iadd) 1 916 := ⟨by decide +kernel, rfl⟩
theorem eL_law_916 : Dn cL_law 916 (.iaload) 1 917 := ⟨by decide +kernel, rfl⟩
theorem eL_law_917 : Dn cL_law 917 (.aload_n 0) 1 918 := ⟨by decide +kernel, rfl⟩
theorem eL_law_918 : Dn cL_law 918 (.iload_n 3) 1 919 := ⟨by decide +kernel, rfl⟩
theorem eL_law_919 : Dn cL_law 919 (.iconst 3) 1 920 := ⟨by decide +kernel, rfl⟩
theorem eL_law_920 : Dn cL_law 920 (.iadd) 1 921 := ⟨by decide +kernel, rfl⟩
theorem eL_law_921 : Dn cL_law 921 (.iaload) 1 922 := ⟨by decide +kernel, rfl⟩
theorem eL_law_922 : Dn cL_law 922 (.aload_n 0) 1 923 := ⟨by decide +kernel, rfl⟩
theorem eL_law_923 : Dn cL_law 923 (.iload_n 3) 1 924 := ⟨by decide +kernel, rfl⟩
theorem eL_law_924 : Dn cL_law 924 (.iconst 4) 1 925 := ⟨by decide +kernel, rfl⟩
theorem eL_law_925 : Dn cL_law 925 (.iadd) 1 926 := ⟨by decide +kernel, rfl⟩
theorem eL_law_926 : Dn cL_law 926 (.iaload) 1 927 := ⟨by decide +kernel, rfl⟩
theorem eL_law_927 : Dn cL_law 927 (.invokevirtual 112) 3 930 := ⟨by decide +kernel, rfl⟩
theorem eL_law_930 : Dn cL_law 930 (.aload_n 2) 1 931 := ⟨by decide +kernel, rfl⟩
theorem eL_law_931 : Dn cL_law 931 (.aload_n 0) 1 932 := ⟨by decide +kernel, rfl⟩
theorem eL_law_932 : Dn cL_law 932 (.iload_n 3) 1 933 := ⟨by decide +kernel, rfl⟩
theorem eL_law_933 : Dn cL_law 933 (.iconst 1) 1 934 := ⟨by decide +kernel, rfl⟩
theorem eL_law_934 : Dn cL_law 934 (.iadd) 1 935 := ⟨by decide +kernel, rfl⟩
theorem eL_law_935 : Dn cL_law 935 (.iaload) 1 936 := ⟨by decide +kernel, rfl⟩
theorem eL_law_936 : Dn cL_law 936 (.aload_n 0) 1 937 := ⟨by decide +kernel, rfl⟩
theorem eL_law_937 : Dn cL_law 937 (.iload_n 3) 1 938 := ⟨by decide +kernel, rfl⟩
theorem eL_law_938 : Dn cL_law 938 (.iconst 2) 1 939 := ⟨by decide +kernel, rfl⟩
theorem eL_law_939 : Dn cL_law 939 (.iadd) 1 940 := ⟨by decide +kernel, rfl⟩
theorem eL_law_940 : Dn cL_law 940 (.iaload) 1 941 := ⟨by decide +kernel, rfl⟩
theorem eL_law_941 : Dn cL_law 941 (.aload_n 0) 1 942 := ⟨by decide +kernel, rfl⟩
theorem eL_law_942 : Dn cL_law 942 (.iload_n 3) 1 943 := ⟨by decide +kernel, rfl⟩
theorem eL_law_943 : Dn cL_law 943 (.iconst 3) 1 944 := ⟨by decide +kernel, rfl⟩
theorem eL_law_944 : Dn cL_law 944 (.iadd) 1 945 := ⟨by decide +kernel, rfl⟩
theorem eL_law_945 : Dn cL_law 945 (.iaload) 1 946 := ⟨by decide +kernel, rfl⟩
theorem eL_law_946 : Dn cL_law 946 (.aload_n 0) 1 947 := ⟨by decide +kernel, rfl⟩
theorem eL_law_947 : Dn cL_law 947 (.iload_n 3) 1 948 := ⟨by decide +kernel, rfl⟩
theorem eL_law_948 : Dn cL_law 948 (.iconst 4) 1 949 := ⟨by decide +kernel, rfl⟩
theorem eL_law_949 : Dn cL_law 949 (.iadd) 1 950 := ⟨by decide +kernel, rfl⟩
theorem eL_law_950 : Dn cL_law 950 (.iaload) 1 951 := ⟨by decide +kernel, rfl⟩
theorem eL_law_951 : Dn cL_law 951 (.invokevirtual 115) 3 954 := ⟨by decide +kernel, rfl⟩
theorem eL_law_954 : Dn cL_law 954 (.if_icmp .eq 189) 3 957 := ⟨by decide +kernel, rfl⟩
theorem eL_law_957 : Dn cL_law 957 (.iconst 0) 1 958 := ⟨by decide +kernel, rfl⟩
theorem eL_law_958 : Dn cL_law 958 (.ireturn) 1 959 := ⟨by decide +kernel, rfl⟩
theorem eL_law_959 : Dn cL_law 959 (.aload_n 1) 1 960 := ⟨by decide +kernel, rfl⟩
theorem eL_law_960 : Dn cL_law 960 (.aload_n 0) 1 961 := ⟨by decide +kernel, rfl⟩
theorem eL_law_961 : Dn cL_law 961 (.iload_n 3) 1 962 := ⟨by decide +kernel, rfl⟩
theorem eL_law_962 : Dn cL_law 962 (.iconst 1) 1 963 := ⟨by decide +kernel, rfl⟩
theorem eL_law_963 : Dn cL_law 963 (.iadd) 1 964 := ⟨by decide +kernel, rfl⟩
theorem eL_law_964 : Dn cL_law 964 (.iaload) 1 965 := ⟨by decide +kernel, rfl⟩
theorem eL_law_965 : Dn cL_law 965 (.invokevirtual 116) 3 968 := ⟨by decide +kernel, rfl⟩
theorem eL_law_968 : Dn cL_law 968 (.aload_n 2) 1 969 := ⟨by decide +kernel, rfl⟩
theorem eL_law_969 : Dn cL_law 969 (.aload_n 0) 1 970 := ⟨by decide +kernel, rfl⟩
theorem eL_law_970 : Dn cL_law 970 (.iload_n 3) 1 971 := ⟨by decide +kernel, rfl⟩
theorem eL_law_971 : Dn cL_law 971 (.iconst 1) 1 972 := ⟨by decide +kernel, rfl⟩
theorem eL_law_972 : Dn cL_law 972 (.iadd) 1 973 := ⟨by decide +kernel, rfl⟩
theorem eL_law_973 : Dn cL_law 973 (.iaload) 1 974 := ⟨by decide +kernel, rfl⟩
theorem eL_law_974 : Dn cL_law 974 (.invokevirtual 119) 3 977 := ⟨by decide +kernel, rfl⟩
theorem eL_law_977 : Dn cL_law 977 (.if_icmp .eq 166) 3 980 := ⟨by decide +kernel, rfl⟩
theorem eL_law_980 : Dn cL_law 980 (.iconst 0) 1 981 := ⟨by decide +kernel, rfl⟩
theorem eL_law_981 : Dn cL_law 981 (.ireturn) 1 982 := ⟨by decide +kernel, rfl⟩
theorem eL_law_982 : Dn cL_law 982 (.aload_n 1) 1 983 := ⟨by decide +kernel, rfl⟩
theorem eL_law_983 : Dn cL_law 983 (.aload_n 0) 1 984 := ⟨by decide +kernel, rfl⟩
theorem eL_law_984 : Dn cL_law 984 (.iload_n 3) 1 985 := ⟨by decide +kernel, rfl⟩
theorem eL_law_985 : Dn cL_law 985 (.iconst 1) 1 986 := ⟨by decide +kernel, rfl⟩
theorem eL_law_986 : Dn cL_law 986 (.iadd) 1 987 := ⟨by decide +kernel, rfl⟩
theorem eL_law_987 : Dn cL_law 987 (.iaload) 1 988 := ⟨by decide +kernel, rfl⟩
theorem eL_law_988 : Dn cL_law 988 (.aload_n 0) 1 989 := ⟨by decide +kernel, rfl⟩
theorem eL_law_989 : Dn cL_law 989 (.iload_n 3) 1 990 := ⟨by decide +kernel, rfl⟩
theorem eL_law_990 : Dn cL_law 990 (.iconst 2) 1 991 := ⟨by decide +kernel, rfl⟩
theorem eL_law_991 : Dn cL_law 991 (.iadd) 1 992 := ⟨by decide +kernel, rfl⟩
theorem eL_law_992 : Dn cL_law 992 (.iaload) 1 993 := ⟨by decide +kernel, rfl⟩
theorem eL_law_993 : Dn cL_law 993 (.invokevirtual 120) 3 996 := ⟨by decide +kernel, rfl⟩
theorem eL_law_996 : Dn cL_law 996 (.aload_n 2) 1 997 := ⟨by decide +kernel, rfl⟩
theorem eL_law_997 : Dn cL_law 997 (.aload_n 0) 1 998 := ⟨by decide +kernel, rfl⟩
theorem eL_law_998 : Dn cL_law 998 (.iload_n 3) 1 999 := ⟨by decide +kernel, rfl⟩
theorem eL_law_999 : Dn cL_law 999 (.iconst 1) 1 1000 := ⟨by decide +kernel, rfl⟩
theorem eL_law_1000 : Dn cL_law 1000 (.iadd) 1 1001 := ⟨by decide +kernel, rfl⟩
theorem eL_law_1001 : Dn cL_law 1001 (.iaload) 1 1002 := ⟨by decide +kernel, rfl⟩
theorem eL_law_1002 : Dn cL_law 1002 (.aload_n 0) 1 1003 := ⟨by decide +kernel, rfl⟩
theorem eL_law_1003 : Dn cL_law 1003 (.iload_n 3) 1 1004 := ⟨by decide +kernel, rfl⟩
theorem eL_law_1004 : Dn cL_law 1004 (.iconst 2) 1 1005 := ⟨by decide +kernel, rfl⟩
theorem eL_law_1005 : Dn cL_law 1005 (.iadd) 1 1006 := ⟨by decide +kernel, rfl⟩
theorem eL_law_1006 : Dn cL_law 1006 (.iaload) 1 1007 := ⟨by decide +kernel, rfl⟩
theorem eL_law_1007 : Dn cL_law 1007 (.invokevirtual 123) 3 1010 := ⟨by decide +kernel, rfl⟩
theorem eL_law_1010 : Dn cL_law 1010 (.if_icmp .eq 133) 3 1013 := ⟨by decide +kernel, rfl⟩
theorem eL_law_1013 : Dn cL_law 1013 (.iconst 0) 1 1014 := ⟨by decide +kernel, rfl⟩
theorem eL_law_1014 : Dn cL_law 1014 (.ireturn) 1 1015 := ⟨by decide +kernel, rfl⟩
theorem eL_law_1015 : Dn cL_law 1015 (.aload_n 1) 1 1016 := ⟨by decide +kernel, rfl⟩
theorem eL_law_1016 : Dn cL_law 1016 (.aload_n 0) 1 1017 := ⟨by decide +kernel, rfl⟩
theorem eL_law_1017 : Dn cL_law 1017 (.iload_n 3) 1 1018 := ⟨by decide +kernel, rfl⟩
theorem eL_law_1018 : Dn cL_law 1018 (.iconst 1) 1 1019 := ⟨by decide +kernel, rfl⟩
theorem eL_law_1019 : Dn cL_law 1019 (.iadd) 1 1020 := ⟨by decide +kernel, rfl⟩
theorem eL_law_1020 : Dn cL_law 1020 (.iaload) 1 1021 := ⟨by decide +kernel, rfl⟩
theorem eL_law_1021 : Dn cL_law 1021 (.aload_n 0) 1 1022 := ⟨by decide +kernel, rfl⟩
theorem eL_law_1022 : Dn cL_law 1022 (.iload_n 3) 1 1023 := ⟨by decide +kernel, rfl⟩
theorem eL_law_1023 : Dn cL_law 1023 (.iconst 2) 1 1024 := ⟨by decide +kernel, rfl⟩
theorem eL_law_1024 : Dn cL_law 1024 (.iadd) 1 1025 := ⟨by decide +kernel, rfl⟩
theorem eL_law_1025 : Dn cL_law 1025 (.iaload) 1 1026 := ⟨by decide +kernel, rfl⟩
theorem eL_law_1026 : Dn cL_law 1026 (.invokevirtual 124) 3 1029 := ⟨by decide +kernel, rfl⟩
theorem eL_law_1029 : Dn cL_law 1029 (.aload_n 2) 1 1030 := ⟨by decide +kernel, rfl⟩
theorem eL_law_1030 : Dn cL_law 1030 (.aload_n 0) 1 1031 := ⟨by decide +kernel, rfl⟩
theorem eL_law_1031 : Dn cL_law 1031 (.iload_n 3) 1 1032 := ⟨by decide +kernel, rfl⟩
theorem eL_law_1032 : Dn cL_law 1032 (.iconst 1) 1 1033 := ⟨by decide +kernel, rfl⟩
theorem eL_law_1033 : Dn cL_law 1033 (.iadd) 1 1034 := ⟨by decide +kernel, rfl⟩
theorem eL_law_1034 : Dn cL_law 1034 (.iaload) 1 1035 := ⟨by decide +kernel, rfl⟩
theorem eL_law_1035 : Dn cL_law 1035 (.aload_n 0) 1 1036 := ⟨by decide +kernel, rfl⟩
theorem eL_law_1036 : Dn cL_law 1036 (.iload_n 3) 1 1037 := ⟨by decide +kernel, rfl⟩
theorem eL_law_1037 : Dn cL_law 1037 (.iconst 2) 1 1038 := ⟨by decide +kernel, rfl⟩
theorem eL_law_1038 : Dn cL_law 1038 (.iadd) 1 1039 := ⟨by decide +kernel, rfl⟩
theorem eL_law_1039 : Dn cL_law 1039 (.iaload) 1 1040 := ⟨by decide +kernel, rfl⟩
theorem eL_law_1040 : Dn cL_law 1040 (.invokevirtual 127) 3 1043 := ⟨by decide +kernel, rfl⟩
theorem eL_law_1043 : Dn cL_law 1043 (.if_icmp .eq 100) 3 1046 := ⟨by decide +kernel, rfl⟩
theorem eL_law_1046 : Dn cL_law 1046 (.iconst 0) 1 1047 := ⟨by decide +kernel, rfl⟩
theorem eL_law_1047 : Dn cL_law 1047 (.ireturn) 1 1048 := ⟨by decide +kernel, rfl⟩
theorem eL_law_1048 : Dn cL_law 1048 (.aload_n 1) 1 1049 := ⟨by decide +kernel, rfl⟩
theorem eL_law_1049 : Dn cL_law 1049 (.invokevirtual 128) 3 1052 := ⟨by decide +kernel, rfl⟩
theorem eL_law_1052 : Dn cL_law 1052 (.aload_n 2) 1 1053 := ⟨by decide +kernel, rfl⟩
theorem eL_law_1053 : Dn cL_law 1053 (.invokevirtual 131) 3 1056 := ⟨by decide +kernel, rfl⟩
theorem eL_law_1056 : Dn cL_law 1056 (.if_icmp .eq 87) 3 1059 := ⟨by decide +kernel, rfl⟩
theorem eL_law_1059 : Dn cL_law 1059 (.iconst 0) 1 1060 := ⟨by decide +kernel, rfl⟩
theorem eL_law_1060 : Dn cL_law 1060 (.ireturn) 1 1061 := ⟨by decide +kernel, rfl⟩
theorem eL_law_1061 : Dn cL_law 1061 (.aload_n 1) 1 1062 := ⟨by decide +kernel, rfl⟩
theorem eL_law_1062 : Dn cL_law 1062 (.invokevirtual 132) 3 1065 := ⟨by decide +kernel, rfl⟩
theorem eL_law_1065 : Dn cL_law 1065 (.aload_n 2) 1 1066 := ⟨by decide +kernel, rfl⟩
theorem eL_law_1066 : Dn cL_law 1066 (.invokevirtual 135) 3 1069 := ⟨by decide +kernel, rfl⟩
theorem eL_law_1069 : Dn cL_law 1069 (.if_icmp .eq 74) 3 1072 := ⟨by decide +kernel, rfl⟩
theorem eL_law_1072 : Dn cL_law 1072 (.iconst 0) 1 1073 := ⟨by decide +kernel, rfl⟩
theorem eL_law_1073 : Dn cL_law 1073 (.ireturn) 1 1074 := ⟨by decide +kernel, rfl⟩
theorem eL_law_1074 : Dn cL_law 1074 (.aload_n 1) 1 1075 := ⟨by decide +kernel, rfl⟩
theorem eL_law_1075 : Dn cL_law 1075 (.aload_n 0) 1 1076 := ⟨by decide +kernel, rfl⟩
theorem eL_law_1076 : Dn cL_law 1076 (.iload_n 3) 1 1077 := ⟨by decide +kernel, rfl⟩
theorem eL_law_1077 : Dn cL_law 1077 (.iconst 1) 1 1078 := ⟨by decide +kernel, rfl⟩
theorem eL_law_1078 : Dn cL_law 1078 (.iadd) 1 1079 := ⟨by decide +kernel, rfl⟩
theorem eL_law_1079 : Dn cL_law 1079 (.iaload) 1 1080 := ⟨by decide +kernel, rfl⟩
theorem eL_law_1080 : Dn cL_law 1080 (.invokevirtual 136) 3 1083 := ⟨by decide +kernel, rfl⟩
theorem eL_law_1083 : Dn cL_law 1083 (.aload_n 2) 1 1084 := ⟨by decide +kernel, rfl⟩
theorem eL_law_1084 : Dn cL_law 1084 (.aload_n 0) 1 1085 := ⟨by decide +kernel, rfl⟩
theorem eL_law_1085 : Dn cL_law 1085 (.iload_n 3) 1 1086 := ⟨by decide +kernel, rfl⟩
theorem eL_law_1086 : Dn cL_law 1086 (.iconst 1) 1 1087 := ⟨by decide +kernel, rfl⟩
theorem eL_law_1087 : Dn cL_law 1087 (.iadd) 1 1088 := ⟨by decide +kernel, rfl⟩
theorem eL_law_1088 : Dn cL_law 1088 (.iaload) 1 1089 := ⟨by decide +kernel, rfl⟩
theorem eL_law_1089 : Dn cL_law 1089 (.invokevirtual 139) 3 1092 := ⟨by decide +kernel, rfl⟩
theorem eL_law_1092 : Dn cL_law 1092 (.if_icmp .eq 51) 3 1095 := ⟨by decide +kernel, rfl⟩
theorem eL_law_1095 : Dn cL_law 1095 (.iconst 0) 1 1096 := ⟨by decide +kernel, rfl⟩
theorem eL_law_1096 : Dn cL_law 1096 (.ireturn) 1 1097 := ⟨by decide +kernel, rfl⟩
theorem eL_law_1097 : Dn cL_law 1097 (.aload_n 1) 1 1098 := ⟨by decide +kernel, rfl⟩
theorem eL_law_1098 : Dn cL_law 1098 (.aload_n 0) 1 1099 := ⟨by decide +kernel, rfl⟩
theorem eL_law_1099 : Dn cL_law 1099 (.iload_n 3) 1 1100 := ⟨by decide +kernel, rfl⟩
theorem eL_law_1100 : Dn cL_law 1100 (.iconst 1) 1 1101 := ⟨by decide +kernel, rfl⟩
theorem eL_law_1101 : Dn cL_law 1101 (.iadd) 1 1102 := ⟨by decide +kernel, rfl⟩
theorem eL_law_1102 : Dn cL_law 1102 (.iaload) 1 1103 := ⟨by decide +kernel, rfl⟩
theorem eL_law_1103 : Dn cL_law 1103 (.invokevirtual 140) 3 1106 := ⟨by decide +kernel, rfl⟩
theorem eL_law_1106 : Dn cL_law 1106 (.aload_n 2) 1 1107 := ⟨by decide +kernel, rfl⟩
theorem eL_law_1107 : Dn cL_law 1107 (.aload_n 0) 1 1108 := ⟨by decide +kernel, rfl⟩
theorem eL_law_1108 : Dn cL_law 1108 (.iload_n 3) 1 1109 := ⟨by decide +kernel, rfl⟩
theorem eL_law_1109 : Dn cL_law 1109 (.iconst 1) 1 1110 := ⟨by decide +kernel, rfl⟩
theorem eL_law_1110 : Dn cL_law 1110 (.iadd) 1 1111 := ⟨by decide +kernel, rfl⟩
theorem eL_law_1111 : Dn cL_law 1111 (.iaload) 1 1112 := ⟨by decide +kernel, rfl⟩
theorem eL_law_1112 : Dn cL_law 1112 (.invokevirtual 143) 3 1115 := ⟨by decide +kernel, rfl⟩
theorem eL_law_1115 : Dn cL_law 1115 (.if_icmp .eq 28) 3 1118 := ⟨by decide +kernel, rfl⟩
theorem eL_law_1118 : Dn cL_law 1118 (.iconst 0) 1 1119 := ⟨by decide +kernel, rfl⟩
theorem eL_law_1119 : Dn cL_law 1119 (.ireturn) 1 1120 := ⟨by decide +kernel, rfl⟩
theorem eL_law_1120 : Dn cL_law 1120 (.aload_n 1) 1 1121 := ⟨by decide +kernel, rfl⟩
theorem eL_law_1121 : Dn cL_law 1121 (.aload_n 0) 1 1122 := ⟨by decide +kernel, rfl⟩
theorem eL_law_1122 : Dn cL_law 1122 (.iload_n 3) 1 1123 := ⟨by decide +kernel, rfl⟩
theorem eL_law_1123 : Dn cL_law 1123 (.iconst 1) 1 1124 := ⟨by decide +kernel, rfl⟩
theorem eL_law_1124 : Dn cL_law 1124 (.iadd) 1 1125 := ⟨by decide +kernel, rfl⟩
theorem eL_law_1125 : Dn cL_law 1125 (.iaload) 1 1126 := ⟨by decide +kernel, rfl⟩
theorem eL_law_1126 : Dn cL_law 1126 (.invokevirtual 144) 3 1129 := ⟨by decide +kernel, rfl⟩
theorem eL_law_1129 : Dn cL_law 1129 (.aload_n 2) 1 1130 := ⟨by decide +kernel, rfl⟩
theorem eL_law_1130 : Dn cL_law 1130 (.aload_n 0) 1 1131 := ⟨by decide +kernel, rfl⟩
theorem eL_law_1131 : Dn cL_law 1131 (.iload_n 3) 1 1132 := ⟨by decide +kernel, rfl⟩
theorem eL_law_1132 : Dn cL_law 1132 (.iconst 1) 1 1133 := ⟨by decide +kernel, rfl⟩
theorem eL_law_1133 : Dn cL_law 1133 (.iadd) 1 1134 := ⟨by decide +kernel, rfl⟩
theorem eL_law_1134 : Dn cL_law 1134 (.iaload) 1 1135 := ⟨by decide +kernel, rfl⟩
theorem eL_law_1135 : Dn cL_law 1135 (.invokevirtual 147) 3 1138 := ⟨by decide +kernel, rfl⟩
theorem eL_law_1138 : Dn cL_law 1138 (.if_icmp .eq 5) 3 1141 := ⟨by decide +kernel, rfl⟩
theorem eL_law_1141 : Dn cL_law 1141 (.iconst 0) 1 1142 := ⟨by decide +kernel, rfl⟩
theorem eL_law_1142 : Dn cL_law 1142 (.ireturn) 1 1143 := ⟨by decide +kernel, rfl⟩
theorem eL_law_1143 : Dn cL_law 1143 (.iinc 3 5) 3 1146 := ⟨by decide +kernel, rfl⟩
theorem eL_law_1146 : Dn cL_law 1146 (.goto (-1128)) 3 1149 := ⟨by decide +kernel, rfl⟩
theorem eL_law_1149 : Dn cL_law 1149 (.iconst 1) 1 1150 := ⟨by decide +kernel, rfl⟩
theorem eL_law_1150 : Dn cL_law 1150 (.ireturn) 1 1151 := ⟨by decide +kernel, rfl⟩
theorem bp_31 : (Int8.ofInt 31).toInt32 = 31 := by decide
theorem ql_L_13 : Cond.constantLong RL 13 4294967295 ∈ tb := mem_tb (List.mem_of_getElem? (i := 1339) (by decide +kernel)) rfl
theorem wl_L_15 : Cond.methodLink RL 15 yX6_feed ∈ tb := mem_tb (List.mem_of_getElem? (i := 347) (by decide +kernel)) rfl
theorem wc_X6_feed : Cond.code yX6_feed cX6_feed 5 (some .int) ∈ tb := mem_tb (List.mem_of_getElem? (i := 350) (by decide +kernel)) rfl
theorem wi_X6_feed : Cond.instanceMethod yX6_feed ∈ tb := mem_tb (List.mem_of_getElem? (i := 348) (by decide +kernel)) rfl
theorem ws_X6_feed : Cond.selects RX6 yX6_feed yX6_feed ∈ tb := mem_tb (List.mem_of_getElem? (i := 349) (by decide +kernel)) rfl
theorem wl_L_19 : Cond.methodLink RL 19 yX7_feed ∈ tb := mem_tb (List.mem_of_getElem? (i := 982) (by decide +kernel)) rfl
theorem wc_X7_feed : Cond.code yX7_feed cX7_feed 5 (some .int) ∈ tb := mem_tb (List.mem_of_getElem? (i := 985) (by decide +kernel)) rfl
theorem wi_X7_feed : Cond.instanceMethod yX7_feed ∈ tb := mem_tb (List.mem_of_getElem? (i := 983) (by decide +kernel)) rfl
theorem ws_X7_feed : Cond.selects RX7 yX7_feed yX7_feed ∈ tb := mem_tb (List.mem_of_getElem? (i := 984) (by decide +kernel)) rfl
theorem wl_L_20 : Cond.methodLink RL 20 yX6_school ∈ tb := mem_tb (List.mem_of_getElem? (i := 357) (by decide +kernel)) rfl
theorem wc_X6_school : Cond.code yX6_school cX6_school 3 (some .int) ∈ tb := mem_tb (List.mem_of_getElem? (i := 360) (by decide +kernel)) rfl
theorem wi_X6_school : Cond.instanceMethod yX6_school ∈ tb := mem_tb (List.mem_of_getElem? (i := 358) (by decide +kernel)) rfl
theorem ws_X6_school : Cond.selects RX6 yX6_school yX6_school ∈ tb := mem_tb (List.mem_of_getElem? (i := 359) (by decide +kernel)) rfl
theorem wl_L_24 : Cond.methodLink RL 24 yX7_school ∈ tb := mem_tb (List.mem_of_getElem? (i := 993) (by decide +kernel)) rfl
theorem wc_X7_school : Cond.code yX7_school cX7_school 3 (some .int) ∈ tb := mem_tb (List.mem_of_getElem? (i := 996) (by decide +kernel)) rfl
theorem wi_X7_school : Cond.instanceMethod yX7_school ∈ tb := mem_tb (List.mem_of_getElem? (i := 994) (by decide +kernel)) rfl
theorem ws_X7_school : Cond.selects RX7 yX7_school yX7_school ∈ tb := mem_tb (List.mem_of_getElem? (i := 995) (by decide +kernel)) rfl
theorem wl_L_25 : Cond.methodLink RL 25 yX6_fault ∈ tb := mem_tb (List.mem_of_getElem? (i := 467) (by decide +kernel)) rfl
theorem wc_X6_fault : Cond.code yX6_fault cX6_fault 1 (some .int) ∈ tb := mem_tb (List.mem_of_getElem? (i := 470) (by decide +kernel)) rfl
theorem wi_X6_fault : Cond.instanceMethod yX6_fault ∈ tb := mem_tb (List.mem_of_getElem? (i := 468) (by decide +kernel)) rfl
theorem ws_X6_fault : Cond.selects RX6 yX6_fault yX6_fault ∈ tb := mem_tb (List.mem_of_getElem? (i := 469) (by decide +kernel)) rfl
theorem wl_L_28 : Cond.methodLink RL 28 yX7_fault ∈ tb := mem_tb (List.mem_of_getElem? (i := 1044) (by decide +kernel)) rfl
theorem wc_X7_fault : Cond.code yX7_fault cX7_fault 1 (some .int) ∈ tb := mem_tb (List.mem_of_getElem? (i := 1047) (by decide +kernel)) rfl
theorem wi_X7_fault : Cond.instanceMethod yX7_fault ∈ tb := mem_tb (List.mem_of_getElem? (i := 1045) (by decide +kernel)) rfl
theorem ws_X7_fault : Cond.selects RX7 yX7_fault yX7_fault ∈ tb := mem_tb (List.mem_of_getElem? (i := 1046) (by decide +kernel)) rfl
theorem wl_L_29 : Cond.methodLink RL 29 yX6_count ∈ tb := mem_tb (List.mem_of_getElem? (i := 471) (by decide +kernel)) rfl
theorem wc_X6_count : Cond.code yX6_count cX6_count 2 (some .int) ∈ tb := mem_tb (List.mem_of_getElem? (i := 474) (by decide +kernel)) rfl
theorem wi_X6_count : Cond.instanceMethod yX6_count ∈ tb := mem_tb (List.mem_of_getElem? (i := 472) (by decide +kernel)) rfl
theorem ws_X6_count : Cond.selects RX6 yX6_count yX6_count ∈ tb := mem_tb (List.mem_of_getElem? (i := 473) (by decide +kernel)) rfl
theorem wl_L_33 : Cond.methodLink RL 33 yX7_count ∈ tb := mem_tb (List.mem_of_getElem? (i := 1048) (by decide +kernel)) rfl
theorem wc_X7_count : Cond.code yX7_count cX7_count 2 (some .int) ∈ tb := mem_tb (List.mem_of_getElem? (i := 1051) (by decide +kernel)) rfl
theorem wi_X7_count : Cond.instanceMethod yX7_count ∈ tb := mem_tb (List.mem_of_getElem? (i := 1049) (by decide +kernel)) rfl
theorem ws_X7_count : Cond.selects RX7 yX7_count yX7_count ∈ tb := mem_tb (List.mem_of_getElem? (i := 1050) (by decide +kernel)) rfl
theorem wl_L_34 : Cond.methodLink RL 34 yX6_pupil ∈ tb := mem_tb (List.mem_of_getElem? (i := 475) (by decide +kernel)) rfl
theorem wc_X6_pupil : Cond.code yX6_pupil cX6_pupil 3 (some .int) ∈ tb := mem_tb (List.mem_of_getElem? (i := 478) (by decide +kernel)) rfl
theorem wi_X6_pupil : Cond.instanceMethod yX6_pupil ∈ tb := mem_tb (List.mem_of_getElem? (i := 476) (by decide +kernel)) rfl
theorem ws_X6_pupil : Cond.selects RX6 yX6_pupil yX6_pupil ∈ tb := mem_tb (List.mem_of_getElem? (i := 477) (by decide +kernel)) rfl
theorem wl_L_38 : Cond.methodLink RL 38 yX7_pupil ∈ tb := mem_tb (List.mem_of_getElem? (i := 1052) (by decide +kernel)) rfl
theorem wc_X7_pupil : Cond.code yX7_pupil cX7_pupil 6 (some .int) ∈ tb := mem_tb (List.mem_of_getElem? (i := 1055) (by decide +kernel)) rfl
theorem wi_X7_pupil : Cond.instanceMethod yX7_pupil ∈ tb := mem_tb (List.mem_of_getElem? (i := 1053) (by decide +kernel)) rfl
theorem ws_X7_pupil : Cond.selects RX7 yX7_pupil yX7_pupil ∈ tb := mem_tb (List.mem_of_getElem? (i := 1054) (by decide +kernel)) rfl
theorem wl_L_39 : Cond.methodLink RL 39 yX6_leans ∈ tb := mem_tb (List.mem_of_getElem? (i := 492) (by decide +kernel)) rfl
theorem wc_X6_leans : Cond.code yX6_leans cX6_leans 2 (some .int) ∈ tb := mem_tb (List.mem_of_getElem? (i := 495) (by decide +kernel)) rfl
theorem wi_X6_leans : Cond.instanceMethod yX6_leans ∈ tb := mem_tb (List.mem_of_getElem? (i := 493) (by decide +kernel)) rfl
theorem ws_X6_leans : Cond.selects RX6 yX6_leans yX6_leans ∈ tb := mem_tb (List.mem_of_getElem? (i := 494) (by decide +kernel)) rfl
theorem wl_L_42 : Cond.methodLink RL 42 yX7_leans ∈ tb := mem_tb (List.mem_of_getElem? (i := 1062) (by decide +kernel)) rfl
theorem wc_X7_leans : Cond.code yX7_leans cX7_leans 2 (some .int) ∈ tb := mem_tb (List.mem_of_getElem? (i := 1065) (by decide +kernel)) rfl
theorem wi_X7_leans : Cond.instanceMethod yX7_leans ∈ tb := mem_tb (List.mem_of_getElem? (i := 1063) (by decide +kernel)) rfl
theorem ws_X7_leans : Cond.selects RX7 yX7_leans yX7_leans ∈ tb := mem_tb (List.mem_of_getElem? (i := 1064) (by decide +kernel)) rfl
theorem wl_L_43 : Cond.methodLink RL 43 yX6_level ∈ tb := mem_tb (List.mem_of_getElem? (i := 500) (by decide +kernel)) rfl
theorem wc_X6_level : Cond.code yX6_level cX6_level 3 (some .int) ∈ tb := mem_tb (List.mem_of_getElem? (i := 503) (by decide +kernel)) rfl
theorem wi_X6_level : Cond.instanceMethod yX6_level ∈ tb := mem_tb (List.mem_of_getElem? (i := 501) (by decide +kernel)) rfl
theorem ws_X6_level : Cond.selects RX6 yX6_level yX6_level ∈ tb := mem_tb (List.mem_of_getElem? (i := 502) (by decide +kernel)) rfl
theorem wl_L_46 : Cond.methodLink RL 46 yX7_level ∈ tb := mem_tb (List.mem_of_getElem? (i := 1070) (by decide +kernel)) rfl
theorem wc_X7_level : Cond.code yX7_level cX7_level 3 (some .int) ∈ tb := mem_tb (List.mem_of_getElem? (i := 1073) (by decide +kernel)) rfl
theorem wi_X7_level : Cond.instanceMethod yX7_level ∈ tb := mem_tb (List.mem_of_getElem? (i := 1071) (by decide +kernel)) rfl
theorem ws_X7_level : Cond.selects RX7 yX7_level yX7_level ∈ tb := mem_tb (List.mem_of_getElem? (i := 1072) (by decide +kernel)) rfl
theorem wl_L_47 : Cond.methodLink RL 47 yX6_rises ∈ tb := mem_tb (List.mem_of_getElem? (i := 504) (by decide +kernel)) rfl
theorem wc_X6_rises : Cond.code yX6_rises cX6_rises 3 (some .int) ∈ tb := mem_tb (List.mem_of_getElem? (i := 507) (by decide +kernel)) rfl
theorem wi_X6_rises : Cond.instanceMethod yX6_rises ∈ tb := mem_tb (List.mem_of_getElem? (i := 505) (by decide +kernel)) rfl
theorem ws_X6_rises : Cond.selects RX6 yX6_rises yX6_rises ∈ tb := mem_tb (List.mem_of_getElem? (i := 506) (by decide +kernel)) rfl
theorem wl_L_50 : Cond.methodLink RL 50 yX7_rises ∈ tb := mem_tb (List.mem_of_getElem? (i := 1074) (by decide +kernel)) rfl
theorem wl_L_61 : Cond.methodLink RL 61 yX6_exact ∈ tb := mem_tb (List.mem_of_getElem? (i := 591) (by decide +kernel)) rfl
theorem wc_X6_exact : Cond.code yX6_exact cX6_exact 4 (some .int) ∈ tb := mem_tb (List.mem_of_getElem? (i := 594) (by decide +kernel)) rfl
theorem wi_X6_exact : Cond.instanceMethod yX6_exact ∈ tb := mem_tb (List.mem_of_getElem? (i := 592) (by decide +kernel)) rfl
theorem ws_X6_exact : Cond.selects RX6 yX6_exact yX6_exact ∈ tb := mem_tb (List.mem_of_getElem? (i := 593) (by decide +kernel)) rfl
theorem wl_L_65 : Cond.methodLink RL 65 yX7_exact ∈ tb := mem_tb (List.mem_of_getElem? (i := 1134) (by decide +kernel)) rfl
theorem wc_X7_exact : Cond.code yX7_exact cX7_exact 15 (some .int) ∈ tb := mem_tb (List.mem_of_getElem? (i := 1137) (by decide +kernel)) rfl
theorem wi_X7_exact : Cond.instanceMethod yX7_exact ∈ tb := mem_tb (List.mem_of_getElem? (i := 1135) (by decide +kernel)) rfl
theorem ws_X7_exact : Cond.selects RX7 yX7_exact yX7_exact ∈ tb := mem_tb (List.mem_of_getElem? (i := 1136) (by decide +kernel)) rfl
theorem wl_L_66 : Cond.methodLink RL 66 yX6_behind ∈ tb := mem_tb (List.mem_of_getElem? (i := 617) (by decide +kernel)) rfl
theorem wc_X6_behind : Cond.code yX6_behind cX6_behind 5 (some .int) ∈ tb := mem_tb (List.mem_of_getElem? (i := 620) (by decide +kernel)) rfl
theorem wi_X6_behind : Cond.instanceMethod yX6_behind ∈ tb := mem_tb (List.mem_of_getElem? (i := 618) (by decide +kernel)) rfl
theorem ws_X6_behind : Cond.selects RX6 yX6_behind yX6_behind ∈ tb := mem_tb (List.mem_of_getElem? (i := 619) (by decide +kernel)) rfl
theorem wl_L_70 : Cond.methodLink RL 70 yX7_behind ∈ tb := mem_tb (List.mem_of_getElem? (i := 1269) (by decide +kernel)) rfl
theorem wc_X7_behind : Cond.code yX7_behind cX7_behind 10 (some .int) ∈ tb := mem_tb (List.mem_of_getElem? (i := 1272) (by decide +kernel)) rfl
theorem wi_X7_behind : Cond.instanceMethod yX7_behind ∈ tb := mem_tb (List.mem_of_getElem? (i := 1270) (by decide +kernel)) rfl
theorem ws_X7_behind : Cond.selects RX7 yX7_behind yX7_behind ∈ tb := mem_tb (List.mem_of_getElem? (i := 1271) (by decide +kernel)) rfl
theorem wl_L_71 : Cond.methodLink RL 71 yX6_up ∈ tb := mem_tb (List.mem_of_getElem? (i := 709) (by decide +kernel)) rfl
theorem wc_X6_up : Cond.code yX6_up cX6_up 3 (some .int) ∈ tb := mem_tb (List.mem_of_getElem? (i := 712) (by decide +kernel)) rfl
theorem wi_X6_up : Cond.instanceMethod yX6_up ∈ tb := mem_tb (List.mem_of_getElem? (i := 710) (by decide +kernel)) rfl
theorem ws_X6_up : Cond.selects RX6 yX6_up yX6_up ∈ tb := mem_tb (List.mem_of_getElem? (i := 711) (by decide +kernel)) rfl
theorem wl_L_74 : Cond.methodLink RL 74 yX7_up ∈ tb := mem_tb (List.mem_of_getElem? (i := 1151) (by decide +kernel)) rfl
theorem wc_X7_up : Cond.code yX7_up cX7_up 3 (some .int) ∈ tb := mem_tb (List.mem_of_getElem? (i := 1154) (by decide +kernel)) rfl
theorem wi_X7_up : Cond.instanceMethod yX7_up ∈ tb := mem_tb (List.mem_of_getElem? (i := 1152) (by decide +kernel)) rfl
theorem ws_X7_up : Cond.selects RX7 yX7_up yX7_up ∈ tb := mem_tb (List.mem_of_getElem? (i := 1153) (by decide +kernel)) rfl
theorem wl_L_80 : Cond.methodLink RL 80 yX6_master ∈ tb := mem_tb (List.mem_of_getElem? (i := 723) (by decide +kernel)) rfl
theorem wc_X6_master : Cond.code yX6_master cX6_master 3 (some .int) ∈ tb := mem_tb (List.mem_of_getElem? (i := 726) (by decide +kernel)) rfl
theorem wi_X6_master : Cond.instanceMethod yX6_master ∈ tb := mem_tb (List.mem_of_getElem? (i := 724) (by decide +kernel)) rfl
theorem ws_X6_master : Cond.selects RX6 yX6_master yX6_master ∈ tb := mem_tb (List.mem_of_getElem? (i := 725) (by decide +kernel)) rfl
theorem wl_L_83 : Cond.methodLink RL 83 yX7_master ∈ tb := mem_tb (List.mem_of_getElem? (i := 1181) (by decide +kernel)) rfl
theorem wc_X7_master : Cond.code yX7_master cX7_master 3 (some .int) ∈ tb := mem_tb (List.mem_of_getElem? (i := 1184) (by decide +kernel)) rfl
theorem wi_X7_master : Cond.instanceMethod yX7_master ∈ tb := mem_tb (List.mem_of_getElem? (i := 1182) (by decide +kernel)) rfl
theorem ws_X7_master : Cond.selects RX7 yX7_master yX7_master ∈ tb := mem_tb (List.mem_of_getElem? (i := 1183) (by decide +kernel)) rfl
theorem wl_L_84 : Cond.methodLink RL 84 yX6_summer ∈ tb := mem_tb (List.mem_of_getElem? (i := 731) (by decide +kernel)) rfl
theorem wc_X6_summer : Cond.code yX6_summer cX6_summer 7 (some .int) ∈ tb := mem_tb (List.mem_of_getElem? (i := 734) (by decide +kernel)) rfl
theorem wi_X6_summer : Cond.instanceMethod yX6_summer ∈ tb := mem_tb (List.mem_of_getElem? (i := 732) (by decide +kernel)) rfl
theorem ws_X6_summer : Cond.selects RX6 yX6_summer yX6_summer ∈ tb := mem_tb (List.mem_of_getElem? (i := 733) (by decide +kernel)) rfl
theorem wl_L_87 : Cond.methodLink RL 87 yX7_summer ∈ tb := mem_tb (List.mem_of_getElem? (i := 1189) (by decide +kernel)) rfl
theorem wc_X7_summer : Cond.code yX7_summer cX7_summer 6 (some .int) ∈ tb := mem_tb (List.mem_of_getElem? (i := 1192) (by decide +kernel)) rfl
theorem wi_X7_summer : Cond.instanceMethod yX7_summer ∈ tb := mem_tb (List.mem_of_getElem? (i := 1190) (by decide +kernel)) rfl
theorem ws_X7_summer : Cond.selects RX7 yX7_summer yX7_summer ∈ tb := mem_tb (List.mem_of_getElem? (i := 1191) (by decide +kernel)) rfl
theorem wl_L_88 : Cond.methodLink RL 88 yX6_hours ∈ tb := mem_tb (List.mem_of_getElem? (i := 735) (by decide +kernel)) rfl
theorem wc_X6_hours : Cond.code yX6_hours cX6_hours 5 (some .int) ∈ tb := mem_tb (List.mem_of_getElem? (i := 738) (by decide +kernel)) rfl
theorem wi_X6_hours : Cond.instanceMethod yX6_hours ∈ tb := mem_tb (List.mem_of_getElem? (i := 736) (by decide +kernel)) rfl
theorem ws_X6_hours : Cond.selects RX6 yX6_hours yX6_hours ∈ tb := mem_tb (List.mem_of_getElem? (i := 737) (by decide +kernel)) rfl
theorem wl_L_91 : Cond.methodLink RL 91 yX7_hours ∈ tb := mem_tb (List.mem_of_getElem? (i := 1194) (by decide +kernel)) rfl
theorem wc_X7_hours : Cond.code yX7_hours cX7_hours 6 (some .int) ∈ tb := mem_tb (List.mem_of_getElem? (i := 1197) (by decide +kernel)) rfl
theorem wi_X7_hours : Cond.instanceMethod yX7_hours ∈ tb := mem_tb (List.mem_of_getElem? (i := 1195) (by decide +kernel)) rfl
theorem ws_X7_hours : Cond.selects RX7 yX7_hours yX7_hours ∈ tb := mem_tb (List.mem_of_getElem? (i := 1196) (by decide +kernel)) rfl
theorem wl_L_92 : Cond.methodLink RL 92 yX6_fewest ∈ tb := mem_tb (List.mem_of_getElem? (i := 739) (by decide +kernel)) rfl
theorem wl_L_95 : Cond.methodLink RL 95 yX7_fewest ∈ tb := mem_tb (List.mem_of_getElem? (i := 1198) (by decide +kernel)) rfl
theorem wc_X7_fewest : Cond.code yX7_fewest cX7_fewest 2 (some .int) ∈ tb := mem_tb (List.mem_of_getElem? (i := 1201) (by decide +kernel)) rfl
theorem wi_X7_fewest : Cond.instanceMethod yX7_fewest ∈ tb := mem_tb (List.mem_of_getElem? (i := 1199) (by decide +kernel)) rfl
theorem ws_X7_fewest : Cond.selects RX7 yX7_fewest yX7_fewest ∈ tb := mem_tb (List.mem_of_getElem? (i := 1200) (by decide +kernel)) rfl
theorem wl_L_96 : Cond.methodLink RL 96 yX6_row ∈ tb := mem_tb (List.mem_of_getElem? (i := 772) (by decide +kernel)) rfl
theorem wc_X6_row : Cond.code yX6_row cX6_row 4 (some .int) ∈ tb := mem_tb (List.mem_of_getElem? (i := 775) (by decide +kernel)) rfl
theorem wi_X6_row : Cond.instanceMethod yX6_row ∈ tb := mem_tb (List.mem_of_getElem? (i := 773) (by decide +kernel)) rfl
theorem ws_X6_row : Cond.selects RX6 yX6_row yX6_row ∈ tb := mem_tb (List.mem_of_getElem? (i := 774) (by decide +kernel)) rfl
theorem wl_L_99 : Cond.methodLink RL 99 yX7_row ∈ tb := mem_tb (List.mem_of_getElem? (i := 1233) (by decide +kernel)) rfl
theorem wc_X7_row : Cond.code yX7_row cX7_row 13 (some .int) ∈ tb := mem_tb (List.mem_of_getElem? (i := 1236) (by decide +kernel)) rfl
theorem wi_X7_row : Cond.instanceMethod yX7_row ∈ tb := mem_tb (List.mem_of_getElem? (i := 1234) (by decide +kernel)) rfl
theorem ws_X7_row : Cond.selects RX7 yX7_row yX7_row ∈ tb := mem_tb (List.mem_of_getElem? (i := 1235) (by decide +kernel)) rfl
theorem wl_L_100 : Cond.methodLink RL 100 yX6_stuck ∈ tb := mem_tb (List.mem_of_getElem? (i := 781) (by decide +kernel)) rfl
theorem wc_X6_stuck : Cond.code yX6_stuck cX6_stuck 3 (some .int) ∈ tb := mem_tb (List.mem_of_getElem? (i := 784) (by decide +kernel)) rfl
theorem wi_X6_stuck : Cond.instanceMethod yX6_stuck ∈ tb := mem_tb (List.mem_of_getElem? (i := 782) (by decide +kernel)) rfl
theorem ws_X6_stuck : Cond.selects RX6 yX6_stuck yX6_stuck ∈ tb := mem_tb (List.mem_of_getElem? (i := 783) (by decide +kernel)) rfl
theorem wl_L_103 : Cond.methodLink RL 103 yX7_stuck ∈ tb := mem_tb (List.mem_of_getElem? (i := 1237) (by decide +kernel)) rfl
theorem wc_X7_stuck : Cond.code yX7_stuck cX7_stuck 2 (some .int) ∈ tb := mem_tb (List.mem_of_getElem? (i := 1240) (by decide +kernel)) rfl
theorem wi_X7_stuck : Cond.instanceMethod yX7_stuck ∈ tb := mem_tb (List.mem_of_getElem? (i := 1238) (by decide +kernel)) rfl
theorem ws_X7_stuck : Cond.selects RX7 yX7_stuck yX7_stuck ∈ tb := mem_tb (List.mem_of_getElem? (i := 1239) (by decide +kernel)) rfl
theorem wl_L_104 : Cond.methodLink RL 104 yX6_worth ∈ tb := mem_tb (List.mem_of_getElem? (i := 785) (by decide +kernel)) rfl
theorem wc_X6_worth : Cond.code yX6_worth cX6_worth 4 (some .int) ∈ tb := mem_tb (List.mem_of_getElem? (i := 788) (by decide +kernel)) rfl
theorem wi_X6_worth : Cond.instanceMethod yX6_worth ∈ tb := mem_tb (List.mem_of_getElem? (i := 786) (by decide +kernel)) rfl
theorem ws_X6_worth : Cond.selects RX6 yX6_worth yX6_worth ∈ tb := mem_tb (List.mem_of_getElem? (i := 787) (by decide +kernel)) rfl
theorem wl_L_107 : Cond.methodLink RL 107 yX7_worth ∈ tb := mem_tb (List.mem_of_getElem? (i := 1241) (by decide +kernel)) rfl
theorem wc_X7_worth : Cond.code yX7_worth cX7_worth 4 (some .int) ∈ tb := mem_tb (List.mem_of_getElem? (i := 1244) (by decide +kernel)) rfl
theorem wi_X7_worth : Cond.instanceMethod yX7_worth ∈ tb := mem_tb (List.mem_of_getElem? (i := 1242) (by decide +kernel)) rfl
theorem ws_X7_worth : Cond.selects RX7 yX7_worth yX7_worth ∈ tb := mem_tb (List.mem_of_getElem? (i := 1243) (by decide +kernel)) rfl
theorem wl_L_108 : Cond.methodLink RL 108 yX6_mastered ∈ tb := mem_tb (List.mem_of_getElem? (i := 789) (by decide +kernel)) rfl
theorem wc_X6_mastered : Cond.code yX6_mastered cX6_mastered 3 (some .int) ∈ tb := mem_tb (List.mem_of_getElem? (i := 792) (by decide +kernel)) rfl
theorem wi_X6_mastered : Cond.instanceMethod yX6_mastered ∈ tb := mem_tb (List.mem_of_getElem? (i := 790) (by decide +kernel)) rfl
theorem ws_X6_mastered : Cond.selects RX6 yX6_mastered yX6_mastered ∈ tb := mem_tb (List.mem_of_getElem? (i := 791) (by decide +kernel)) rfl
theorem wl_L_111 : Cond.methodLink RL 111 yX7_mastered ∈ tb := mem_tb (List.mem_of_getElem? (i := 1245) (by decide +kernel)) rfl
theorem wc_X7_mastered : Cond.code yX7_mastered cX7_mastered 4 (some .int) ∈ tb := mem_tb (List.mem_of_getElem? (i := 1248) (by decide +kernel)) rfl
theorem wi_X7_mastered : Cond.instanceMethod yX7_mastered ∈ tb := mem_tb (List.mem_of_getElem? (i := 1246) (by decide +kernel)) rfl
theorem ws_X7_mastered : Cond.selects RX7 yX7_mastered yX7_mastered ∈ tb := mem_tb (List.mem_of_getElem? (i := 1247) (by decide +kernel)) rfl
theorem wl_L_112 : Cond.methodLink RL 112 yX6_pays ∈ tb := mem_tb (List.mem_of_getElem? (i := 793) (by decide +kernel)) rfl
theorem wc_X6_pays : Cond.code yX6_pays cX6_pays 5 (some .int) ∈ tb := mem_tb (List.mem_of_getElem? (i := 796) (by decide +kernel)) rfl
theorem wi_X6_pays : Cond.instanceMethod yX6_pays ∈ tb := mem_tb (List.mem_of_getElem? (i := 794) (by decide +kernel)) rfl
theorem ws_X6_pays : Cond.selects RX6 yX6_pays yX6_pays ∈ tb := mem_tb (List.mem_of_getElem? (i := 795) (by decide +kernel)) rfl
theorem wl_L_115 : Cond.methodLink RL 115 yX7_pays ∈ tb := mem_tb (List.mem_of_getElem? (i := 1249) (by decide +kernel)) rfl
theorem wc_X7_pays : Cond.code yX7_pays cX7_pays 5 (some .int) ∈ tb := mem_tb (List.mem_of_getElem? (i := 1252) (by decide +kernel)) rfl
theorem wi_X7_pays : Cond.instanceMethod yX7_pays ∈ tb := mem_tb (List.mem_of_getElem? (i := 1250) (by decide +kernel)) rfl
theorem ws_X7_pays : Cond.selects RX7 yX7_pays yX7_pays ∈ tb := mem_tb (List.mem_of_getElem? (i := 1251) (by decide +kernel)) rfl
theorem wl_L_116 : Cond.methodLink RL 116 yX6_order ∈ tb := mem_tb (List.mem_of_getElem? (i := 802) (by decide +kernel)) rfl
theorem wc_X6_order : Cond.code yX6_order cX6_order 3 (some .int) ∈ tb := mem_tb (List.mem_of_getElem? (i := 805) (by decide +kernel)) rfl
theorem wi_X6_order : Cond.instanceMethod yX6_order ∈ tb := mem_tb (List.mem_of_getElem? (i := 803) (by decide +kernel)) rfl
theorem ws_X6_order : Cond.selects RX6 yX6_order yX6_order ∈ tb := mem_tb (List.mem_of_getElem? (i := 804) (by decide +kernel)) rfl
theorem wl_L_119 : Cond.methodLink RL 119 yX7_order ∈ tb := mem_tb (List.mem_of_getElem? (i := 1257) (by decide +kernel)) rfl
theorem wc_X7_order : Cond.code yX7_order cX7_order 5 (some .int) ∈ tb := mem_tb (List.mem_of_getElem? (i := 1260) (by decide +kernel)) rfl
theorem wi_X7_order : Cond.instanceMethod yX7_order ∈ tb := mem_tb (List.mem_of_getElem? (i := 1258) (by decide +kernel)) rfl
theorem ws_X7_order : Cond.selects RX7 yX7_order yX7_order ∈ tb := mem_tb (List.mem_of_getElem? (i := 1259) (by decide +kernel)) rfl
theorem wl_L_120 : Cond.methodLink RL 120 yX6_classes ∈ tb := mem_tb (List.mem_of_getElem? (i := 814) (by decide +kernel)) rfl
theorem wc_X6_classes : Cond.code yX6_classes cX6_classes 10 (some .int) ∈ tb := mem_tb (List.mem_of_getElem? (i := 817) (by decide +kernel)) rfl
theorem wi_X6_classes : Cond.instanceMethod yX6_classes ∈ tb := mem_tb (List.mem_of_getElem? (i := 815) (by decide +kernel)) rfl
theorem ws_X6_classes : Cond.selects RX6 yX6_classes yX6_classes ∈ tb := mem_tb (List.mem_of_getElem? (i := 816) (by decide +kernel)) rfl
theorem wl_L_123 : Cond.methodLink RL 123 yX7_classes ∈ tb := mem_tb (List.mem_of_getElem? (i := 1265) (by decide +kernel)) rfl
theorem wc_X7_classes : Cond.code yX7_classes cX7_classes 10 (some .int) ∈ tb := mem_tb (List.mem_of_getElem? (i := 1268) (by decide +kernel)) rfl
theorem wi_X7_classes : Cond.instanceMethod yX7_classes ∈ tb := mem_tb (List.mem_of_getElem? (i := 1266) (by decide +kernel)) rfl
theorem ws_X7_classes : Cond.selects RX7 yX7_classes yX7_classes ∈ tb := mem_tb (List.mem_of_getElem? (i := 1267) (by decide +kernel)) rfl
theorem wl_L_124 : Cond.methodLink RL 124 yX6_log ∈ tb := mem_tb (List.mem_of_getElem? (i := 823) (by decide +kernel)) rfl
theorem wc_X6_log : Cond.code yX6_log cX6_log 3 (some .int) ∈ tb := mem_tb (List.mem_of_getElem? (i := 826) (by decide +kernel)) rfl
theorem wi_X6_log : Cond.instanceMethod yX6_log ∈ tb := mem_tb (List.mem_of_getElem? (i := 824) (by decide +kernel)) rfl
theorem ws_X6_log : Cond.selects RX6 yX6_log yX6_log ∈ tb := mem_tb (List.mem_of_getElem? (i := 825) (by decide +kernel)) rfl
theorem wl_L_127 : Cond.methodLink RL 127 yX7_log ∈ tb := mem_tb (List.mem_of_getElem? (i := 1311) (by decide +kernel)) rfl
theorem wc_X7_log : Cond.code yX7_log cX7_log 3 (some .int) ∈ tb := mem_tb (List.mem_of_getElem? (i := 1314) (by decide +kernel)) rfl
theorem wi_X7_log : Cond.instanceMethod yX7_log ∈ tb := mem_tb (List.mem_of_getElem? (i := 1312) (by decide +kernel)) rfl
theorem ws_X7_log : Cond.selects RX7 yX7_log yX7_log ∈ tb := mem_tb (List.mem_of_getElem? (i := 1313) (by decide +kernel)) rfl
theorem wl_L_128 : Cond.methodLink RL 128 yX6_clear ∈ tb := mem_tb (List.mem_of_getElem? (i := 827) (by decide +kernel)) rfl
theorem wc_X6_clear : Cond.code yX6_clear cX6_clear 2 (some .int) ∈ tb := mem_tb (List.mem_of_getElem? (i := 830) (by decide +kernel)) rfl
theorem wi_X6_clear : Cond.instanceMethod yX6_clear ∈ tb := mem_tb (List.mem_of_getElem? (i := 828) (by decide +kernel)) rfl
theorem ws_X6_clear : Cond.selects RX6 yX6_clear yX6_clear ∈ tb := mem_tb (List.mem_of_getElem? (i := 829) (by decide +kernel)) rfl
theorem wl_L_131 : Cond.methodLink RL 131 yX7_clear ∈ tb := mem_tb (List.mem_of_getElem? (i := 1315) (by decide +kernel)) rfl
theorem wc_X7_clear : Cond.code yX7_clear cX7_clear 2 (some .int) ∈ tb := mem_tb (List.mem_of_getElem? (i := 1318) (by decide +kernel)) rfl
theorem wi_X7_clear : Cond.instanceMethod yX7_clear ∈ tb := mem_tb (List.mem_of_getElem? (i := 1316) (by decide +kernel)) rfl
theorem ws_X7_clear : Cond.selects RX7 yX7_clear yX7_clear ∈ tb := mem_tb (List.mem_of_getElem? (i := 1317) (by decide +kernel)) rfl
theorem wl_L_132 : Cond.methodLink RL 132 yX6_judge ∈ tb := mem_tb (List.mem_of_getElem? (i := 831) (by decide +kernel)) rfl
theorem wc_X6_judge : Cond.code yX6_judge cX6_judge 4 (some .int) ∈ tb := mem_tb (List.mem_of_getElem? (i := 834) (by decide +kernel)) rfl
theorem wi_X6_judge : Cond.instanceMethod yX6_judge ∈ tb := mem_tb (List.mem_of_getElem? (i := 832) (by decide +kernel)) rfl
theorem ws_X6_judge : Cond.selects RX6 yX6_judge yX6_judge ∈ tb := mem_tb (List.mem_of_getElem? (i := 833) (by decide +kernel)) rfl
theorem wl_L_135 : Cond.methodLink RL 135 yX7_judge ∈ tb := mem_tb (List.mem_of_getElem? (i := 1319) (by decide +kernel)) rfl
theorem wc_X7_judge : Cond.code yX7_judge cX7_judge 3 (some .int) ∈ tb := mem_tb (List.mem_of_getElem? (i := 1322) (by decide +kernel)) rfl
theorem wi_X7_judge : Cond.instanceMethod yX7_judge ∈ tb := mem_tb (List.mem_of_getElem? (i := 1320) (by decide +kernel)) rfl
theorem ws_X7_judge : Cond.selects RX7 yX7_judge yX7_judge ∈ tb := mem_tb (List.mem_of_getElem? (i := 1321) (by decide +kernel)) rfl
theorem wl_L_136 : Cond.methodLink RL 136 yX6_seed ∈ tb := mem_tb (List.mem_of_getElem? (i := 835) (by decide +kernel)) rfl
theorem wc_X6_seed : Cond.code yX6_seed cX6_seed 3 (some .int) ∈ tb := mem_tb (List.mem_of_getElem? (i := 838) (by decide +kernel)) rfl
theorem wi_X6_seed : Cond.instanceMethod yX6_seed ∈ tb := mem_tb (List.mem_of_getElem? (i := 836) (by decide +kernel)) rfl
theorem ws_X6_seed : Cond.selects RX6 yX6_seed yX6_seed ∈ tb := mem_tb (List.mem_of_getElem? (i := 837) (by decide +kernel)) rfl
theorem wl_L_139 : Cond.methodLink RL 139 yX7_seed ∈ tb := mem_tb (List.mem_of_getElem? (i := 1327) (by decide +kernel)) rfl
theorem wc_X7_seed : Cond.code yX7_seed cX7_seed 3 (some .int) ∈ tb := mem_tb (List.mem_of_getElem? (i := 1330) (by decide +kernel)) rfl
theorem wi_X7_seed : Cond.instanceMethod yX7_seed ∈ tb := mem_tb (List.mem_of_getElem? (i := 1328) (by decide +kernel)) rfl
theorem ws_X7_seed : Cond.selects RX7 yX7_seed yX7_seed ∈ tb := mem_tb (List.mem_of_getElem? (i := 1329) (by decide +kernel)) rfl
theorem wl_L_140 : Cond.methodLink RL 140 yX6_keep ∈ tb := mem_tb (List.mem_of_getElem? (i := 839) (by decide +kernel)) rfl
theorem wc_X6_keep : Cond.code yX6_keep cX6_keep 2 (some .int) ∈ tb := mem_tb (List.mem_of_getElem? (i := 842) (by decide +kernel)) rfl
theorem wi_X6_keep : Cond.instanceMethod yX6_keep ∈ tb := mem_tb (List.mem_of_getElem? (i := 840) (by decide +kernel)) rfl
theorem ws_X6_keep : Cond.selects RX6 yX6_keep yX6_keep ∈ tb := mem_tb (List.mem_of_getElem? (i := 841) (by decide +kernel)) rfl
theorem wl_L_143 : Cond.methodLink RL 143 yX7_keep ∈ tb := mem_tb (List.mem_of_getElem? (i := 1331) (by decide +kernel)) rfl
theorem wc_X7_keep : Cond.code yX7_keep cX7_keep 3 (some .int) ∈ tb := mem_tb (List.mem_of_getElem? (i := 1334) (by decide +kernel)) rfl
theorem wi_X7_keep : Cond.instanceMethod yX7_keep ∈ tb := mem_tb (List.mem_of_getElem? (i := 1332) (by decide +kernel)) rfl
theorem ws_X7_keep : Cond.selects RX7 yX7_keep yX7_keep ∈ tb := mem_tb (List.mem_of_getElem? (i := 1333) (by decide +kernel)) rfl
theorem wl_L_144 : Cond.methodLink RL 144 yX6_goBack ∈ tb := mem_tb (List.mem_of_getElem? (i := 847) (by decide +kernel)) rfl
theorem wc_X6_goBack : Cond.code yX6_goBack cX6_goBack 2 (some .int) ∈ tb := mem_tb (List.mem_of_getElem? (i := 850) (by decide +kernel)) rfl
theorem wi_X6_goBack : Cond.instanceMethod yX6_goBack ∈ tb := mem_tb (List.mem_of_getElem? (i := 848) (by decide +kernel)) rfl
theorem ws_X6_goBack : Cond.selects RX6 yX6_goBack yX6_goBack ∈ tb := mem_tb (List.mem_of_getElem? (i := 849) (by decide +kernel)) rfl
theorem wl_L_147 : Cond.methodLink RL 147 yX7_goBack ∈ tb := mem_tb (List.mem_of_getElem? (i := 1335) (by decide +kernel)) rfl
theorem wc_X7_goBack : Cond.code yX7_goBack cX7_goBack 3 (some .int) ∈ tb := mem_tb (List.mem_of_getElem? (i := 1338) (by decide +kernel)) rfl
theorem wi_X7_goBack : Cond.instanceMethod yX7_goBack ∈ tb := mem_tb (List.mem_of_getElem? (i := 1336) (by decide +kernel)) rfl
theorem ws_X7_goBack : Cond.selects RX7 yX7_goBack yX7_goBack ∈ tb := mem_tb (List.mem_of_getElem? (i := 1337) (by decide +kernel)) rfl
theorem wl_L_75 : Cond.methodLink RL 75 yX6_run ∈ tb := mem_tb (List.mem_of_getElem? (i := 714) (by decide +kernel)) rfl
theorem wc_X6_run : Cond.code yX6_run cX6_run 6 (some .int) ∈ tb := mem_tb (List.mem_of_getElem? (i := 717) (by decide +kernel)) rfl
theorem wi_X6_run : Cond.instanceMethod yX6_run ∈ tb := mem_tb (List.mem_of_getElem? (i := 715) (by decide +kernel)) rfl
theorem ws_X6_run : Cond.selects RX6 yX6_run yX6_run ∈ tb := mem_tb (List.mem_of_getElem? (i := 716) (by decide +kernel)) rfl
theorem wl_L_79 : Cond.methodLink RL 79 yX7_run ∈ tb := mem_tb (List.mem_of_getElem? (i := 1172) (by decide +kernel)) rfl
theorem wc_X7_run : Cond.code yX7_run cX7_run 7 (some .int) ∈ tb := mem_tb (List.mem_of_getElem? (i := 1175) (by decide +kernel)) rfl
theorem wi_X7_run : Cond.instanceMethod yX7_run ∈ tb := mem_tb (List.mem_of_getElem? (i := 1173) (by decide +kernel)) rfl
theorem ws_X7_run : Cond.selects RX7 yX7_run yX7_run ∈ tb := mem_tb (List.mem_of_getElem? (i := 1174) (by decide +kernel)) rfl
theorem wl_L_56 : Cond.methodLink RL 56 yX6_lesson ∈ tb := mem_tb (List.mem_of_getElem? (i := 531) (by decide +kernel)) rfl
theorem wc_X6_lesson : Cond.code yX6_lesson cX6_lesson 5 (some .int) ∈ tb := mem_tb (List.mem_of_getElem? (i := 534) (by decide +kernel)) rfl
theorem wi_X6_lesson : Cond.instanceMethod yX6_lesson ∈ tb := mem_tb (List.mem_of_getElem? (i := 532) (by decide +kernel)) rfl
theorem ws_X6_lesson : Cond.selects RX6 yX6_lesson yX6_lesson ∈ tb := mem_tb (List.mem_of_getElem? (i := 533) (by decide +kernel)) rfl
theorem wl_L_60 : Cond.methodLink RL 60 yX7_lesson ∈ tb := mem_tb (List.mem_of_getElem? (i := 1086) (by decide +kernel)) rfl
theorem wc_X7_lesson : Cond.code yX7_lesson cX7_lesson 5 (some .int) ∈ tb := mem_tb (List.mem_of_getElem? (i := 1089) (by decide +kernel)) rfl
theorem wi_X7_lesson : Cond.instanceMethod yX7_lesson ∈ tb := mem_tb (List.mem_of_getElem? (i := 1087) (by decide +kernel)) rfl
theorem ws_X7_lesson : Cond.selects RX7 yX7_lesson yX7_lesson ∈ tb := mem_tb (List.mem_of_getElem? (i := 1088) (by decide +kernel)) rfl
theorem wl_L_51 : Cond.methodLink RL 51 yX6_guest ∈ tb := mem_tb (List.mem_of_getElem? (i := 527) (by decide +kernel)) rfl
theorem wc_X6_guest : Cond.code yX6_guest cX6_guest 3 (some .int) ∈ tb := mem_tb (List.mem_of_getElem? (i := 530) (by decide +kernel)) rfl
theorem wi_X6_guest : Cond.instanceMethod yX6_guest ∈ tb := mem_tb (List.mem_of_getElem? (i := 528) (by decide +kernel)) rfl
theorem ws_X6_guest : Cond.selects RX6 yX6_guest yX6_guest ∈ tb := mem_tb (List.mem_of_getElem? (i := 529) (by decide +kernel)) rfl
theorem wl_L_55 : Cond.methodLink RL 55 yX7_guest ∈ tb := mem_tb (List.mem_of_getElem? (i := 1082) (by decide +kernel)) rfl
theorem wc_X7_guest : Cond.code yX7_guest cX7_guest 3 (some .int) ∈ tb := mem_tb (List.mem_of_getElem? (i := 1085) (by decide +kernel)) rfl
theorem wi_X7_guest : Cond.instanceMethod yX7_guest ∈ tb := mem_tb (List.mem_of_getElem? (i := 1083) (by decide +kernel)) rfl
theorem ws_X7_guest : Cond.selects RX7 yX7_guest yX7_guest ∈ tb := mem_tb (List.mem_of_getElem? (i := 1084) (by decide +kernel)) rfl
theorem cw_L_15 : CW RL 15 RX6 yX6_feed cX6_feed 5 (some .int) 2 := ⟨wl_L_15, wi_X6_feed, ws_X6_feed, wn_X6, wc_X6_feed, by decide +kernel, by decide⟩
theorem cw_L_19 : CW RL 19 RX7 yX7_feed cX7_feed 5 (some .int) 2 := ⟨wl_L_19, wi_X7_feed, ws_X7_feed, wn_X7, wc_X7_feed, by decide +kernel, by decide⟩
theorem cw_L_20 : CW RL 20 RX6 yX6_school cX6_school 3 (some .int) 0 := ⟨wl_L_20, wi_X6_school, ws_X6_school, wn_X6, wc_X6_school, by decide +kernel, by decide⟩
theorem cw_L_24 : CW RL 24 RX7 yX7_school cX7_school 3 (some .int) 0 := ⟨wl_L_24, wi_X7_school, ws_X7_school, wn_X7, wc_X7_school, by decide +kernel, by decide⟩
theorem cw_L_25 : CW RL 25 RX6 yX6_fault cX6_fault 1 (some .int) 0 := ⟨wl_L_25, wi_X6_fault, ws_X6_fault, wn_X6, wc_X6_fault, by decide +kernel, by decide⟩
theorem cw_L_28 : CW RL 28 RX7 yX7_fault cX7_fault 1 (some .int) 0 := ⟨wl_L_28, wi_X7_fault, ws_X7_fault, wn_X7, wc_X7_fault, by decide +kernel, by decide⟩
theorem cw_L_29 : CW RL 29 RX6 yX6_count cX6_count 2 (some .int) 1 := ⟨wl_L_29, wi_X6_count, ws_X6_count, wn_X6, wc_X6_count, by decide +kernel, by decide⟩
theorem cw_L_33 : CW RL 33 RX7 yX7_count cX7_count 2 (some .int) 1 := ⟨wl_L_33, wi_X7_count, ws_X7_count, wn_X7, wc_X7_count, by decide +kernel, by decide⟩
theorem cw_L_34 : CW RL 34 RX6 yX6_pupil cX6_pupil 3 (some .int) 2 := ⟨wl_L_34, wi_X6_pupil, ws_X6_pupil, wn_X6, wc_X6_pupil, by decide +kernel, by decide⟩
theorem cw_L_38 : CW RL 38 RX7 yX7_pupil cX7_pupil 6 (some .int) 2 := ⟨wl_L_38, wi_X7_pupil, ws_X7_pupil, wn_X7, wc_X7_pupil, by decide +kernel, by decide⟩
theorem cw_L_39 : CW RL 39 RX6 yX6_leans cX6_leans 2 (some .int) 1 := ⟨wl_L_39, wi_X6_leans, ws_X6_leans, wn_X6, wc_X6_leans, by decide +kernel, by decide⟩
theorem cw_L_42 : CW RL 42 RX7 yX7_leans cX7_leans 2 (some .int) 1 := ⟨wl_L_42, wi_X7_leans, ws_X7_leans, wn_X7, wc_X7_leans, by decide +kernel, by decide⟩
theorem cw_L_43 : CW RL 43 RX6 yX6_level cX6_level 3 (some .int) 2 := ⟨wl_L_43, wi_X6_level, ws_X6_level, wn_X6, wc_X6_level, by decide +kernel, by decide⟩
theorem cw_L_46 : CW RL 46 RX7 yX7_level cX7_level 3 (some .int) 2 := ⟨wl_L_46, wi_X7_level, ws_X7_level, wn_X7, wc_X7_level, by decide +kernel, by decide⟩
theorem cw_L_47 : CW RL 47 RX6 yX6_rises cX6_rises 3 (some .int) 2 := ⟨wl_L_47, wi_X6_rises, ws_X6_rises, wn_X6, wc_X6_rises, by decide +kernel, by decide⟩
theorem cw_L_50 : CW RL 50 RX7 yX7_rises cX7_rises 4 (some .int) 2 := ⟨wl_L_50, wi_X7_rises, ws_X7_rises, wn_X7, wc_X7_rises, by decide +kernel, by decide⟩
theorem cw_L_61 : CW RL 61 RX6 yX6_exact cX6_exact 4 (some .int) 3 := ⟨wl_L_61, wi_X6_exact, ws_X6_exact, wn_X6, wc_X6_exact, by decide +kernel, by decide⟩
theorem cw_L_65 : CW RL 65 RX7 yX7_exact cX7_exact 15 (some .int) 3 := ⟨wl_L_65, wi_X7_exact, ws_X7_exact, wn_X7, wc_X7_exact, by decide +kernel, by decide⟩
theorem cw_L_66 : CW RL 66 RX6 yX6_behind cX6_behind 5 (some .int) 4 := ⟨wl_L_66, wi_X6_behind, ws_X6_behind, wn_X6, wc_X6_behind, by decide +kernel, by decide⟩
theorem cw_L_70 : CW RL 70 RX7 yX7_behind cX7_behind 10 (some .int) 4 := ⟨wl_L_70, wi_X7_behind, ws_X7_behind, wn_X7, wc_X7_behind, by decide +kernel, by decide⟩
theorem cw_L_71 : CW RL 71 RX6 yX6_up cX6_up 3 (some .int) 2 := ⟨wl_L_71, wi_X6_up, ws_X6_up, wn_X6, wc_X6_up, by decide +kernel, by decide⟩
theorem cw_L_74 : CW RL 74 RX7 yX7_up cX7_up 3 (some .int) 2 := ⟨wl_L_74, wi_X7_up, ws_X7_up, wn_X7, wc_X7_up, by decide +kernel, by decide⟩
theorem cw_L_80 : CW RL 80 RX6 yX6_master cX6_master 3 (some .int) 1 := ⟨wl_L_80, wi_X6_master, ws_X6_master, wn_X6, wc_X6_master, by decide +kernel, by decide⟩
theorem cw_L_83 : CW RL 83 RX7 yX7_master cX7_master 3 (some .int) 1 := ⟨wl_L_83, wi_X7_master, ws_X7_master, wn_X7, wc_X7_master, by decide +kernel, by decide⟩
theorem cw_L_84 : CW RL 84 RX6 yX6_summer cX6_summer 7 (some .int) 1 := ⟨wl_L_84, wi_X6_summer, ws_X6_summer, wn_X6, wc_X6_summer, by decide +kernel, by decide⟩
theorem cw_L_87 : CW RL 87 RX7 yX7_summer cX7_summer 6 (some .int) 1 := ⟨wl_L_87, wi_X7_summer, ws_X7_summer, wn_X7, wc_X7_summer, by decide +kernel, by decide⟩
theorem cw_L_88 : CW RL 88 RX6 yX6_hours cX6_hours 5 (some .int) 2 := ⟨wl_L_88, wi_X6_hours, ws_X6_hours, wn_X6, wc_X6_hours, by decide +kernel, by decide⟩
theorem cw_L_91 : CW RL 91 RX7 yX7_hours cX7_hours 6 (some .int) 2 := ⟨wl_L_91, wi_X7_hours, ws_X7_hours, wn_X7, wc_X7_hours, by decide +kernel, by decide⟩
theorem cw_L_92 : CW RL 92 RX6 yX6_fewest cX6_fewest 2 (some .int) 1 := ⟨wl_L_92, wi_X6_fewest, ws_X6_fewest, wn_X6, wc_X6_fewest, by decide +kernel, by decide⟩
theorem cw_L_95 : CW RL 95 RX7 yX7_fewest cX7_fewest 2 (some .int) 1 := ⟨wl_L_95, wi_X7_fewest, ws_X7_fewest, wn_X7, wc_X7_fewest, by decide +kernel, by decide⟩
theorem cw_L_96 : CW RL 96 RX6 yX6_row cX6_row 4 (some .int) 2 := ⟨wl_L_96, wi_X6_row, ws_X6_row, wn_X6, wc_X6_row, by decide +kernel, by decide⟩
theorem cw_L_99 : CW RL 99 RX7 yX7_row cX7_row 13 (some .int) 2 := ⟨wl_L_99, wi_X7_row, ws_X7_row, wn_X7, wc_X7_row, by decide +kernel, by decide⟩
theorem cw_L_100 : CW RL 100 RX6 yX6_stuck cX6_stuck 3 (some .int) 1 := ⟨wl_L_100, wi_X6_stuck, ws_X6_stuck, wn_X6, wc_X6_stuck, by decide +kernel, by decide⟩
theorem cw_L_103 : CW RL 103 RX7 yX7_stuck cX7_stuck 2 (some .int) 1 := ⟨wl_L_103, wi_X7_stuck, ws_X7_stuck, wn_X7, wc_X7_stuck, by decide +kernel, by decide⟩
theorem cw_L_104 : CW RL 104 RX6 yX6_worth cX6_worth 4 (some .int) 1 := ⟨wl_L_104, wi_X6_worth, ws_X6_worth, wn_X6, wc_X6_worth, by decide +kernel, by decide⟩
theorem cw_L_107 : CW RL 107 RX7 yX7_worth cX7_worth 4 (some .int) 1 := ⟨wl_L_107, wi_X7_worth, ws_X7_worth, wn_X7, wc_X7_worth, by decide +kernel, by decide⟩
theorem cw_L_108 : CW RL 108 RX6 yX6_mastered cX6_mastered 3 (some .int) 1 := ⟨wl_L_108, wi_X6_mastered, ws_X6_mastered, wn_X6, wc_X6_mastered, by decide +kernel, by decide⟩
theorem cw_L_111 : CW RL 111 RX7 yX7_mastered cX7_mastered 4 (some .int) 1 := ⟨wl_L_111, wi_X7_mastered, ws_X7_mastered, wn_X7, wc_X7_mastered, by decide +kernel, by decide⟩
theorem cw_L_112 : CW RL 112 RX6 yX6_pays cX6_pays 5 (some .int) 4 := ⟨wl_L_112, wi_X6_pays, ws_X6_pays, wn_X6, wc_X6_pays, by decide +kernel, by decide⟩
theorem cw_L_115 : CW RL 115 RX7 yX7_pays cX7_pays 5 (some .int) 4 := ⟨wl_L_115, wi_X7_pays, ws_X7_pays, wn_X7, wc_X7_pays, by decide +kernel, by decide⟩
theorem cw_L_116 : CW RL 116 RX6 yX6_order cX6_order 3 (some .int) 1 := ⟨wl_L_116, wi_X6_order, ws_X6_order, wn_X6, wc_X6_order, by decide +kernel, by decide⟩
theorem cw_L_119 : CW RL 119 RX7 yX7_order cX7_order 5 (some .int) 1 := ⟨wl_L_119, wi_X7_order, ws_X7_order, wn_X7, wc_X7_order, by decide +kernel, by decide⟩
theorem cw_L_120 : CW RL 120 RX6 yX6_classes cX6_classes 10 (some .int) 2 := ⟨wl_L_120, wi_X6_classes, ws_X6_classes, wn_X6, wc_X6_classes, by decide +kernel, by decide⟩
theorem cw_L_123 : CW RL 123 RX7 yX7_classes cX7_classes 10 (some .int) 2 := ⟨wl_L_123, wi_X7_classes, ws_X7_classes, wn_X7, wc_X7_classes, by decide +kernel, by decide⟩
theorem cw_L_124 : CW RL 124 RX6 yX6_log cX6_log 3 (some .int) 2 := ⟨wl_L_124, wi_X6_log, ws_X6_log, wn_X6, wc_X6_log, by decide +kernel, by decide⟩
theorem cw_L_127 : CW RL 127 RX7 yX7_log cX7_log 3 (some .int) 2 := ⟨wl_L_127, wi_X7_log, ws_X7_log, wn_X7, wc_X7_log, by decide +kernel, by decide⟩
theorem cw_L_128 : CW RL 128 RX6 yX6_clear cX6_clear 2 (some .int) 0 := ⟨wl_L_128, wi_X6_clear, ws_X6_clear, wn_X6, wc_X6_clear, by decide +kernel, by decide⟩
theorem cw_L_131 : CW RL 131 RX7 yX7_clear cX7_clear 2 (some .int) 0 := ⟨wl_L_131, wi_X7_clear, ws_X7_clear, wn_X7, wc_X7_clear, by decide +kernel, by decide⟩
theorem cw_L_132 : CW RL 132 RX6 yX6_judge cX6_judge 4 (some .int) 0 := ⟨wl_L_132, wi_X6_judge, ws_X6_judge, wn_X6, wc_X6_judge, by decide +kernel, by decide⟩
theorem cw_L_135 : CW RL 135 RX7 yX7_judge cX7_judge 3 (some .int) 0 := ⟨wl_L_135, wi_X7_judge, ws_X7_judge, wn_X7, wc_X7_judge, by decide +kernel, by decide⟩
theorem cw_L_136 : CW RL 136 RX6 yX6_seed cX6_seed 3 (some .int) 1 := ⟨wl_L_136, wi_X6_seed, ws_X6_seed, wn_X6, wc_X6_seed, by decide +kernel, by decide⟩
theorem cw_L_139 : CW RL 139 RX7 yX7_seed cX7_seed 3 (some .int) 1 := ⟨wl_L_139, wi_X7_seed, ws_X7_seed, wn_X7, wc_X7_seed, by decide +kernel, by decide⟩
theorem cw_L_140 : CW RL 140 RX6 yX6_keep cX6_keep 2 (some .int) 1 := ⟨wl_L_140, wi_X6_keep, ws_X6_keep, wn_X6, wc_X6_keep, by decide +kernel, by decide⟩
theorem cw_L_143 : CW RL 143 RX7 yX7_keep cX7_keep 3 (some .int) 1 := ⟨wl_L_143, wi_X7_keep, ws_X7_keep, wn_X7, wc_X7_keep, by decide +kernel, by decide⟩
theorem cw_L_144 : CW RL 144 RX6 yX6_goBack cX6_goBack 2 (some .int) 1 := ⟨wl_L_144, wi_X6_goBack, ws_X6_goBack, wn_X6, wc_X6_goBack, by decide +kernel, by decide⟩
theorem cw_L_147 : CW RL 147 RX7 yX7_goBack cX7_goBack 3 (some .int) 1 := ⟨wl_L_147, wi_X7_goBack, ws_X7_goBack, wn_X7, wc_X7_goBack, by decide +kernel, by decide⟩
theorem cw_L_75 : CW RL 75 RX6 yX6_run cX6_run 6 (some .int) 4 := ⟨wl_L_75, wi_X6_run, ws_X6_run, wn_X6, wc_X6_run, by decide +kernel, by decide⟩
theorem cw_L_79 : CW RL 79 RX7 yX7_run cX7_run 7 (some .int) 4 := ⟨wl_L_79, wi_X7_run, ws_X7_run, wn_X7, wc_X7_run, by decide +kernel, by decide⟩
theorem cw_L_56 : CW RL 56 RX6 yX6_lesson cX6_lesson 5 (some .int) 3 := ⟨wl_L_56, wi_X6_lesson, ws_X6_lesson, wn_X6, wc_X6_lesson, by decide +kernel, by decide⟩
theorem cw_L_60 : CW RL 60 RX7 yX7_lesson cX7_lesson 5 (some .int) 3 := ⟨wl_L_60, wi_X7_lesson, ws_X7_lesson, wn_X7, wc_X7_lesson, by decide +kernel, by decide⟩
theorem cw_L_51 : CW RL 51 RX6 yX6_guest cX6_guest 3 (some .int) 1 := ⟨wl_L_51, wi_X6_guest, ws_X6_guest, wn_X6, wc_X6_guest, by decide +kernel, by decide⟩
theorem cw_L_55 : CW RL 55 RX7 yX7_guest cX7_guest 3 (some .int) 1 := ⟨wl_L_55, wi_X7_guest, ws_X7_guest, wn_X7, wc_X7_guest, by decide +kernel, by decide⟩
