/-! ===== wip/whole/p97.py: the law, call by call ===== -/
abbrev mLw (nm : String) : zc_M := (⟨"MarkCabinetLaw", nm, ""⟩, code, 4, ret)
section ZLAW
variable {G : zc_G} {mi : zc_M} {d mc ms : Nat} {Q : Option Value → zc_H → Prop} {pc : Nat} {lv : List (Option Value)} {st : List Value} {N : Nat} {sh : Nat → zc_S} {σ : zc_N} {ka na : Nat}
/-- the script is as it was -/
theorem z_scr (k : σ 0 = (G.2.2.2.2 0).2 → zz G mi d mc ms Q pc lv st (N, sh, σ) ka na) : zz G mi d mc ms Q pc lv st (N, sh, σ) ka na :=
  fun p l e R s m args below meth c Qw C H locs ls hR hS hl => k (hR.2.2.2.2 0 (by decide)).2.2 p l e R s m args below meth c Qw C H locs ls hR hS hl
theorem z_wid {h : zc_H} {ka' na' : Nat} (h1 : ka ≤ ka') (h2 : na ≤ na') (k : zz G mi d mc ms Q pc lv st h ka' na') : zz G mi d mc ms Q pc lv st h ka na :=
  fun p l e R s m args below meth c Qw C H locs ls hR hS hl => W.widen h1 h2 (k p l e R s m args below meth c Qw C H locs ls hR hS hl)
end ZLAW
/-- a call of the system and the same call of the reference: both come to their ends, with one answer -/
def two (P : zp) (A : gA) (σ : zc_N) (m8 m9 : zc_M) (As : List Value) : Prop := ∃ (d8 d9 mc ms : Nat) (Q8 : Option Value → zc_H → Prop), d8 ≤ 30 ∧ d9 ≤ 30 ∧ mc ≤ 3 ∧ ms ≤ 21 ∧ sp m8 d8 mc ms (.ref 3 :: As) (hh P σ) Q8 ∧ ∀ r h, Q8 r h → ∃ (P1 : zp) (A1 : gA) (σ1 : zc_N) (v : Int32) (σ2 : zc_N), r = some (.int v) ∧ h = hh P1 σ1 ∧ P1.1 = P.1 ∧ sp m9 d9 0 0 (.ref 32 :: As) (hh P1 σ1) (fun r_ h_ => r_ = some (.int v) ∧ h_ = hh P1 σ2) ∧ Inv P1 A1 σ2
theorem tw_print {P : zp} {A : gA} {σ : zc_N} (h : Inv P A σ) (a1 : Int32) : two P A σ mX8_print mX9_print [.int a1] := by
  obtain ⟨c, ⟨c1, c2, c3, c4, c5, c6⟩, hq⟩ := ok_print h a1
  refine ⟨4, 3, 3, 21, _, by decide, by decide, by decide, by decide, ctX8_print P σ a1 c1 c2 c3 c4 c5 c6, fun r h' q => ?_⟩
  obtain ⟨P', A', σ', v, e1, e2, e3, p9, e4, hJ⟩ := hq r h' q
  refine ⟨P', A', σ', v, _, e1, e2, e3, ?_, hJ⟩
  rw [e4]
  exact ctX9_print P' σ' a1 p9

theorem dL_law_0 : decode code 0 = .ok (.new 7, 3) := by decide +kernel
theorem dL_law_3 : decode code 3 = .ok (.dup, 1) := by decide +kernel
theorem dL_law_4 : decode code 4 = .ok (.invokespecial 9, 3) := by decide +kernel
theorem dL_law_7 : decode code 7 = .ok (.astore_n 1, 1) := by decide +kernel
theorem dL_law_8 : decode code 8 = .ok (.new 10, 3) := by decide +kernel
theorem dL_law_11 : decode code 11 = .ok (.dup, 1) := by decide +kernel
theorem dL_law_12 : decode code 12 = .ok (.invokespecial 12, 3) := by decide +kernel
theorem dL_law_15 : decode code 15 = .ok (.astore_n 2, 1) := by decide +kernel
theorem dL_law_16 : decode code 16 = .ok (.iconst 0, 1) := by decide +kernel
theorem dL_law_17 : decode code 17 = .ok (.istore_n 3, 1) := by decide +kernel
theorem dL_law_18 : decode code 18 = .ok (.iload_n 3, 1) := by decide +kernel
theorem dL_law_19 : decode code 19 = .ok (.aload_n 0, 1) := by decide +kernel
theorem dL_law_20 : decode code 20 = .ok (.arraylength, 1) := by decide +kernel
theorem dL_law_21 : decode code 21 = .ok (.bipush 6, 2) := by decide +kernel
theorem dL_law_23 : decode code 23 = .ok (.isub, 1) := by decide +kernel
theorem dL_law_24 : decode code 24 = .ok (.if_icmp .gt 764, 3) := by decide +kernel
theorem dL_law_27 : decode code 27 = .ok (.aload_n 0, 1) := by decide +kernel
theorem dL_law_28 : decode code 28 = .ok (.iload_n 3, 1) := by decide +kernel
theorem dL_law_29 : decode code 29 = .ok (.iaload, 1) := by decide +kernel
theorem dL_law_30 : decode code 30 = .ok (.bipush 31, 2) := by decide +kernel
theorem dL_law_32 : decode code 32 = .ok (.iand, 1) := by decide +kernel
theorem dL_law_33 : decode code 33 = .ok (.tableswitch 749 0 21 #[103, 136, 159, 172, 195, 218, 251, 274, 337, 370, 393, 416, 459, 482, 515, 548, 571, 604, 627, 670, 703, 726], 103) := by decide +kernel
theorem dL_law_136 : decode code 136 = .ok (.aload_n 1, 1) := by decide +kernel
theorem dL_law_137 : decode code 137 = .ok (.aload_n 0, 1) := by decide +kernel
theorem dL_law_138 : decode code 138 = .ok (.iload_n 3, 1) := by decide +kernel
theorem dL_law_139 : decode code 139 = .ok (.iconst 1, 1) := by decide +kernel
theorem dL_law_140 : decode code 140 = .ok (.iadd, 1) := by decide +kernel
theorem dL_law_141 : decode code 141 = .ok (.iaload, 1) := by decide +kernel
theorem dL_law_142 : decode code 142 = .ok (.aload_n 0, 1) := by decide +kernel
theorem dL_law_143 : decode code 143 = .ok (.iload_n 3, 1) := by decide +kernel
theorem dL_law_144 : decode code 144 = .ok (.iconst 2, 1) := by decide +kernel
theorem dL_law_145 : decode code 145 = .ok (.iadd, 1) := by decide +kernel
theorem dL_law_146 : decode code 146 = .ok (.iaload, 1) := by decide +kernel
theorem dL_law_147 : decode code 147 = .ok (.invokevirtual 13, 3) := by decide +kernel
theorem dL_law_150 : decode code 150 = .ok (.aload_n 2, 1) := by decide +kernel
theorem dL_law_151 : decode code 151 = .ok (.aload_n 0, 1) := by decide +kernel
theorem dL_law_152 : decode code 152 = .ok (.iload_n 3, 1) := by decide +kernel
theorem dL_law_153 : decode code 153 = .ok (.iconst 1, 1) := by decide +kernel
theorem dL_law_154 : decode code 154 = .ok (.iadd, 1) := by decide +kernel
theorem dL_law_155 : decode code 155 = .ok (.iaload, 1) := by decide +kernel
theorem dL_law_156 : decode code 156 = .ok (.aload_n 0, 1) := by decide +kernel
theorem dL_law_157 : decode code 157 = .ok (.iload_n 3, 1) := by decide +kernel
theorem dL_law_158 : decode code 158 = .ok (.iconst 2, 1) := by decide +kernel
theorem dL_law_159 : decode code 159 = .ok (.iadd, 1) := by decide +kernel
theorem dL_law_160 : decode code 160 = .ok (.iaload, 1) := by decide +kernel
theorem dL_law_161 : decode code 161 = .ok (.invokevirtual 17, 3) := by decide +kernel
theorem dL_law_164 : decode code 164 = .ok (.if_icmp .eq 618, 3) := by decide +kernel
theorem dL_law_167 : decode code 167 = .ok (.iconst 0, 1) := by decide +kernel
theorem dL_law_168 : decode code 168 = .ok (.ireturn, 1) := by decide +kernel
theorem dL_law_169 : decode code 169 = .ok (.aload_n 1, 1) := by decide +kernel
theorem dL_law_170 : decode code 170 = .ok (.aload_n 0, 1) := by decide +kernel
theorem dL_law_171 : decode code 171 = .ok (.iload_n 3, 1) := by decide +kernel
theorem dL_law_172 : decode code 172 = .ok (.iconst 1, 1) := by decide +kernel
theorem dL_law_173 : decode code 173 = .ok (.iadd, 1) := by decide +kernel
theorem dL_law_174 : decode code 174 = .ok (.iaload, 1) := by decide +kernel
theorem dL_law_175 : decode code 175 = .ok (.invokevirtual 18, 3) := by decide +kernel
theorem dL_law_178 : decode code 178 = .ok (.aload_n 2, 1) := by decide +kernel
theorem dL_law_179 : decode code 179 = .ok (.aload_n 0, 1) := by decide +kernel
theorem dL_law_180 : decode code 180 = .ok (.iload_n 3, 1) := by decide +kernel
theorem dL_law_181 : decode code 181 = .ok (.iconst 1, 1) := by decide +kernel
theorem dL_law_182 : decode code 182 = .ok (.iadd, 1) := by decide +kernel
theorem dL_law_183 : decode code 183 = .ok (.iaload, 1) := by decide +kernel
theorem dL_law_184 : decode code 184 = .ok (.invokevirtual 22, 3) := by decide +kernel
theorem dL_law_187 : decode code 187 = .ok (.if_icmp .eq 595, 3) := by decide +kernel
theorem dL_law_190 : decode code 190 = .ok (.iconst 0, 1) := by decide +kernel
theorem dL_law_191 : decode code 191 = .ok (.ireturn, 1) := by decide +kernel
theorem dL_law_192 : decode code 192 = .ok (.aload_n 1, 1) := by decide +kernel
theorem dL_law_193 : decode code 193 = .ok (.invokevirtual 23, 3) := by decide +kernel
theorem dL_law_196 : decode code 196 = .ok (.aload_n 2, 1) := by decide +kernel
theorem dL_law_197 : decode code 197 = .ok (.invokevirtual 27, 3) := by decide +kernel
theorem dL_law_200 : decode code 200 = .ok (.if_icmp .eq 582, 3) := by decide +kernel
theorem dL_law_203 : decode code 203 = .ok (.iconst 0, 1) := by decide +kernel
theorem dL_law_204 : decode code 204 = .ok (.ireturn, 1) := by decide +kernel
theorem dL_law_205 : decode code 205 = .ok (.aload_n 1, 1) := by decide +kernel
theorem dL_law_206 : decode code 206 = .ok (.aload_n 0, 1) := by decide +kernel
theorem dL_law_207 : decode code 207 = .ok (.iload_n 3, 1) := by decide +kernel
theorem dL_law_208 : decode code 208 = .ok (.iconst 1, 1) := by decide +kernel
theorem dL_law_209 : decode code 209 = .ok (.iadd, 1) := by decide +kernel
theorem dL_law_210 : decode code 210 = .ok (.iaload, 1) := by decide +kernel
theorem dL_law_211 : decode code 211 = .ok (.invokevirtual 28, 3) := by decide +kernel
theorem dL_law_214 : decode code 214 = .ok (.aload_n 2, 1) := by decide +kernel
theorem dL_law_215 : decode code 215 = .ok (.aload_n 0, 1) := by decide +kernel
theorem dL_law_216 : decode code 216 = .ok (.iload_n 3, 1) := by decide +kernel
theorem dL_law_217 : decode code 217 = .ok (.iconst 1, 1) := by decide +kernel
theorem dL_law_218 : decode code 218 = .ok (.iadd, 1) := by decide +kernel
theorem dL_law_219 : decode code 219 = .ok (.iaload, 1) := by decide +kernel
theorem dL_law_220 : decode code 220 = .ok (.invokevirtual 31, 3) := by decide +kernel
theorem dL_law_223 : decode code 223 = .ok (.if_icmp .eq 559, 3) := by decide +kernel
theorem dL_law_226 : decode code 226 = .ok (.iconst 0, 1) := by decide +kernel
theorem dL_law_227 : decode code 227 = .ok (.ireturn, 1) := by decide +kernel
theorem dL_law_228 : decode code 228 = .ok (.aload_n 1, 1) := by decide +kernel
theorem dL_law_229 : decode code 229 = .ok (.aload_n 0, 1) := by decide +kernel
theorem dL_law_230 : decode code 230 = .ok (.iload_n 3, 1) := by decide +kernel
theorem dL_law_231 : decode code 231 = .ok (.iconst 1, 1) := by decide +kernel
theorem dL_law_232 : decode code 232 = .ok (.iadd, 1) := by decide +kernel
theorem dL_law_233 : decode code 233 = .ok (.iaload, 1) := by decide +kernel
theorem dL_law_234 : decode code 234 = .ok (.invokevirtual 32, 3) := by decide +kernel
theorem dL_law_237 : decode code 237 = .ok (.aload_n 2, 1) := by decide +kernel
theorem dL_law_238 : decode code 238 = .ok (.aload_n 0, 1) := by decide +kernel
theorem dL_law_239 : decode code 239 = .ok (.iload_n 3, 1) := by decide +kernel
theorem dL_law_240 : decode code 240 = .ok (.iconst 1, 1) := by decide +kernel
theorem dL_law_241 : decode code 241 = .ok (.iadd, 1) := by decide +kernel
theorem dL_law_242 : decode code 242 = .ok (.iaload, 1) := by decide +kernel
theorem dL_law_243 : decode code 243 = .ok (.invokevirtual 35, 3) := by decide +kernel
theorem dL_law_246 : decode code 246 = .ok (.if_icmp .eq 536, 3) := by decide +kernel
theorem dL_law_249 : decode code 249 = .ok (.iconst 0, 1) := by decide +kernel
theorem dL_law_250 : decode code 250 = .ok (.ireturn, 1) := by decide +kernel
theorem dL_law_251 : decode code 251 = .ok (.aload_n 1, 1) := by decide +kernel
theorem dL_law_252 : decode code 252 = .ok (.aload_n 0, 1) := by decide +kernel
theorem dL_law_253 : decode code 253 = .ok (.iload_n 3, 1) := by decide +kernel
theorem dL_law_254 : decode code 254 = .ok (.iconst 1, 1) := by decide +kernel
theorem dL_law_255 : decode code 255 = .ok (.iadd, 1) := by decide +kernel
theorem dL_law_256 : decode code 256 = .ok (.iaload, 1) := by decide +kernel
theorem dL_law_257 : decode code 257 = .ok (.aload_n 0, 1) := by decide +kernel
theorem dL_law_258 : decode code 258 = .ok (.iload_n 3, 1) := by decide +kernel
theorem dL_law_259 : decode code 259 = .ok (.iconst 2, 1) := by decide +kernel
theorem dL_law_260 : decode code 260 = .ok (.iadd, 1) := by decide +kernel
theorem dL_law_261 : decode code 261 = .ok (.iaload, 1) := by decide +kernel
theorem dL_law_262 : decode code 262 = .ok (.invokevirtual 36, 3) := by decide +kernel
theorem dL_law_265 : decode code 265 = .ok (.aload_n 2, 1) := by decide +kernel
theorem dL_law_266 : decode code 266 = .ok (.aload_n 0, 1) := by decide +kernel
theorem dL_law_267 : decode code 267 = .ok (.iload_n 3, 1) := by decide +kernel
theorem dL_law_268 : decode code 268 = .ok (.iconst 1, 1) := by decide +kernel
theorem dL_law_269 : decode code 269 = .ok (.iadd, 1) := by decide +kernel
theorem dL_law_270 : decode code 270 = .ok (.iaload, 1) := by decide +kernel
theorem dL_law_271 : decode code 271 = .ok (.aload_n 0, 1) := by decide +kernel
theorem dL_law_272 : decode code 272 = .ok (.iload_n 3, 1) := by decide +kernel
theorem dL_law_273 : decode code 273 = .ok (.iconst 2, 1) := by decide +kernel
theorem dL_law_274 : decode code 274 = .ok (.iadd, 1) := by decide +kernel
theorem dL_law_275 : decode code 275 = .ok (.iaload, 1) := by decide +kernel
theorem dL_law_276 : decode code 276 = .ok (.invokevirtual 39, 3) := by decide +kernel
theorem dL_law_279 : decode code 279 = .ok (.if_icmp .eq 503, 3) := by decide +kernel
theorem dL_law_282 : decode code 282 = .ok (.iconst 0, 1) := by decide +kernel
theorem dL_law_283 : decode code 283 = .ok (.ireturn, 1) := by decide +kernel
theorem dL_law_284 : decode code 284 = .ok (.aload_n 1, 1) := by decide +kernel
theorem dL_law_285 : decode code 285 = .ok (.aload_n 0, 1) := by decide +kernel
theorem dL_law_286 : decode code 286 = .ok (.iload_n 3, 1) := by decide +kernel
theorem dL_law_287 : decode code 287 = .ok (.iconst 1, 1) := by decide +kernel
theorem dL_law_288 : decode code 288 = .ok (.iadd, 1) := by decide +kernel
theorem dL_law_289 : decode code 289 = .ok (.iaload, 1) := by decide +kernel
theorem dL_law_290 : decode code 290 = .ok (.invokevirtual 40, 3) := by decide +kernel
theorem dL_law_293 : decode code 293 = .ok (.aload_n 2, 1) := by decide +kernel
theorem dL_law_294 : decode code 294 = .ok (.aload_n 0, 1) := by decide +kernel
theorem dL_law_295 : decode code 295 = .ok (.iload_n 3, 1) := by decide +kernel
theorem dL_law_296 : decode code 296 = .ok (.iconst 1, 1) := by decide +kernel
theorem dL_law_297 : decode code 297 = .ok (.iadd, 1) := by decide +kernel
theorem dL_law_298 : decode code 298 = .ok (.iaload, 1) := by decide +kernel
theorem dL_law_299 : decode code 299 = .ok (.invokevirtual 43, 3) := by decide +kernel
theorem dL_law_302 : decode code 302 = .ok (.if_icmp .eq 480, 3) := by decide +kernel
theorem dL_law_305 : decode code 305 = .ok (.iconst 0, 1) := by decide +kernel
theorem dL_law_306 : decode code 306 = .ok (.ireturn, 1) := by decide +kernel
theorem dL_law_307 : decode code 307 = .ok (.aload_n 1, 1) := by decide +kernel
theorem dL_law_308 : decode code 308 = .ok (.aload_n 0, 1) := by decide +kernel
theorem dL_law_309 : decode code 309 = .ok (.iload_n 3, 1) := by decide +kernel
theorem dL_law_310 : decode code 310 = .ok (.iconst 1, 1) := by decide +kernel
theorem dL_law_311 : decode code 311 = .ok (.iadd, 1) := by decide +kernel
theorem dL_law_312 : decode code 312 = .ok (.iaload, 1) := by decide +kernel
theorem dL_law_313 : decode code 313 = .ok (.aload_n 0, 1) := by decide +kernel
theorem dL_law_314 : decode code 314 = .ok (.iload_n 3, 1) := by decide +kernel
theorem dL_law_315 : decode code 315 = .ok (.iconst 2, 1) := by decide +kernel
theorem dL_law_316 : decode code 316 = .ok (.iadd, 1) := by decide +kernel
theorem dL_law_317 : decode code 317 = .ok (.iaload, 1) := by decide +kernel
theorem dL_law_318 : decode code 318 = .ok (.aload_n 0, 1) := by decide +kernel
theorem dL_law_319 : decode code 319 = .ok (.iload_n 3, 1) := by decide +kernel
theorem dL_law_320 : decode code 320 = .ok (.iconst 3, 1) := by decide +kernel
theorem dL_law_321 : decode code 321 = .ok (.iadd, 1) := by decide +kernel
theorem dL_law_322 : decode code 322 = .ok (.iaload, 1) := by decide +kernel
theorem dL_law_323 : decode code 323 = .ok (.aload_n 0, 1) := by decide +kernel
theorem dL_law_324 : decode code 324 = .ok (.iload_n 3, 1) := by decide +kernel
theorem dL_law_325 : decode code 325 = .ok (.iconst 4, 1) := by decide +kernel
theorem dL_law_326 : decode code 326 = .ok (.iadd, 1) := by decide +kernel
theorem dL_law_327 : decode code 327 = .ok (.iaload, 1) := by decide +kernel
theorem dL_law_328 : decode code 328 = .ok (.aload_n 0, 1) := by decide +kernel
theorem dL_law_329 : decode code 329 = .ok (.iload_n 3, 1) := by decide +kernel
theorem dL_law_330 : decode code 330 = .ok (.iconst 5, 1) := by decide +kernel
theorem dL_law_331 : decode code 331 = .ok (.iadd, 1) := by decide +kernel
theorem dL_law_332 : decode code 332 = .ok (.iaload, 1) := by decide +kernel
theorem dL_law_333 : decode code 333 = .ok (.invokevirtual 44, 3) := by decide +kernel
theorem dL_law_336 : decode code 336 = .ok (.aload_n 2, 1) := by decide +kernel
theorem dL_law_337 : decode code 337 = .ok (.aload_n 0, 1) := by decide +kernel
theorem dL_law_338 : decode code 338 = .ok (.iload_n 3, 1) := by decide +kernel
theorem dL_law_339 : decode code 339 = .ok (.iconst 1, 1) := by decide +kernel
theorem dL_law_340 : decode code 340 = .ok (.iadd, 1) := by decide +kernel
theorem dL_law_341 : decode code 341 = .ok (.iaload, 1) := by decide +kernel
theorem dL_law_342 : decode code 342 = .ok (.aload_n 0, 1) := by decide +kernel
theorem dL_law_343 : decode code 343 = .ok (.iload_n 3, 1) := by decide +kernel
theorem dL_law_344 : decode code 344 = .ok (.iconst 2, 1) := by decide +kernel
theorem dL_law_345 : decode code 345 = .ok (.iadd, 1) := by decide +kernel
theorem dL_law_346 : decode code 346 = .ok (.iaload, 1) := by decide +kernel
theorem dL_law_347 : decode code 347 = .ok (.aload_n 0, 1) := by decide +kernel
theorem dL_law_348 : decode code 348 = .ok (.iload_n 3, 1) := by decide +kernel
theorem dL_law_349 : decode code 349 = .ok (.iconst 3, 1) := by decide +kernel
theorem dL_law_350 : decode code 350 = .ok (.iadd, 1) := by decide +kernel
theorem dL_law_351 : decode code 351 = .ok (.iaload, 1) := by decide +kernel
theorem dL_law_352 : decode code 352 = .ok (.aload_n 0, 1) := by decide +kernel
theorem dL_law_353 : decode code 353 = .ok (.iload_n 3, 1) := by decide +kernel
theorem dL_law_354 : decode code 354 = .ok (.iconst 4, 1) := by decide +kernel
theorem dL_law_355 : decode code 355 = .ok (.iadd, 1) := by decide +kernel
theorem dL_law_356 : decode code 356 = .ok (.iaload, 1) := by decide +kernel
theorem dL_law_357 : decode code 357 = .ok (.aload_n 0, 1) := by decide +kernel
theorem dL_law_358 : decode code 358 = .ok (.iload_n 3, 1) := by decide +kernel
theorem dL_law_359 : decode code 359 = .ok (.iconst 5, 1) := by decide +kernel
theorem dL_law_360 : decode code 360 = .ok (.iadd, 1) := by decide +kernel
theorem dL_law_361 : decode code 361 = .ok (.iaload, 1) := by decide +kernel
theorem dL_law_362 : decode code 362 = .ok (.invokevirtual 48, 3) := by decide +kernel
theorem dL_law_365 : decode code 365 = .ok (.if_icmp .eq 417, 3) := by decide +kernel
theorem dL_law_368 : decode code 368 = .ok (.iconst 0, 1) := by decide +kernel
theorem dL_law_369 : decode code 369 = .ok (.ireturn, 1) := by decide +kernel
theorem dL_law_370 : decode code 370 = .ok (.aload_n 1, 1) := by decide +kernel
theorem dL_law_371 : decode code 371 = .ok (.aload_n 0, 1) := by decide +kernel
theorem dL_law_372 : decode code 372 = .ok (.iload_n 3, 1) := by decide +kernel
theorem dL_law_373 : decode code 373 = .ok (.iconst 1, 1) := by decide +kernel
theorem dL_law_374 : decode code 374 = .ok (.iadd, 1) := by decide +kernel
theorem dL_law_375 : decode code 375 = .ok (.iaload, 1) := by decide +kernel
theorem dL_law_376 : decode code 376 = .ok (.aload_n 0, 1) := by decide +kernel
theorem dL_law_377 : decode code 377 = .ok (.iload_n 3, 1) := by decide +kernel
theorem dL_law_378 : decode code 378 = .ok (.iconst 2, 1) := by decide +kernel
theorem dL_law_379 : decode code 379 = .ok (.iadd, 1) := by decide +kernel
theorem dL_law_380 : decode code 380 = .ok (.iaload, 1) := by decide +kernel
theorem dL_law_381 : decode code 381 = .ok (.invokevirtual 49, 3) := by decide +kernel
theorem dL_law_384 : decode code 384 = .ok (.aload_n 2, 1) := by decide +kernel
theorem dL_law_385 : decode code 385 = .ok (.aload_n 0, 1) := by decide +kernel
theorem dL_law_386 : decode code 386 = .ok (.iload_n 3, 1) := by decide +kernel
theorem dL_law_387 : decode code 387 = .ok (.iconst 1, 1) := by decide +kernel
theorem dL_law_388 : decode code 388 = .ok (.iadd, 1) := by decide +kernel
theorem dL_law_389 : decode code 389 = .ok (.iaload, 1) := by decide +kernel
theorem dL_law_390 : decode code 390 = .ok (.aload_n 0, 1) := by decide +kernel
theorem dL_law_391 : decode code 391 = .ok (.iload_n 3, 1) := by decide +kernel
theorem dL_law_392 : decode code 392 = .ok (.iconst 2, 1) := by decide +kernel
theorem dL_law_393 : decode code 393 = .ok (.iadd, 1) := by decide +kernel
theorem dL_law_394 : decode code 394 = .ok (.iaload, 1) := by decide +kernel
theorem dL_law_395 : decode code 395 = .ok (.invokevirtual 52, 3) := by decide +kernel
theorem dL_law_398 : decode code 398 = .ok (.if_icmp .eq 384, 3) := by decide +kernel
theorem dL_law_401 : decode code 401 = .ok (.iconst 0, 1) := by decide +kernel
theorem dL_law_402 : decode code 402 = .ok (.ireturn, 1) := by decide +kernel
theorem dL_law_403 : decode code 403 = .ok (.aload_n 1, 1) := by decide +kernel
theorem dL_law_404 : decode code 404 = .ok (.aload_n 0, 1) := by decide +kernel
theorem dL_law_405 : decode code 405 = .ok (.iload_n 3, 1) := by decide +kernel
theorem dL_law_406 : decode code 406 = .ok (.iconst 1, 1) := by decide +kernel
theorem dL_law_407 : decode code 407 = .ok (.iadd, 1) := by decide +kernel
theorem dL_law_408 : decode code 408 = .ok (.iaload, 1) := by decide +kernel
theorem dL_law_409 : decode code 409 = .ok (.invokevirtual 53, 3) := by decide +kernel
theorem dL_law_412 : decode code 412 = .ok (.aload_n 2, 1) := by decide +kernel
theorem dL_law_413 : decode code 413 = .ok (.aload_n 0, 1) := by decide +kernel
theorem dL_law_414 : decode code 414 = .ok (.iload_n 3, 1) := by decide +kernel
theorem dL_law_415 : decode code 415 = .ok (.iconst 1, 1) := by decide +kernel
theorem dL_law_416 : decode code 416 = .ok (.iadd, 1) := by decide +kernel
theorem dL_law_417 : decode code 417 = .ok (.iaload, 1) := by decide +kernel
theorem dL_law_418 : decode code 418 = .ok (.invokevirtual 56, 3) := by decide +kernel
theorem dL_law_421 : decode code 421 = .ok (.if_icmp .eq 361, 3) := by decide +kernel
theorem dL_law_424 : decode code 424 = .ok (.iconst 0, 1) := by decide +kernel
theorem dL_law_425 : decode code 425 = .ok (.ireturn, 1) := by decide +kernel
theorem dL_law_426 : decode code 426 = .ok (.aload_n 1, 1) := by decide +kernel
theorem dL_law_427 : decode code 427 = .ok (.aload_n 0, 1) := by decide +kernel
theorem dL_law_428 : decode code 428 = .ok (.iload_n 3, 1) := by decide +kernel
theorem dL_law_429 : decode code 429 = .ok (.iconst 1, 1) := by decide +kernel
theorem dL_law_430 : decode code 430 = .ok (.iadd, 1) := by decide +kernel
theorem dL_law_431 : decode code 431 = .ok (.iaload, 1) := by decide +kernel
theorem dL_law_432 : decode code 432 = .ok (.invokevirtual 57, 3) := by decide +kernel
theorem dL_law_435 : decode code 435 = .ok (.aload_n 2, 1) := by decide +kernel
theorem dL_law_436 : decode code 436 = .ok (.aload_n 0, 1) := by decide +kernel
theorem dL_law_437 : decode code 437 = .ok (.iload_n 3, 1) := by decide +kernel
theorem dL_law_438 : decode code 438 = .ok (.iconst 1, 1) := by decide +kernel
theorem dL_law_439 : decode code 439 = .ok (.iadd, 1) := by decide +kernel
theorem dL_law_440 : decode code 440 = .ok (.iaload, 1) := by decide +kernel
theorem dL_law_441 : decode code 441 = .ok (.invokevirtual 60, 3) := by decide +kernel
theorem dL_law_444 : decode code 444 = .ok (.if_icmp .eq 338, 3) := by decide +kernel
theorem dL_law_447 : decode code 447 = .ok (.iconst 0, 1) := by decide +kernel
theorem dL_law_448 : decode code 448 = .ok (.ireturn, 1) := by decide +kernel
theorem dL_law_449 : decode code 449 = .ok (.aload_n 1, 1) := by decide +kernel
theorem dL_law_450 : decode code 450 = .ok (.aload_n 0, 1) := by decide +kernel
theorem dL_law_451 : decode code 451 = .ok (.iload_n 3, 1) := by decide +kernel
theorem dL_law_452 : decode code 452 = .ok (.iconst 1, 1) := by decide +kernel
theorem dL_law_453 : decode code 453 = .ok (.iadd, 1) := by decide +kernel
theorem dL_law_454 : decode code 454 = .ok (.iaload, 1) := by decide +kernel
theorem dL_law_455 : decode code 455 = .ok (.aload_n 0, 1) := by decide +kernel
theorem dL_law_456 : decode code 456 = .ok (.iload_n 3, 1) := by decide +kernel
theorem dL_law_457 : decode code 457 = .ok (.iconst 2, 1) := by decide +kernel
theorem dL_law_458 : decode code 458 = .ok (.iadd, 1) := by decide +kernel
theorem dL_law_459 : decode code 459 = .ok (.iaload, 1) := by decide +kernel
theorem dL_law_460 : decode code 460 = .ok (.aload_n 0, 1) := by decide +kernel
theorem dL_law_461 : decode code 461 = .ok (.iload_n 3, 1) := by decide +kernel
theorem dL_law_462 : decode code 462 = .ok (.iconst 3, 1) := by decide +kernel
theorem dL_law_463 : decode code 463 = .ok (.iadd, 1) := by decide +kernel
theorem dL_law_464 : decode code 464 = .ok (.iaload, 1) := by decide +kernel
theorem dL_law_465 : decode code 465 = .ok (.invokevirtual 61, 3) := by decide +kernel
theorem dL_law_468 : decode code 468 = .ok (.aload_n 2, 1) := by decide +kernel
theorem dL_law_469 : decode code 469 = .ok (.aload_n 0, 1) := by decide +kernel
theorem dL_law_470 : decode code 470 = .ok (.iload_n 3, 1) := by decide +kernel
theorem dL_law_471 : decode code 471 = .ok (.iconst 1, 1) := by decide +kernel
theorem dL_law_472 : decode code 472 = .ok (.iadd, 1) := by decide +kernel
theorem dL_law_473 : decode code 473 = .ok (.iaload, 1) := by decide +kernel
theorem dL_law_474 : decode code 474 = .ok (.aload_n 0, 1) := by decide +kernel
theorem dL_law_475 : decode code 475 = .ok (.iload_n 3, 1) := by decide +kernel
theorem dL_law_476 : decode code 476 = .ok (.iconst 2, 1) := by decide +kernel
theorem dL_law_477 : decode code 477 = .ok (.iadd, 1) := by decide +kernel
theorem dL_law_478 : decode code 478 = .ok (.iaload, 1) := by decide +kernel
theorem dL_law_479 : decode code 479 = .ok (.aload_n 0, 1) := by decide +kernel
theorem dL_law_480 : decode code 480 = .ok (.iload_n 3, 1) := by decide +kernel
theorem dL_law_481 : decode code 481 = .ok (.iconst 3, 1) := by decide +kernel
theorem dL_law_482 : decode code 482 = .ok (.iadd, 1) := by decide +kernel
theorem dL_law_483 : decode code 483 = .ok (.iaload, 1) := by decide +kernel
theorem dL_law_484 : decode code 484 = .ok (.invokevirtual 65, 3) := by decide +kernel
theorem dL_law_487 : decode code 487 = .ok (.if_icmp .eq 295, 3) := by decide +kernel
theorem dL_law_490 : decode code 490 = .ok (.iconst 0, 1) := by decide +kernel
theorem dL_law_491 : decode code 491 = .ok (.ireturn, 1) := by decide +kernel
theorem dL_law_492 : decode code 492 = .ok (.aload_n 1, 1) := by decide +kernel
theorem dL_law_493 : decode code 493 = .ok (.aload_n 0, 1) := by decide +kernel
theorem dL_law_494 : decode code 494 = .ok (.iload_n 3, 1) := by decide +kernel
theorem dL_law_495 : decode code 495 = .ok (.iconst 1, 1) := by decide +kernel
theorem dL_law_496 : decode code 496 = .ok (.iadd, 1) := by decide +kernel
theorem dL_law_497 : decode code 497 = .ok (.iaload, 1) := by decide +kernel
theorem dL_law_498 : decode code 498 = .ok (.invokevirtual 66, 3) := by decide +kernel
theorem dL_law_501 : decode code 501 = .ok (.aload_n 2, 1) := by decide +kernel
theorem dL_law_502 : decode code 502 = .ok (.aload_n 0, 1) := by decide +kernel
theorem dL_law_503 : decode code 503 = .ok (.iload_n 3, 1) := by decide +kernel
theorem dL_law_504 : decode code 504 = .ok (.iconst 1, 1) := by decide +kernel
theorem dL_law_505 : decode code 505 = .ok (.iadd, 1) := by decide +kernel
theorem dL_law_506 : decode code 506 = .ok (.iaload, 1) := by decide +kernel
theorem dL_law_507 : decode code 507 = .ok (.invokevirtual 69, 3) := by decide +kernel
theorem dL_law_510 : decode code 510 = .ok (.if_icmp .eq 272, 3) := by decide +kernel
theorem dL_law_513 : decode code 513 = .ok (.iconst 0, 1) := by decide +kernel
theorem dL_law_514 : decode code 514 = .ok (.ireturn, 1) := by decide +kernel
theorem dL_law_515 : decode code 515 = .ok (.aload_n 1, 1) := by decide +kernel
theorem dL_law_516 : decode code 516 = .ok (.aload_n 0, 1) := by decide +kernel
theorem dL_law_517 : decode code 517 = .ok (.iload_n 3, 1) := by decide +kernel
theorem dL_law_518 : decode code 518 = .ok (.iconst 1, 1) := by decide +kernel
theorem dL_law_519 : decode code 519 = .ok (.iadd, 1) := by decide +kernel
theorem dL_law_520 : decode code 520 = .ok (.iaload, 1) := by decide +kernel
theorem dL_law_521 : decode code 521 = .ok (.aload_n 0, 1) := by decide +kernel
theorem dL_law_522 : decode code 522 = .ok (.iload_n 3, 1) := by decide +kernel
theorem dL_law_523 : decode code 523 = .ok (.iconst 2, 1) := by decide +kernel
theorem dL_law_524 : decode code 524 = .ok (.iadd, 1) := by decide +kernel
theorem dL_law_525 : decode code 525 = .ok (.iaload, 1) := by decide +kernel
theorem dL_law_526 : decode code 526 = .ok (.invokevirtual 70, 3) := by decide +kernel
theorem dL_law_529 : decode code 529 = .ok (.aload_n 2, 1) := by decide +kernel
theorem dL_law_530 : decode code 530 = .ok (.aload_n 0, 1) := by decide +kernel
theorem dL_law_531 : decode code 531 = .ok (.iload_n 3, 1) := by decide +kernel
theorem dL_law_532 : decode code 532 = .ok (.iconst 1, 1) := by decide +kernel
theorem dL_law_533 : decode code 533 = .ok (.iadd, 1) := by decide +kernel
theorem dL_law_534 : decode code 534 = .ok (.iaload, 1) := by decide +kernel
theorem dL_law_535 : decode code 535 = .ok (.aload_n 0, 1) := by decide +kernel
theorem dL_law_536 : decode code 536 = .ok (.iload_n 3, 1) := by decide +kernel
theorem dL_law_537 : decode code 537 = .ok (.iconst 2, 1) := by decide +kernel
theorem dL_law_538 : decode code 538 = .ok (.iadd, 1) := by decide +kernel
theorem dL_law_539 : decode code 539 = .ok (.iaload, 1) := by decide +kernel
theorem dL_law_540 : decode code 540 = .ok (.invokevirtual 73, 3) := by decide +kernel
theorem dL_law_543 : decode code 543 = .ok (.if_icmp .eq 239, 3) := by decide +kernel
theorem dL_law_546 : decode code 546 = .ok (.iconst 0, 1) := by decide +kernel
theorem dL_law_547 : decode code 547 = .ok (.ireturn, 1) := by decide +kernel
theorem dL_law_548 : decode code 548 = .ok (.aload_n 1, 1) := by decide +kernel
theorem dL_law_549 : decode code 549 = .ok (.aload_n 0, 1) := by decide +kernel
theorem dL_law_550 : decode code 550 = .ok (.iload_n 3, 1) := by decide +kernel
theorem dL_law_551 : decode code 551 = .ok (.iconst 1, 1) := by decide +kernel
theorem dL_law_552 : decode code 552 = .ok (.iadd, 1) := by decide +kernel
theorem dL_law_553 : decode code 553 = .ok (.iaload, 1) := by decide +kernel
theorem dL_law_554 : decode code 554 = .ok (.aload_n 0, 1) := by decide +kernel
theorem dL_law_555 : decode code 555 = .ok (.iload_n 3, 1) := by decide +kernel
theorem dL_law_556 : decode code 556 = .ok (.iconst 2, 1) := by decide +kernel
theorem dL_law_557 : decode code 557 = .ok (.iadd, 1) := by decide +kernel
theorem dL_law_558 : decode code 558 = .ok (.iaload, 1) := by decide +kernel
theorem dL_law_559 : decode code 559 = .ok (.invokevirtual 74, 3) := by decide +kernel
theorem dL_law_562 : decode code 562 = .ok (.aload_n 2, 1) := by decide +kernel
theorem dL_law_563 : decode code 563 = .ok (.aload_n 0, 1) := by decide +kernel
theorem dL_law_564 : decode code 564 = .ok (.iload_n 3, 1) := by decide +kernel
theorem dL_law_565 : decode code 565 = .ok (.iconst 1, 1) := by decide +kernel
theorem dL_law_566 : decode code 566 = .ok (.iadd, 1) := by decide +kernel
theorem dL_law_567 : decode code 567 = .ok (.iaload, 1) := by decide +kernel
theorem dL_law_568 : decode code 568 = .ok (.aload_n 0, 1) := by decide +kernel
theorem dL_law_569 : decode code 569 = .ok (.iload_n 3, 1) := by decide +kernel
theorem dL_law_570 : decode code 570 = .ok (.iconst 2, 1) := by decide +kernel
theorem dL_law_571 : decode code 571 = .ok (.iadd, 1) := by decide +kernel
theorem dL_law_572 : decode code 572 = .ok (.iaload, 1) := by decide +kernel
theorem dL_law_573 : decode code 573 = .ok (.invokevirtual 77, 3) := by decide +kernel
theorem dL_law_576 : decode code 576 = .ok (.if_icmp .eq 206, 3) := by decide +kernel
theorem dL_law_579 : decode code 579 = .ok (.iconst 0, 1) := by decide +kernel
theorem dL_law_580 : decode code 580 = .ok (.ireturn, 1) := by decide +kernel
theorem dL_law_581 : decode code 581 = .ok (.aload_n 1, 1) := by decide +kernel
theorem dL_law_582 : decode code 582 = .ok (.aload_n 0, 1) := by decide +kernel
theorem dL_law_583 : decode code 583 = .ok (.iload_n 3, 1) := by decide +kernel
theorem dL_law_584 : decode code 584 = .ok (.iconst 1, 1) := by decide +kernel
theorem dL_law_585 : decode code 585 = .ok (.iadd, 1) := by decide +kernel
theorem dL_law_586 : decode code 586 = .ok (.iaload, 1) := by decide +kernel
theorem dL_law_587 : decode code 587 = .ok (.invokevirtual 78, 3) := by decide +kernel
theorem dL_law_590 : decode code 590 = .ok (.aload_n 2, 1) := by decide +kernel
theorem dL_law_591 : decode code 591 = .ok (.aload_n 0, 1) := by decide +kernel
theorem dL_law_592 : decode code 592 = .ok (.iload_n 3, 1) := by decide +kernel
theorem dL_law_593 : decode code 593 = .ok (.iconst 1, 1) := by decide +kernel
theorem dL_law_594 : decode code 594 = .ok (.iadd, 1) := by decide +kernel
theorem dL_law_595 : decode code 595 = .ok (.iaload, 1) := by decide +kernel
theorem dL_law_596 : decode code 596 = .ok (.invokevirtual 81, 3) := by decide +kernel
theorem dL_law_599 : decode code 599 = .ok (.if_icmp .eq 183, 3) := by decide +kernel
theorem dL_law_602 : decode code 602 = .ok (.iconst 0, 1) := by decide +kernel
theorem dL_law_603 : decode code 603 = .ok (.ireturn, 1) := by decide +kernel
theorem dL_law_604 : decode code 604 = .ok (.aload_n 1, 1) := by decide +kernel
theorem dL_law_605 : decode code 605 = .ok (.aload_n 0, 1) := by decide +kernel
theorem dL_law_606 : decode code 606 = .ok (.iload_n 3, 1) := by decide +kernel
theorem dL_law_607 : decode code 607 = .ok (.iconst 1, 1) := by decide +kernel
theorem dL_law_608 : decode code 608 = .ok (.iadd, 1) := by decide +kernel
theorem dL_law_609 : decode code 609 = .ok (.iaload, 1) := by decide +kernel
theorem dL_law_610 : decode code 610 = .ok (.aload_n 0, 1) := by decide +kernel
theorem dL_law_611 : decode code 611 = .ok (.iload_n 3, 1) := by decide +kernel
theorem dL_law_612 : decode code 612 = .ok (.iconst 2, 1) := by decide +kernel
theorem dL_law_613 : decode code 613 = .ok (.iadd, 1) := by decide +kernel
theorem dL_law_614 : decode code 614 = .ok (.iaload, 1) := by decide +kernel
theorem dL_law_615 : decode code 615 = .ok (.invokevirtual 82, 3) := by decide +kernel
theorem dL_law_618 : decode code 618 = .ok (.aload_n 2, 1) := by decide +kernel
theorem dL_law_619 : decode code 619 = .ok (.aload_n 0, 1) := by decide +kernel
theorem dL_law_620 : decode code 620 = .ok (.iload_n 3, 1) := by decide +kernel
theorem dL_law_621 : decode code 621 = .ok (.iconst 1, 1) := by decide +kernel
theorem dL_law_622 : decode code 622 = .ok (.iadd, 1) := by decide +kernel
theorem dL_law_623 : decode code 623 = .ok (.iaload, 1) := by decide +kernel
theorem dL_law_624 : decode code 624 = .ok (.aload_n 0, 1) := by decide +kernel
theorem dL_law_625 : decode code 625 = .ok (.iload_n 3, 1) := by decide +kernel
theorem dL_law_626 : decode code 626 = .ok (.iconst 2, 1) := by decide +kernel
theorem dL_law_627 : decode code 627 = .ok (.iadd, 1) := by decide +kernel
theorem dL_law_628 : decode code 628 = .ok (.iaload, 1) := by decide +kernel
theorem dL_law_629 : decode code 629 = .ok (.invokevirtual 85, 3) := by decide +kernel
theorem dL_law_632 : decode code 632 = .ok (.if_icmp .eq 150, 3) := by decide +kernel
theorem dL_law_635 : decode code 635 = .ok (.iconst 0, 1) := by decide +kernel
theorem dL_law_636 : decode code 636 = .ok (.ireturn, 1) := by decide +kernel
theorem dL_law_637 : decode code 637 = .ok (.aload_n 1, 1) := by decide +kernel
theorem dL_law_638 : decode code 638 = .ok (.aload_n 0, 1) := by decide +kernel
theorem dL_law_639 : decode code 639 = .ok (.iload_n 3, 1) := by decide +kernel
theorem dL_law_640 : decode code 640 = .ok (.iconst 1, 1) := by decide +kernel
theorem dL_law_641 : decode code 641 = .ok (.iadd, 1) := by decide +kernel
theorem dL_law_642 : decode code 642 = .ok (.iaload, 1) := by decide +kernel
theorem dL_law_643 : decode code 643 = .ok (.invokevirtual 86, 3) := by decide +kernel
theorem dL_law_646 : decode code 646 = .ok (.aload_n 2, 1) := by decide +kernel
theorem dL_law_647 : decode code 647 = .ok (.aload_n 0, 1) := by decide +kernel
theorem dL_law_648 : decode code 648 = .ok (.iload_n 3, 1) := by decide +kernel
theorem dL_law_649 : decode code 649 = .ok (.iconst 1, 1) := by decide +kernel
theorem dL_law_650 : decode code 650 = .ok (.iadd, 1) := by decide +kernel
theorem dL_law_651 : decode code 651 = .ok (.iaload, 1) := by decide +kernel
theorem dL_law_652 : decode code 652 = .ok (.invokevirtual 89, 3) := by decide +kernel
theorem dL_law_655 : decode code 655 = .ok (.if_icmp .eq 127, 3) := by decide +kernel
theorem dL_law_658 : decode code 658 = .ok (.iconst 0, 1) := by decide +kernel
theorem dL_law_659 : decode code 659 = .ok (.ireturn, 1) := by decide +kernel
theorem dL_law_660 : decode code 660 = .ok (.aload_n 1, 1) := by decide +kernel
theorem dL_law_661 : decode code 661 = .ok (.aload_n 0, 1) := by decide +kernel
theorem dL_law_662 : decode code 662 = .ok (.iload_n 3, 1) := by decide +kernel
theorem dL_law_663 : decode code 663 = .ok (.iconst 1, 1) := by decide +kernel
theorem dL_law_664 : decode code 664 = .ok (.iadd, 1) := by decide +kernel
theorem dL_law_665 : decode code 665 = .ok (.iaload, 1) := by decide +kernel
theorem dL_law_666 : decode code 666 = .ok (.aload_n 0, 1) := by decide +kernel
theorem dL_law_667 : decode code 667 = .ok (.iload_n 3, 1) := by decide +kernel
theorem dL_law_668 : decode code 668 = .ok (.iconst 2, 1) := by decide +kernel
theorem dL_law_669 : decode code 669 = .ok (.iadd, 1) := by decide +kernel
theorem dL_law_670 : decode code 670 = .ok (.iaload, 1) := by decide +kernel
theorem dL_law_671 : decode code 671 = .ok (.aload_n 0, 1) := by decide +kernel
theorem dL_law_672 : decode code 672 = .ok (.iload_n 3, 1) := by decide +kernel
theorem dL_law_673 : decode code 673 = .ok (.iconst 3, 1) := by decide +kernel
theorem dL_law_674 : decode code 674 = .ok (.iadd, 1) := by decide +kernel
theorem dL_law_675 : decode code 675 = .ok (.iaload, 1) := by decide +kernel
theorem dL_law_676 : decode code 676 = .ok (.invokevirtual 90, 3) := by decide +kernel
theorem dL_law_679 : decode code 679 = .ok (.aload_n 2, 1) := by decide +kernel
theorem dL_law_680 : decode code 680 = .ok (.aload_n 0, 1) := by decide +kernel
theorem dL_law_681 : decode code 681 = .ok (.iload_n 3, 1) := by decide +kernel
theorem dL_law_682 : decode code 682 = .ok (.iconst 1, 1) := by decide +kernel
theorem dL_law_683 : decode code 683 = .ok (.iadd, 1) := by decide +kernel
theorem dL_law_684 : decode code 684 = .ok (.iaload, 1) := by decide +kernel
theorem dL_law_685 : decode code 685 = .ok (.aload_n 0, 1) := by decide +kernel
theorem dL_law_686 : decode code 686 = .ok (.iload_n 3, 1) := by decide +kernel
theorem dL_law_687 : decode code 687 = .ok (.iconst 2, 1) := by decide +kernel
theorem dL_law_688 : decode code 688 = .ok (.iadd, 1) := by decide +kernel
theorem dL_law_689 : decode code 689 = .ok (.iaload, 1) := by decide +kernel
theorem dL_law_690 : decode code 690 = .ok (.aload_n 0, 1) := by decide +kernel
theorem dL_law_691 : decode code 691 = .ok (.iload_n 3, 1) := by decide +kernel
theorem dL_law_692 : decode code 692 = .ok (.iconst 3, 1) := by decide +kernel
theorem dL_law_693 : decode code 693 = .ok (.iadd, 1) := by decide +kernel
theorem dL_law_694 : decode code 694 = .ok (.iaload, 1) := by decide +kernel
theorem dL_law_695 : decode code 695 = .ok (.invokevirtual 93, 3) := by decide +kernel
theorem dL_law_698 : decode code 698 = .ok (.if_icmp .eq 84, 3) := by decide +kernel
theorem dL_law_701 : decode code 701 = .ok (.iconst 0, 1) := by decide +kernel
theorem dL_law_702 : decode code 702 = .ok (.ireturn, 1) := by decide +kernel
theorem dL_law_703 : decode code 703 = .ok (.aload_n 1, 1) := by decide +kernel
theorem dL_law_704 : decode code 704 = .ok (.aload_n 0, 1) := by decide +kernel
theorem dL_law_705 : decode code 705 = .ok (.iload_n 3, 1) := by decide +kernel
theorem dL_law_706 : decode code 706 = .ok (.iconst 1, 1) := by decide +kernel
theorem dL_law_707 : decode code 707 = .ok (.iadd, 1) := by decide +kernel
theorem dL_law_708 : decode code 708 = .ok (.iaload, 1) := by decide +kernel
theorem dL_law_709 : decode code 709 = .ok (.aload_n 0, 1) := by decide +kernel
theorem dL_law_710 : decode code 710 = .ok (.iload_n 3, 1) := by decide +kernel
theorem dL_law_711 : decode code 711 = .ok (.iconst 2, 1) := by decide +kernel
theorem dL_law_712 : decode code 712 = .ok (.iadd, 1) := by decide +kernel
theorem dL_law_713 : decode code 713 = .ok (.iaload, 1) := by decide +kernel
theorem dL_law_714 : decode code 714 = .ok (.invokevirtual 94, 3) := by decide +kernel
theorem dL_law_717 : decode code 717 = .ok (.aload_n 2, 1) := by decide +kernel
theorem dL_law_718 : decode code 718 = .ok (.aload_n 0, 1) := by decide +kernel
theorem dL_law_719 : decode code 719 = .ok (.iload_n 3, 1) := by decide +kernel
theorem dL_law_720 : decode code 720 = .ok (.iconst 1, 1) := by decide +kernel
theorem dL_law_721 : decode code 721 = .ok (.iadd, 1) := by decide +kernel
theorem dL_law_722 : decode code 722 = .ok (.iaload, 1) := by decide +kernel
theorem dL_law_723 : decode code 723 = .ok (.aload_n 0, 1) := by decide +kernel
theorem dL_law_724 : decode code 724 = .ok (.iload_n 3, 1) := by decide +kernel
theorem dL_law_725 : decode code 725 = .ok (.iconst 2, 1) := by decide +kernel
theorem dL_law_726 : decode code 726 = .ok (.iadd, 1) := by decide +kernel
theorem dL_law_727 : decode code 727 = .ok (.iaload, 1) := by decide +kernel
theorem dL_law_728 : decode code 728 = .ok (.invokevirtual 97, 3) := by decide +kernel
theorem dL_law_731 : decode code 731 = .ok (.if_icmp .eq 51, 3) := by decide +kernel
theorem dL_law_734 : decode code 734 = .ok (.iconst 0, 1) := by decide +kernel
theorem dL_law_735 : decode code 735 = .ok (.ireturn, 1) := by decide +kernel
theorem dL_law_736 : decode code 736 = .ok (.aload_n 1, 1) := by decide +kernel
theorem dL_law_737 : decode code 737 = .ok (.aload_n 0, 1) := by decide +kernel
theorem dL_law_738 : decode code 738 = .ok (.iload_n 3, 1) := by decide +kernel
theorem dL_law_739 : decode code 739 = .ok (.iconst 1, 1) := by decide +kernel
theorem dL_law_740 : decode code 740 = .ok (.iadd, 1) := by decide +kernel
theorem dL_law_741 : decode code 741 = .ok (.iaload, 1) := by decide +kernel
theorem dL_law_742 : decode code 742 = .ok (.invokevirtual 98, 3) := by decide +kernel
theorem dL_law_745 : decode code 745 = .ok (.aload_n 2, 1) := by decide +kernel
theorem dL_law_746 : decode code 746 = .ok (.aload_n 0, 1) := by decide +kernel
theorem dL_law_747 : decode code 747 = .ok (.iload_n 3, 1) := by decide +kernel
theorem dL_law_748 : decode code 748 = .ok (.iconst 1, 1) := by decide +kernel
theorem dL_law_749 : decode code 749 = .ok (.iadd, 1) := by decide +kernel
theorem dL_law_750 : decode code 750 = .ok (.iaload, 1) := by decide +kernel
theorem dL_law_751 : decode code 751 = .ok (.invokevirtual 101, 3) := by decide +kernel
theorem dL_law_754 : decode code 754 = .ok (.if_icmp .eq 28, 3) := by decide +kernel
theorem dL_law_757 : decode code 757 = .ok (.iconst 0, 1) := by decide +kernel
theorem dL_law_758 : decode code 758 = .ok (.ireturn, 1) := by decide +kernel
theorem dL_law_759 : decode code 759 = .ok (.aload_n 1, 1) := by decide +kernel
theorem dL_law_760 : decode code 760 = .ok (.aload_n 0, 1) := by decide +kernel
theorem dL_law_761 : decode code 761 = .ok (.iload_n 3, 1) := by decide +kernel
theorem dL_law_762 : decode code 762 = .ok (.iconst 1, 1) := by decide +kernel
theorem dL_law_763 : decode code 763 = .ok (.iadd, 1) := by decide +kernel
theorem dL_law_764 : decode code 764 = .ok (.iaload, 1) := by decide +kernel
theorem dL_law_765 : decode code 765 = .ok (.invokevirtual 102, 3) := by decide +kernel
theorem dL_law_768 : decode code 768 = .ok (.aload_n 2, 1) := by decide +kernel
theorem dL_law_769 : decode code 769 = .ok (.aload_n 0, 1) := by decide +kernel
theorem dL_law_770 : decode code 770 = .ok (.iload_n 3, 1) := by decide +kernel
theorem dL_law_771 : decode code 771 = .ok (.iconst 1, 1) := by decide +kernel
theorem dL_law_772 : decode code 772 = .ok (.iadd, 1) := by decide +kernel
theorem dL_law_773 : decode code 773 = .ok (.iaload, 1) := by decide +kernel
theorem dL_law_774 : decode code 774 = .ok (.invokevirtual 105, 3) := by decide +kernel
theorem dL_law_777 : decode code 777 = .ok (.if_icmp .eq 5, 3) := by decide +kernel
theorem dL_law_780 : decode code 780 = .ok (.iconst 0, 1) := by decide +kernel
theorem dL_law_781 : decode code 781 = .ok (.ireturn, 1) := by decide +kernel
theorem dL_law_782 : decode code 782 = .ok (.iinc 3 6, 3) := by decide +kernel
theorem dL_law_785 : decode code 785 = .ok (.goto (-767), 3) := by decide +kernel
theorem dL_law_788 : decode code 788 = .ok (.iconst 1, 1) := by decide +kernel
theorem dL_law_789 : decode code 789 = .ok (.ireturn, 1) := by decide +kernel
theorem tw_feed {P : zp} {A : gA} {σ : zc_N} (h : Inv P A σ) (a1 a2 : Int32) : two P A σ mX8_feed mX9_feed [.int a1, .int a2] := by
  obtain ⟨p8, p9, e, hJ⟩ := ok_feed h a1 a2
  refine ⟨3, 1, 0, 0, _, by decide, by decide, by decide, by decide, ctX8_feed P σ a1 a2 p8, fun r h' q => ⟨P, A, _, _, _, q.1, q.2, rfl, ?_, hJ⟩⟩
  rw [e]
  exact ctX9_feed P (sX8_feed σ a1 a2) a1 a2 p9
set_option maxHeartbeats 1000000 in
theorem lw_feed {G : zc_G} {nm : String} {Q : Option Value → zc_H → Prop} {P : zp} {A : gA} {σ : zc_N} {i ka na : Nat} (hI : Inv P A σ) (hi : i + 6 ≤ P.1) (hL : P.1 ≤ 3072) (hka : ka + 3 ≤ 600000) (hna : na + 21 ≤ 7302250) (k : ∀ P' A' σ', P'.1 = P.1 → Inv P' A' σ' → zz G (mLw nm) 1000 600000 7302250 Q 782 [some (.ref 0), some (.ref 3), some (.ref 32), some (.int (nI i))] [] (hh P' σ') (ka + 3) (na + 21)) : zz G (mLw nm) 1000 600000 7302250 Q 136 [some (.ref 0), some (.ref 3), some (.ref 32), some (.int (nI i))] [] (hh P σ) ka na := by
  refine z_scr (fun hg => ?_)
  obtain ⟨d8, d9, mc, ms, Q8, hd8, hd9, hmc, hms, hs8, hnext⟩ := tw_feed hI ((G.2.2.2.2 0).2 (i + 1)) ((G.2.2.2.2 0).2 (i + 2))
  refine z_aloadr_n dL_law_136 rfl ?_
  refine z_aloadr_n dL_law_137 rfl ?_
  refine z_iload_n dL_law_138 rfl ?_
  refine z_iconst (v := (1 : Int32)) dL_law_139 (by decide +kernel) ?_
  refine z_iadd (v := nI (i + 1)) dL_law_140 (nI_add i 1) ?_
  refine z_iald (v := ((G.2.2.2.2 0).2 (i + 1))) dL_law_141 (zN rfl) rfl (vp_in_nI (by omega) (by omega)) (by rw [hg, nI_clamp (by omega)]) ?_
  refine z_aloadr_n dL_law_142 rfl ?_
  refine z_iload_n dL_law_143 rfl ?_
  refine z_iconst (v := (2 : Int32)) dL_law_144 (by decide +kernel) ?_
  refine z_iadd (v := nI (i + 2)) dL_law_145 (nI_add i 2) ?_
  refine z_iald (v := ((G.2.2.2.2 0).2 (i + 2))) dL_law_146 (zN rfl) rfl (vp_in_nI (by omega) (by omega)) (by rw [hg, nI_clamp (by omega)]) ?_
  refine z_callV (ci := 8) (r := (RX8, TX8, 12)) (b := 3) (As := [.int ((G.2.2.2.2 0).2 (i + 1)), .int ((G.2.2.2.2 0).2 (i + 2))]) (rest := []) hs8 dL_law_147 lk_L_13 lv_X8_feed (Nat.le_of_ble_eq_true rfl) (zN rfl) rfl rfl rfl rfl (by omega) (Nat.le_of_ble_eq_true rfl) (by omega) (by omega) (fun r_ h_ e_ => ?_)
  obtain ⟨P1, A1, σ1, v, σ2, e1, e2, e3, hs9, hI2⟩ := hnext r_ h_ e_
  subst e1
  subst e2
  show zz G (mLw nm) 1000 600000 7302250 Q 150 [some (.ref 0), some (.ref 3), some (.ref 32), some (.int (nI i))] [.int v] (hh P1 σ1) (ka + mc) (na + ms)
  refine z_scr (fun hg1 => ?_)
  refine z_aloadr_n dL_law_150 rfl ?_
  refine z_aloadr_n dL_law_151 rfl ?_
  refine z_iload_n dL_law_152 rfl ?_
  refine z_iconst (v := (1 : Int32)) dL_law_153 (by decide +kernel) ?_
  refine z_iadd (v := nI (i + 1)) dL_law_154 (nI_add i 1) ?_
  refine z_iald (v := ((G.2.2.2.2 0).2 (i + 1))) dL_law_155 (zN rfl) rfl (vp_in_nI (by rw [e3]; omega) (by rw [e3]; omega)) (by rw [hg1, nI_clamp (by omega)]) ?_
  refine z_aloadr_n dL_law_156 rfl ?_
  refine z_iload_n dL_law_157 rfl ?_
  refine z_iconst (v := (2 : Int32)) dL_law_158 (by decide +kernel) ?_
  refine z_iadd (v := nI (i + 2)) dL_law_159 (nI_add i 2) ?_
  refine z_iald (v := ((G.2.2.2.2 0).2 (i + 2))) dL_law_160 (zN rfl) rfl (vp_in_nI (by rw [e3]; omega) (by rw [e3]; omega)) (by rw [hg1, nI_clamp (by omega)]) ?_
  refine z_callV (ci := 9) (r := (RX9, TX9, 38)) (b := 32) (As := [.int ((G.2.2.2.2 0).2 (i + 1)), .int ((G.2.2.2.2 0).2 (i + 2))]) (rest := [.int v]) hs9 dL_law_161 lk_L_17 lv_X9_feed (Nat.le_of_ble_eq_true rfl) (zN rfl) rfl rfl rfl rfl (by omega) (Nat.le_of_ble_eq_true rfl) (by omega) (by omega) (fun r_ h_ e_ => ?_)
  obtain ⟨e1, e2⟩ := e_
  subst e1
  subst e2
  show zz G (mLw nm) 1000 600000 7302250 Q 164 [some (.ref 0), some (.ref 3), some (.ref 32), some (.int (nI i))] [.int v, .int v] (hh P1 σ2) (ka + mc) (na + ms)
  refine z_icmp_eq (tgt := 782) dL_law_164 (by decide) (fun _ => ?_) (fun c_ => absurd rfl c_)
  exact z_wid (by omega) (by omega) (k P1 A1 σ2 e3 hI2)
theorem tw_row {P : zp} {A : gA} {σ : zc_N} (h : Inv P A σ) (a1 : Int32) : two P A σ mX8_row mX9_row [.int a1] := by
  obtain ⟨p8, p9, e⟩ := ok_row h a1
  refine ⟨2, 1, 0, 0, _, by decide, by decide, by decide, by decide, ctX8_row P σ a1 p8, fun r h' q => ⟨P, A, _, _, _, q.1, q.2, rfl, ?_, h⟩⟩
  rw [e]
  exact ctX9_row P σ a1 p9
set_option maxHeartbeats 1000000 in
theorem lw_row {G : zc_G} {nm : String} {Q : Option Value → zc_H → Prop} {P : zp} {A : gA} {σ : zc_N} {i ka na : Nat} (hI : Inv P A σ) (hi : i + 6 ≤ P.1) (hL : P.1 ≤ 3072) (hka : ka + 3 ≤ 600000) (hna : na + 21 ≤ 7302250) (k : ∀ P' A' σ', P'.1 = P.1 → Inv P' A' σ' → zz G (mLw nm) 1000 600000 7302250 Q 782 [some (.ref 0), some (.ref 3), some (.ref 32), some (.int (nI i))] [] (hh P' σ') (ka + 3) (na + 21)) : zz G (mLw nm) 1000 600000 7302250 Q 169 [some (.ref 0), some (.ref 3), some (.ref 32), some (.int (nI i))] [] (hh P σ) ka na := by
  refine z_scr (fun hg => ?_)
  obtain ⟨d8, d9, mc, ms, Q8, hd8, hd9, hmc, hms, hs8, hnext⟩ := tw_row hI ((G.2.2.2.2 0).2 (i + 1))
  refine z_aloadr_n dL_law_169 rfl ?_
  refine z_aloadr_n dL_law_170 rfl ?_
  refine z_iload_n dL_law_171 rfl ?_
  refine z_iconst (v := (1 : Int32)) dL_law_172 (by decide +kernel) ?_
  refine z_iadd (v := nI (i + 1)) dL_law_173 (nI_add i 1) ?_
  refine z_iald (v := ((G.2.2.2.2 0).2 (i + 1))) dL_law_174 (zN rfl) rfl (vp_in_nI (by omega) (by omega)) (by rw [hg, nI_clamp (by omega)]) ?_
  refine z_callV (ci := 8) (r := (RX8, TX8, 12)) (b := 3) (As := [.int ((G.2.2.2.2 0).2 (i + 1))]) (rest := []) hs8 dL_law_175 lk_L_18 lv_X8_row (Nat.le_of_ble_eq_true rfl) (zN rfl) rfl rfl rfl rfl (by omega) (Nat.le_of_ble_eq_true rfl) (by omega) (by omega) (fun r_ h_ e_ => ?_)
  obtain ⟨P1, A1, σ1, v, σ2, e1, e2, e3, hs9, hI2⟩ := hnext r_ h_ e_
  subst e1
  subst e2
  show zz G (mLw nm) 1000 600000 7302250 Q 178 [some (.ref 0), some (.ref 3), some (.ref 32), some (.int (nI i))] [.int v] (hh P1 σ1) (ka + mc) (na + ms)
  refine z_scr (fun hg1 => ?_)
  refine z_aloadr_n dL_law_178 rfl ?_
  refine z_aloadr_n dL_law_179 rfl ?_
  refine z_iload_n dL_law_180 rfl ?_
  refine z_iconst (v := (1 : Int32)) dL_law_181 (by decide +kernel) ?_
  refine z_iadd (v := nI (i + 1)) dL_law_182 (nI_add i 1) ?_
  refine z_iald (v := ((G.2.2.2.2 0).2 (i + 1))) dL_law_183 (zN rfl) rfl (vp_in_nI (by rw [e3]; omega) (by rw [e3]; omega)) (by rw [hg1, nI_clamp (by omega)]) ?_
  refine z_callV (ci := 9) (r := (RX9, TX9, 38)) (b := 32) (As := [.int ((G.2.2.2.2 0).2 (i + 1))]) (rest := [.int v]) hs9 dL_law_184 lk_L_22 lv_X9_row (Nat.le_of_ble_eq_true rfl) (zN rfl) rfl rfl rfl rfl (by omega) (Nat.le_of_ble_eq_true rfl) (by omega) (by omega) (fun r_ h_ e_ => ?_)
  obtain ⟨e1, e2⟩ := e_
  subst e1
  subst e2
  show zz G (mLw nm) 1000 600000 7302250 Q 187 [some (.ref 0), some (.ref 3), some (.ref 32), some (.int (nI i))] [.int v, .int v] (hh P1 σ2) (ka + mc) (na + ms)
  refine z_icmp_eq (tgt := 782) dL_law_187 (by decide) (fun _ => ?_) (fun c_ => absurd rfl c_)
  exact z_wid (by omega) (by omega) (k P1 A1 σ2 e3 hI2)
theorem tw_thin {P : zp} {A : gA} {σ : zc_N} (h : Inv P A σ) : two P A σ mX8_thin mX9_thin [] := by
  obtain ⟨p8, p9, e, hJ⟩ := ok_thin h
  refine ⟨6, 3, 0, 0, _, by decide, by decide, by decide, by decide, ctX8_thin P σ p8, fun r h' q => ⟨P, A, _, _, _, q.1, q.2, rfl, ?_, hJ⟩⟩
  rw [e]
  exact ctX9_thin P (sX8_thin σ) p9
set_option maxHeartbeats 1000000 in
theorem lw_thin {G : zc_G} {nm : String} {Q : Option Value → zc_H → Prop} {P : zp} {A : gA} {σ : zc_N} {i ka na : Nat} (hI : Inv P A σ) (hi : i + 6 ≤ P.1) (hL : P.1 ≤ 3072) (hka : ka + 3 ≤ 600000) (hna : na + 21 ≤ 7302250) (k : ∀ P' A' σ', P'.1 = P.1 → Inv P' A' σ' → zz G (mLw nm) 1000 600000 7302250 Q 782 [some (.ref 0), some (.ref 3), some (.ref 32), some (.int (nI i))] [] (hh P' σ') (ka + 3) (na + 21)) : zz G (mLw nm) 1000 600000 7302250 Q 192 [some (.ref 0), some (.ref 3), some (.ref 32), some (.int (nI i))] [] (hh P σ) ka na := by
  refine z_scr (fun hg => ?_)
  obtain ⟨d8, d9, mc, ms, Q8, hd8, hd9, hmc, hms, hs8, hnext⟩ := tw_thin hI
  refine z_aloadr_n dL_law_192 rfl ?_
  refine z_callV (ci := 8) (r := (RX8, TX8, 12)) (b := 3) (As := []) (rest := []) hs8 dL_law_193 lk_L_23 lv_X8_thin (Nat.le_of_ble_eq_true rfl) (zN rfl) rfl rfl rfl rfl (by omega) (Nat.le_of_ble_eq_true rfl) (by omega) (by omega) (fun r_ h_ e_ => ?_)
  obtain ⟨P1, A1, σ1, v, σ2, e1, e2, e3, hs9, hI2⟩ := hnext r_ h_ e_
  subst e1
  subst e2
  show zz G (mLw nm) 1000 600000 7302250 Q 196 [some (.ref 0), some (.ref 3), some (.ref 32), some (.int (nI i))] [.int v] (hh P1 σ1) (ka + mc) (na + ms)
  refine z_scr (fun hg1 => ?_)
  refine z_aloadr_n dL_law_196 rfl ?_
  refine z_callV (ci := 9) (r := (RX9, TX9, 38)) (b := 32) (As := []) (rest := [.int v]) hs9 dL_law_197 lk_L_27 lv_X9_thin (Nat.le_of_ble_eq_true rfl) (zN rfl) rfl rfl rfl rfl (by omega) (Nat.le_of_ble_eq_true rfl) (by omega) (by omega) (fun r_ h_ e_ => ?_)
  obtain ⟨e1, e2⟩ := e_
  subst e1
  subst e2
  show zz G (mLw nm) 1000 600000 7302250 Q 200 [some (.ref 0), some (.ref 3), some (.ref 32), some (.int (nI i))] [.int v, .int v] (hh P1 σ2) (ka + mc) (na + ms)
  refine z_icmp_eq (tgt := 782) dL_law_200 (by decide) (fun _ => ?_) (fun c_ => absurd rfl c_)
  exact z_wid (by omega) (by omega) (k P1 A1 σ2 e3 hI2)
theorem tw_pieces {P : zp} {A : gA} {σ : zc_N} (h : Inv P A σ) (a1 : Int32) : two P A σ mX8_pieces mX9_pieces [.int a1] := by
  obtain ⟨p8, p9, e, hJ⟩ := ok_pieces h a1
  refine ⟨6, 3, 0, 0, _, by decide, by decide, by decide, by decide, ctX8_pieces P σ a1 p8, fun r h' q => ⟨P, A, _, _, _, q.1, q.2, rfl, ?_, hJ⟩⟩
  rw [e]
  exact ctX9_pieces P (sX8_pieces σ a1) a1 p9
set_option maxHeartbeats 1000000 in
theorem lw_pieces {G : zc_G} {nm : String} {Q : Option Value → zc_H → Prop} {P : zp} {A : gA} {σ : zc_N} {i ka na : Nat} (hI : Inv P A σ) (hi : i + 6 ≤ P.1) (hL : P.1 ≤ 3072) (hka : ka + 3 ≤ 600000) (hna : na + 21 ≤ 7302250) (k : ∀ P' A' σ', P'.1 = P.1 → Inv P' A' σ' → zz G (mLw nm) 1000 600000 7302250 Q 782 [some (.ref 0), some (.ref 3), some (.ref 32), some (.int (nI i))] [] (hh P' σ') (ka + 3) (na + 21)) : zz G (mLw nm) 1000 600000 7302250 Q 205 [some (.ref 0), some (.ref 3), some (.ref 32), some (.int (nI i))] [] (hh P σ) ka na := by
  refine z_scr (fun hg => ?_)
  obtain ⟨d8, d9, mc, ms, Q8, hd8, hd9, hmc, hms, hs8, hnext⟩ := tw_pieces hI ((G.2.2.2.2 0).2 (i + 1))
  refine z_aloadr_n dL_law_205 rfl ?_
  refine z_aloadr_n dL_law_206 rfl ?_
  refine z_iload_n dL_law_207 rfl ?_
  refine z_iconst (v := (1 : Int32)) dL_law_208 (by decide +kernel) ?_
  refine z_iadd (v := nI (i + 1)) dL_law_209 (nI_add i 1) ?_
  refine z_iald (v := ((G.2.2.2.2 0).2 (i + 1))) dL_law_210 (zN rfl) rfl (vp_in_nI (by omega) (by omega)) (by rw [hg, nI_clamp (by omega)]) ?_
  refine z_callV (ci := 8) (r := (RX8, TX8, 12)) (b := 3) (As := [.int ((G.2.2.2.2 0).2 (i + 1))]) (rest := []) hs8 dL_law_211 lk_L_28 lv_X8_pieces (Nat.le_of_ble_eq_true rfl) (zN rfl) rfl rfl rfl rfl (by omega) (Nat.le_of_ble_eq_true rfl) (by omega) (by omega) (fun r_ h_ e_ => ?_)
  obtain ⟨P1, A1, σ1, v, σ2, e1, e2, e3, hs9, hI2⟩ := hnext r_ h_ e_
  subst e1
  subst e2
  show zz G (mLw nm) 1000 600000 7302250 Q 214 [some (.ref 0), some (.ref 3), some (.ref 32), some (.int (nI i))] [.int v] (hh P1 σ1) (ka + mc) (na + ms)
  refine z_scr (fun hg1 => ?_)
  refine z_aloadr_n dL_law_214 rfl ?_
  refine z_aloadr_n dL_law_215 rfl ?_
  refine z_iload_n dL_law_216 rfl ?_
  refine z_iconst (v := (1 : Int32)) dL_law_217 (by decide +kernel) ?_
  refine z_iadd (v := nI (i + 1)) dL_law_218 (nI_add i 1) ?_
  refine z_iald (v := ((G.2.2.2.2 0).2 (i + 1))) dL_law_219 (zN rfl) rfl (vp_in_nI (by rw [e3]; omega) (by rw [e3]; omega)) (by rw [hg1, nI_clamp (by omega)]) ?_
  refine z_callV (ci := 9) (r := (RX9, TX9, 38)) (b := 32) (As := [.int ((G.2.2.2.2 0).2 (i + 1))]) (rest := [.int v]) hs9 dL_law_220 lk_L_31 lv_X9_pieces (Nat.le_of_ble_eq_true rfl) (zN rfl) rfl rfl rfl rfl (by omega) (Nat.le_of_ble_eq_true rfl) (by omega) (by omega) (fun r_ h_ e_ => ?_)
  obtain ⟨e1, e2⟩ := e_
  subst e1
  subst e2
  show zz G (mLw nm) 1000 600000 7302250 Q 223 [some (.ref 0), some (.ref 3), some (.ref 32), some (.int (nI i))] [.int v, .int v] (hh P1 σ2) (ka + mc) (na + ms)
  refine z_icmp_eq (tgt := 782) dL_law_223 (by decide) (fun _ => ?_) (fun c_ => absurd rfl c_)
  exact z_wid (by omega) (by omega) (k P1 A1 σ2 e3 hI2)
set_option maxHeartbeats 1000000 in
theorem lw_print {G : zc_G} {nm : String} {Q : Option Value → zc_H → Prop} {P : zp} {A : gA} {σ : zc_N} {i ka na : Nat} (hI : Inv P A σ) (hi : i + 6 ≤ P.1) (hL : P.1 ≤ 3072) (hka : ka + 3 ≤ 600000) (hna : na + 21 ≤ 7302250) (k : ∀ P' A' σ', P'.1 = P.1 → Inv P' A' σ' → zz G (mLw nm) 1000 600000 7302250 Q 782 [some (.ref 0), some (.ref 3), some (.ref 32), some (.int (nI i))] [] (hh P' σ') (ka + 3) (na + 21)) : zz G (mLw nm) 1000 600000 7302250 Q 228 [some (.ref 0), some (.ref 3), some (.ref 32), some (.int (nI i))] [] (hh P σ) ka na := by
  refine z_scr (fun hg => ?_)
  obtain ⟨d8, d9, mc, ms, Q8, hd8, hd9, hmc, hms, hs8, hnext⟩ := tw_print hI ((G.2.2.2.2 0).2 (i + 1))
  refine z_aloadr_n dL_law_228 rfl ?_
  refine z_aloadr_n dL_law_229 rfl ?_
  refine z_iload_n dL_law_230 rfl ?_
  refine z_iconst (v := (1 : Int32)) dL_law_231 (by decide +kernel) ?_
  refine z_iadd (v := nI (i + 1)) dL_law_232 (nI_add i 1) ?_
  refine z_iald (v := ((G.2.2.2.2 0).2 (i + 1))) dL_law_233 (zN rfl) rfl (vp_in_nI (by omega) (by omega)) (by rw [hg, nI_clamp (by omega)]) ?_
  refine z_callV (ci := 8) (r := (RX8, TX8, 12)) (b := 3) (As := [.int ((G.2.2.2.2 0).2 (i + 1))]) (rest := []) hs8 dL_law_234 lk_L_32 lv_X8_print (Nat.le_of_ble_eq_true rfl) (zN rfl) rfl rfl rfl rfl (by omega) (Nat.le_of_ble_eq_true rfl) (by omega) (by omega) (fun r_ h_ e_ => ?_)
  obtain ⟨P1, A1, σ1, v, σ2, e1, e2, e3, hs9, hI2⟩ := hnext r_ h_ e_
  subst e1
  subst e2
  show zz G (mLw nm) 1000 600000 7302250 Q 237 [some (.ref 0), some (.ref 3), some (.ref 32), some (.int (nI i))] [.int v] (hh P1 σ1) (ka + mc) (na + ms)
  refine z_scr (fun hg1 => ?_)
  refine z_aloadr_n dL_law_237 rfl ?_
  refine z_aloadr_n dL_law_238 rfl ?_
  refine z_iload_n dL_law_239 rfl ?_
  refine z_iconst (v := (1 : Int32)) dL_law_240 (by decide +kernel) ?_
  refine z_iadd (v := nI (i + 1)) dL_law_241 (nI_add i 1) ?_
  refine z_iald (v := ((G.2.2.2.2 0).2 (i + 1))) dL_law_242 (zN rfl) rfl (vp_in_nI (by rw [e3]; omega) (by rw [e3]; omega)) (by rw [hg1, nI_clamp (by omega)]) ?_
  refine z_callV (ci := 9) (r := (RX9, TX9, 38)) (b := 32) (As := [.int ((G.2.2.2.2 0).2 (i + 1))]) (rest := [.int v]) hs9 dL_law_243 lk_L_35 lv_X9_print (Nat.le_of_ble_eq_true rfl) (zN rfl) rfl rfl rfl rfl (by omega) (Nat.le_of_ble_eq_true rfl) (by omega) (by omega) (fun r_ h_ e_ => ?_)
  obtain ⟨e1, e2⟩ := e_
  subst e1
  subst e2
  show zz G (mLw nm) 1000 600000 7302250 Q 246 [some (.ref 0), some (.ref 3), some (.ref 32), some (.int (nI i))] [.int v, .int v] (hh P1 σ2) (ka + mc) (na + ms)
  refine z_icmp_eq (tgt := 782) dL_law_246 (by decide) (fun _ => ?_) (fun c_ => absurd rfl c_)
  exact z_wid (by omega) (by omega) (k P1 A1 σ2 e3 hI2)
theorem tw_point {P : zp} {A : gA} {σ : zc_N} (h : Inv P A σ) (a1 a2 : Int32) : two P A σ mX8_point mX9_point [.int a1, .int a2] := by
  obtain ⟨p8, p9, e⟩ := ok_point h a1 a2
  refine ⟨2, 1, 0, 0, _, by decide, by decide, by decide, by decide, ctX8_point P σ a1 a2 p8, fun r h' q => ⟨P, A, _, _, _, q.1, q.2, rfl, ?_, h⟩⟩
  rw [e]
  exact ctX9_point P σ a1 a2 p9
set_option maxHeartbeats 1000000 in
theorem lw_point {G : zc_G} {nm : String} {Q : Option Value → zc_H → Prop} {P : zp} {A : gA} {σ : zc_N} {i ka na : Nat} (hI : Inv P A σ) (hi : i + 6 ≤ P.1) (hL : P.1 ≤ 3072) (hka : ka + 3 ≤ 600000) (hna : na + 21 ≤ 7302250) (k : ∀ P' A' σ', P'.1 = P.1 → Inv P' A' σ' → zz G (mLw nm) 1000 600000 7302250 Q 782 [some (.ref 0), some (.ref 3), some (.ref 32), some (.int (nI i))] [] (hh P' σ') (ka + 3) (na + 21)) : zz G (mLw nm) 1000 600000 7302250 Q 251 [some (.ref 0), some (.ref 3), some (.ref 32), some (.int (nI i))] [] (hh P σ) ka na := by
  refine z_scr (fun hg => ?_)
  obtain ⟨d8, d9, mc, ms, Q8, hd8, hd9, hmc, hms, hs8, hnext⟩ := tw_point hI ((G.2.2.2.2 0).2 (i + 1)) ((G.2.2.2.2 0).2 (i + 2))
  refine z_aloadr_n dL_law_251 rfl ?_
  refine z_aloadr_n dL_law_252 rfl ?_
  refine z_iload_n dL_law_253 rfl ?_
  refine z_iconst (v := (1 : Int32)) dL_law_254 (by decide +kernel) ?_
  refine z_iadd (v := nI (i + 1)) dL_law_255 (nI_add i 1) ?_
  refine z_iald (v := ((G.2.2.2.2 0).2 (i + 1))) dL_law_256 (zN rfl) rfl (vp_in_nI (by omega) (by omega)) (by rw [hg, nI_clamp (by omega)]) ?_
  refine z_aloadr_n dL_law_257 rfl ?_
  refine z_iload_n dL_law_258 rfl ?_
  refine z_iconst (v := (2 : Int32)) dL_law_259 (by decide +kernel) ?_
  refine z_iadd (v := nI (i + 2)) dL_law_260 (nI_add i 2) ?_
  refine z_iald (v := ((G.2.2.2.2 0).2 (i + 2))) dL_law_261 (zN rfl) rfl (vp_in_nI (by omega) (by omega)) (by rw [hg, nI_clamp (by omega)]) ?_
  refine z_callV (ci := 8) (r := (RX8, TX8, 12)) (b := 3) (As := [.int ((G.2.2.2.2 0).2 (i + 1)), .int ((G.2.2.2.2 0).2 (i + 2))]) (rest := []) hs8 dL_law_262 lk_L_36 lv_X8_point (Nat.le_of_ble_eq_true rfl) (zN rfl) rfl rfl rfl rfl (by omega) (Nat.le_of_ble_eq_true rfl) (by omega) (by omega) (fun r_ h_ e_ => ?_)
  obtain ⟨P1, A1, σ1, v, σ2, e1, e2, e3, hs9, hI2⟩ := hnext r_ h_ e_
  subst e1
  subst e2
  show zz G (mLw nm) 1000 600000 7302250 Q 265 [some (.ref 0), some (.ref 3), some (.ref 32), some (.int (nI i))] [.int v] (hh P1 σ1) (ka + mc) (na + ms)
  refine z_scr (fun hg1 => ?_)
  refine z_aloadr_n dL_law_265 rfl ?_
  refine z_aloadr_n dL_law_266 rfl ?_
  refine z_iload_n dL_law_267 rfl ?_
  refine z_iconst (v := (1 : Int32)) dL_law_268 (by decide +kernel) ?_
  refine z_iadd (v := nI (i + 1)) dL_law_269 (nI_add i 1) ?_
  refine z_iald (v := ((G.2.2.2.2 0).2 (i + 1))) dL_law_270 (zN rfl) rfl (vp_in_nI (by rw [e3]; omega) (by rw [e3]; omega)) (by rw [hg1, nI_clamp (by omega)]) ?_
  refine z_aloadr_n dL_law_271 rfl ?_
  refine z_iload_n dL_law_272 rfl ?_
  refine z_iconst (v := (2 : Int32)) dL_law_273 (by decide +kernel) ?_
  refine z_iadd (v := nI (i + 2)) dL_law_274 (nI_add i 2) ?_
  refine z_iald (v := ((G.2.2.2.2 0).2 (i + 2))) dL_law_275 (zN rfl) rfl (vp_in_nI (by rw [e3]; omega) (by rw [e3]; omega)) (by rw [hg1, nI_clamp (by omega)]) ?_
  refine z_callV (ci := 9) (r := (RX9, TX9, 38)) (b := 32) (As := [.int ((G.2.2.2.2 0).2 (i + 1)), .int ((G.2.2.2.2 0).2 (i + 2))]) (rest := [.int v]) hs9 dL_law_276 lk_L_39 lv_X9_point (Nat.le_of_ble_eq_true rfl) (zN rfl) rfl rfl rfl rfl (by omega) (Nat.le_of_ble_eq_true rfl) (by omega) (by omega) (fun r_ h_ e_ => ?_)
  obtain ⟨e1, e2⟩ := e_
  subst e1
  subst e2
  show zz G (mLw nm) 1000 600000 7302250 Q 279 [some (.ref 0), some (.ref 3), some (.ref 32), some (.int (nI i))] [.int v, .int v] (hh P1 σ2) (ka + mc) (na + ms)
  refine z_icmp_eq (tgt := 782) dL_law_279 (by decide) (fun _ => ?_) (fun c_ => absurd rfl c_)
  exact z_wid (by omega) (by omega) (k P1 A1 σ2 e3 hI2)
theorem tw_reach {P : zp} {A : gA} {σ : zc_N} (h : Inv P A σ) (a1 : Int32) : two P A σ mX8_reach mX9_reach [.int a1] := by
  obtain ⟨e, hJ⟩ := ok_reach h a1
  refine ⟨2, 1, 0, 0, _, by decide, by decide, by decide, by decide, ctX8_reach P σ a1, fun r h' q => ⟨P, A, _, _, _, q.1, q.2, rfl, ?_, hJ⟩⟩
  rw [e]
  exact ctX9_reach P (sX8_reach σ a1) a1
set_option maxHeartbeats 1000000 in
theorem lw_reach {G : zc_G} {nm : String} {Q : Option Value → zc_H → Prop} {P : zp} {A : gA} {σ : zc_N} {i ka na : Nat} (hI : Inv P A σ) (hi : i + 6 ≤ P.1) (hL : P.1 ≤ 3072) (hka : ka + 3 ≤ 600000) (hna : na + 21 ≤ 7302250) (k : ∀ P' A' σ', P'.1 = P.1 → Inv P' A' σ' → zz G (mLw nm) 1000 600000 7302250 Q 782 [some (.ref 0), some (.ref 3), some (.ref 32), some (.int (nI i))] [] (hh P' σ') (ka + 3) (na + 21)) : zz G (mLw nm) 1000 600000 7302250 Q 284 [some (.ref 0), some (.ref 3), some (.ref 32), some (.int (nI i))] [] (hh P σ) ka na := by
  refine z_scr (fun hg => ?_)
  obtain ⟨d8, d9, mc, ms, Q8, hd8, hd9, hmc, hms, hs8, hnext⟩ := tw_reach hI ((G.2.2.2.2 0).2 (i + 1))
  refine z_aloadr_n dL_law_284 rfl ?_
  refine z_aloadr_n dL_law_285 rfl ?_
  refine z_iload_n dL_law_286 rfl ?_
  refine z_iconst (v := (1 : Int32)) dL_law_287 (by decide +kernel) ?_
  refine z_iadd (v := nI (i + 1)) dL_law_288 (nI_add i 1) ?_
  refine z_iald (v := ((G.2.2.2.2 0).2 (i + 1))) dL_law_289 (zN rfl) rfl (vp_in_nI (by omega) (by omega)) (by rw [hg, nI_clamp (by omega)]) ?_
  refine z_callV (ci := 8) (r := (RX8, TX8, 12)) (b := 3) (As := [.int ((G.2.2.2.2 0).2 (i + 1))]) (rest := []) hs8 dL_law_290 lk_L_40 lv_X8_reach (Nat.le_of_ble_eq_true rfl) (zN rfl) rfl rfl rfl rfl (by omega) (Nat.le_of_ble_eq_true rfl) (by omega) (by omega) (fun r_ h_ e_ => ?_)
  obtain ⟨P1, A1, σ1, v, σ2, e1, e2, e3, hs9, hI2⟩ := hnext r_ h_ e_
  subst e1
  subst e2
  show zz G (mLw nm) 1000 600000 7302250 Q 293 [some (.ref 0), some (.ref 3), some (.ref 32), some (.int (nI i))] [.int v] (hh P1 σ1) (ka + mc) (na + ms)
  refine z_scr (fun hg1 => ?_)
  refine z_aloadr_n dL_law_293 rfl ?_
  refine z_aloadr_n dL_law_294 rfl ?_
  refine z_iload_n dL_law_295 rfl ?_
  refine z_iconst (v := (1 : Int32)) dL_law_296 (by decide +kernel) ?_
  refine z_iadd (v := nI (i + 1)) dL_law_297 (nI_add i 1) ?_
  refine z_iald (v := ((G.2.2.2.2 0).2 (i + 1))) dL_law_298 (zN rfl) rfl (vp_in_nI (by rw [e3]; omega) (by rw [e3]; omega)) (by rw [hg1, nI_clamp (by omega)]) ?_
  refine z_callV (ci := 9) (r := (RX9, TX9, 38)) (b := 32) (As := [.int ((G.2.2.2.2 0).2 (i + 1))]) (rest := [.int v]) hs9 dL_law_299 lk_L_43 lv_X9_reach (Nat.le_of_ble_eq_true rfl) (zN rfl) rfl rfl rfl rfl (by omega) (Nat.le_of_ble_eq_true rfl) (by omega) (by omega) (fun r_ h_ e_ => ?_)
  obtain ⟨e1, e2⟩ := e_
  subst e1
  subst e2
  show zz G (mLw nm) 1000 600000 7302250 Q 302 [some (.ref 0), some (.ref 3), some (.ref 32), some (.int (nI i))] [.int v, .int v] (hh P1 σ2) (ka + mc) (na + ms)
  refine z_icmp_eq (tgt := 782) dL_law_302 (by decide) (fun _ => ?_) (fun c_ => absurd rfl c_)
  exact z_wid (by omega) (by omega) (k P1 A1 σ2 e3 hI2)
theorem tw_lay {P : zp} {A : gA} {σ : zc_N} (h : Inv P A σ) (a1 a2 a3 a4 a5 : Int32) : two P A σ mX8_lay mX9_lay [.int a1, .int a2, .int a3, .int a4, .int a5] := by
  obtain ⟨p8, p9, e, hJ⟩ := ok_lay h a1 a2 a3 a4 a5
  refine ⟨18, 18, 0, 0, _, by decide, by decide, by decide, by decide, ctX8_lay P σ a1 a2 a3 a4 a5 p8, fun r h' q => ⟨P, A, _, _, _, q.1, q.2, rfl, ?_, hJ⟩⟩
  rw [e]
  exact ctX9_lay P (sX8_lay P σ a1 a2 a3 a4 a5) a1 a2 a3 a4 a5 p9
set_option maxHeartbeats 1000000 in
theorem lw_lay {G : zc_G} {nm : String} {Q : Option Value → zc_H → Prop} {P : zp} {A : gA} {σ : zc_N} {i ka na : Nat} (hI : Inv P A σ) (hi : i + 6 ≤ P.1) (hL : P.1 ≤ 3072) (hka : ka + 3 ≤ 600000) (hna : na + 21 ≤ 7302250) (k : ∀ P' A' σ', P'.1 = P.1 → Inv P' A' σ' → zz G (mLw nm) 1000 600000 7302250 Q 782 [some (.ref 0), some (.ref 3), some (.ref 32), some (.int (nI i))] [] (hh P' σ') (ka + 3) (na + 21)) : zz G (mLw nm) 1000 600000 7302250 Q 307 [some (.ref 0), some (.ref 3), some (.ref 32), some (.int (nI i))] [] (hh P σ) ka na := by
  refine z_scr (fun hg => ?_)
  obtain ⟨d8, d9, mc, ms, Q8, hd8, hd9, hmc, hms, hs8, hnext⟩ := tw_lay hI ((G.2.2.2.2 0).2 (i + 1)) ((G.2.2.2.2 0).2 (i + 2)) ((G.2.2.2.2 0).2 (i + 3)) ((G.2.2.2.2 0).2 (i + 4)) ((G.2.2.2.2 0).2 (i + 5))
  refine z_aloadr_n dL_law_307 rfl ?_
  refine z_aloadr_n dL_law_308 rfl ?_
  refine z_iload_n dL_law_309 rfl ?_
  refine z_iconst (v := (1 : Int32)) dL_law_310 (by decide +kernel) ?_
  refine z_iadd (v := nI (i + 1)) dL_law_311 (nI_add i 1) ?_
  refine z_iald (v := ((G.2.2.2.2 0).2 (i + 1))) dL_law_312 (zN rfl) rfl (vp_in_nI (by omega) (by omega)) (by rw [hg, nI_clamp (by omega)]) ?_
  refine z_aloadr_n dL_law_313 rfl ?_
  refine z_iload_n dL_law_314 rfl ?_
  refine z_iconst (v := (2 : Int32)) dL_law_315 (by decide +kernel) ?_
  refine z_iadd (v := nI (i + 2)) dL_law_316 (nI_add i 2) ?_
  refine z_iald (v := ((G.2.2.2.2 0).2 (i + 2))) dL_law_317 (zN rfl) rfl (vp_in_nI (by omega) (by omega)) (by rw [hg, nI_clamp (by omega)]) ?_
  refine z_aloadr_n dL_law_318 rfl ?_
  refine z_iload_n dL_law_319 rfl ?_
  refine z_iconst (v := (3 : Int32)) dL_law_320 (by decide +kernel) ?_
  refine z_iadd (v := nI (i + 3)) dL_law_321 (nI_add i 3) ?_
  refine z_iald (v := ((G.2.2.2.2 0).2 (i + 3))) dL_law_322 (zN rfl) rfl (vp_in_nI (by omega) (by omega)) (by rw [hg, nI_clamp (by omega)]) ?_
  refine z_aloadr_n dL_law_323 rfl ?_
  refine z_iload_n dL_law_324 rfl ?_
  refine z_iconst (v := (4 : Int32)) dL_law_325 (by decide +kernel) ?_
  refine z_iadd (v := nI (i + 4)) dL_law_326 (nI_add i 4) ?_
  refine z_iald (v := ((G.2.2.2.2 0).2 (i + 4))) dL_law_327 (zN rfl) rfl (vp_in_nI (by omega) (by omega)) (by rw [hg, nI_clamp (by omega)]) ?_
  refine z_aloadr_n dL_law_328 rfl ?_
  refine z_iload_n dL_law_329 rfl ?_
  refine z_iconst (v := (5 : Int32)) dL_law_330 (by decide +kernel) ?_
  refine z_iadd (v := nI (i + 5)) dL_law_331 (nI_add i 5) ?_
  refine z_iald (v := ((G.2.2.2.2 0).2 (i + 5))) dL_law_332 (zN rfl) rfl (vp_in_nI (by omega) (by omega)) (by rw [hg, nI_clamp (by omega)]) ?_
  refine z_callV (ci := 8) (r := (RX8, TX8, 12)) (b := 3) (As := [.int ((G.2.2.2.2 0).2 (i + 1)), .int ((G.2.2.2.2 0).2 (i + 2)), .int ((G.2.2.2.2 0).2 (i + 3)), .int ((G.2.2.2.2 0).2 (i + 4)), .int ((G.2.2.2.2 0).2 (i + 5))]) (rest := []) hs8 dL_law_333 lk_L_44 lv_X8_lay (Nat.le_of_ble_eq_true rfl) (zN rfl) rfl rfl rfl rfl (by omega) (Nat.le_of_ble_eq_true rfl) (by omega) (by omega) (fun r_ h_ e_ => ?_)
  obtain ⟨P1, A1, σ1, v, σ2, e1, e2, e3, hs9, hI2⟩ := hnext r_ h_ e_
  subst e1
  subst e2
  show zz G (mLw nm) 1000 600000 7302250 Q 336 [some (.ref 0), some (.ref 3), some (.ref 32), some (.int (nI i))] [.int v] (hh P1 σ1) (ka + mc) (na + ms)
  refine z_scr (fun hg1 => ?_)
  refine z_aloadr_n dL_law_336 rfl ?_
  refine z_aloadr_n dL_law_337 rfl ?_
  refine z_iload_n dL_law_338 rfl ?_
  refine z_iconst (v := (1 : Int32)) dL_law_339 (by decide +kernel) ?_
  refine z_iadd (v := nI (i + 1)) dL_law_340 (nI_add i 1) ?_
  refine z_iald (v := ((G.2.2.2.2 0).2 (i + 1))) dL_law_341 (zN rfl) rfl (vp_in_nI (by rw [e3]; omega) (by rw [e3]; omega)) (by rw [hg1, nI_clamp (by omega)]) ?_
  refine z_aloadr_n dL_law_342 rfl ?_
  refine z_iload_n dL_law_343 rfl ?_
  refine z_iconst (v := (2 : Int32)) dL_law_344 (by decide +kernel) ?_
  refine z_iadd (v := nI (i + 2)) dL_law_345 (nI_add i 2) ?_
  refine z_iald (v := ((G.2.2.2.2 0).2 (i + 2))) dL_law_346 (zN rfl) rfl (vp_in_nI (by rw [e3]; omega) (by rw [e3]; omega)) (by rw [hg1, nI_clamp (by omega)]) ?_
  refine z_aloadr_n dL_law_347 rfl ?_
  refine z_iload_n dL_law_348 rfl ?_
  refine z_iconst (v := (3 : Int32)) dL_law_349 (by decide +kernel) ?_
  refine z_iadd (v := nI (i + 3)) dL_law_350 (nI_add i 3) ?_
  refine z_iald (v := ((G.2.2.2.2 0).2 (i + 3))) dL_law_351 (zN rfl) rfl (vp_in_nI (by rw [e3]; omega) (by rw [e3]; omega)) (by rw [hg1, nI_clamp (by omega)]) ?_
  refine z_aloadr_n dL_law_352 rfl ?_
  refine z_iload_n dL_law_353 rfl ?_
  refine z_iconst (v := (4 : Int32)) dL_law_354 (by decide +kernel) ?_
  refine z_iadd (v := nI (i + 4)) dL_law_355 (nI_add i 4) ?_
  refine z_iald (v := ((G.2.2.2.2 0).2 (i + 4))) dL_law_356 (zN rfl) rfl (vp_in_nI (by rw [e3]; omega) (by rw [e3]; omega)) (by rw [hg1, nI_clamp (by omega)]) ?_
  refine z_aloadr_n dL_law_357 rfl ?_
  refine z_iload_n dL_law_358 rfl ?_
  refine z_iconst (v := (5 : Int32)) dL_law_359 (by decide +kernel) ?_
  refine z_iadd (v := nI (i + 5)) dL_law_360 (nI_add i 5) ?_
  refine z_iald (v := ((G.2.2.2.2 0).2 (i + 5))) dL_law_361 (zN rfl) rfl (vp_in_nI (by rw [e3]; omega) (by rw [e3]; omega)) (by rw [hg1, nI_clamp (by omega)]) ?_
  refine z_callV (ci := 9) (r := (RX9, TX9, 38)) (b := 32) (As := [.int ((G.2.2.2.2 0).2 (i + 1)), .int ((G.2.2.2.2 0).2 (i + 2)), .int ((G.2.2.2.2 0).2 (i + 3)), .int ((G.2.2.2.2 0).2 (i + 4)), .int ((G.2.2.2.2 0).2 (i + 5))]) (rest := [.int v]) hs9 dL_law_362 lk_L_48 lv_X9_lay (Nat.le_of_ble_eq_true rfl) (zN rfl) rfl rfl rfl rfl (by omega) (Nat.le_of_ble_eq_true rfl) (by omega) (by omega) (fun r_ h_ e_ => ?_)
  obtain ⟨e1, e2⟩ := e_
  subst e1
  subst e2
  show zz G (mLw nm) 1000 600000 7302250 Q 365 [some (.ref 0), some (.ref 3), some (.ref 32), some (.int (nI i))] [.int v, .int v] (hh P1 σ2) (ka + mc) (na + ms)
  refine z_icmp_eq (tgt := 782) dL_law_365 (by decide) (fun _ => ?_) (fun c_ => absurd rfl c_)
  exact z_wid (by omega) (by omega) (k P1 A1 σ2 e3 hI2)
theorem tw_match {P : zp} {A : gA} {σ : zc_N} (h : Inv P A σ) (a1 a2 : Int32) : two P A σ mX8_match mX9_match [.int a1, .int a2] := by
  obtain ⟨p8, p9, e, hJ⟩ := ok_match h a1 a2
  refine ⟨19, 18, 0, 0, _, by decide, by decide, by decide, by decide, ctX8_match P σ a1 a2 p8, fun r h' q => ⟨P, A, _, _, _, q.1, q.2, rfl, ?_, hJ⟩⟩
  rw [e]
  exact ctX9_match P (sX8_match P σ a1 a2) a1 a2 p9
set_option maxHeartbeats 1000000 in
theorem lw_match {G : zc_G} {nm : String} {Q : Option Value → zc_H → Prop} {P : zp} {A : gA} {σ : zc_N} {i ka na : Nat} (hI : Inv P A σ) (hi : i + 6 ≤ P.1) (hL : P.1 ≤ 3072) (hka : ka + 3 ≤ 600000) (hna : na + 21 ≤ 7302250) (k : ∀ P' A' σ', P'.1 = P.1 → Inv P' A' σ' → zz G (mLw nm) 1000 600000 7302250 Q 782 [some (.ref 0), some (.ref 3), some (.ref 32), some (.int (nI i))] [] (hh P' σ') (ka + 3) (na + 21)) : zz G (mLw nm) 1000 600000 7302250 Q 370 [some (.ref 0), some (.ref 3), some (.ref 32), some (.int (nI i))] [] (hh P σ) ka na := by
  refine z_scr (fun hg => ?_)
  obtain ⟨d8, d9, mc, ms, Q8, hd8, hd9, hmc, hms, hs8, hnext⟩ := tw_match hI ((G.2.2.2.2 0).2 (i + 1)) ((G.2.2.2.2 0).2 (i + 2))
  refine z_aloadr_n dL_law_370 rfl ?_
  refine z_aloadr_n dL_law_371 rfl ?_
  refine z_iload_n dL_law_372 rfl ?_
  refine z_iconst (v := (1 : Int32)) dL_law_373 (by decide +kernel) ?_
  refine z_iadd (v := nI (i + 1)) dL_law_374 (nI_add i 1) ?_
  refine z_iald (v := ((G.2.2.2.2 0).2 (i + 1))) dL_law_375 (zN rfl) rfl (vp_in_nI (by omega) (by omega)) (by rw [hg, nI_clamp (by omega)]) ?_
  refine z_aloadr_n dL_law_376 rfl ?_
  refine z_iload_n dL_law_377 rfl ?_
  refine z_iconst (v := (2 : Int32)) dL_law_378 (by decide +kernel) ?_
  refine z_iadd (v := nI (i + 2)) dL_law_379 (nI_add i 2) ?_
  refine z_iald (v := ((G.2.2.2.2 0).2 (i + 2))) dL_law_380 (zN rfl) rfl (vp_in_nI (by omega) (by omega)) (by rw [hg, nI_clamp (by omega)]) ?_
  refine z_callV (ci := 8) (r := (RX8, TX8, 12)) (b := 3) (As := [.int ((G.2.2.2.2 0).2 (i + 1)), .int ((G.2.2.2.2 0).2 (i + 2))]) (rest := []) hs8 dL_law_381 lk_L_49 lv_X8_match (Nat.le_of_ble_eq_true rfl) (zN rfl) rfl rfl rfl rfl (by omega) (Nat.le_of_ble_eq_true rfl) (by omega) (by omega) (fun r_ h_ e_ => ?_)
  obtain ⟨P1, A1, σ1, v, σ2, e1, e2, e3, hs9, hI2⟩ := hnext r_ h_ e_
  subst e1
  subst e2
  show zz G (mLw nm) 1000 600000 7302250 Q 384 [some (.ref 0), some (.ref 3), some (.ref 32), some (.int (nI i))] [.int v] (hh P1 σ1) (ka + mc) (na + ms)
  refine z_scr (fun hg1 => ?_)
  refine z_aloadr_n dL_law_384 rfl ?_
  refine z_aloadr_n dL_law_385 rfl ?_
  refine z_iload_n dL_law_386 rfl ?_
  refine z_iconst (v := (1 : Int32)) dL_law_387 (by decide +kernel) ?_
  refine z_iadd (v := nI (i + 1)) dL_law_388 (nI_add i 1) ?_
  refine z_iald (v := ((G.2.2.2.2 0).2 (i + 1))) dL_law_389 (zN rfl) rfl (vp_in_nI (by rw [e3]; omega) (by rw [e3]; omega)) (by rw [hg1, nI_clamp (by omega)]) ?_
  refine z_aloadr_n dL_law_390 rfl ?_
  refine z_iload_n dL_law_391 rfl ?_
  refine z_iconst (v := (2 : Int32)) dL_law_392 (by decide +kernel) ?_
  refine z_iadd (v := nI (i + 2)) dL_law_393 (nI_add i 2) ?_
  refine z_iald (v := ((G.2.2.2.2 0).2 (i + 2))) dL_law_394 (zN rfl) rfl (vp_in_nI (by rw [e3]; omega) (by rw [e3]; omega)) (by rw [hg1, nI_clamp (by omega)]) ?_
  refine z_callV (ci := 9) (r := (RX9, TX9, 38)) (b := 32) (As := [.int ((G.2.2.2.2 0).2 (i + 1)), .int ((G.2.2.2.2 0).2 (i + 2))]) (rest := [.int v]) hs9 dL_law_395 lk_L_52 lv_X9_match (Nat.le_of_ble_eq_true rfl) (zN rfl) rfl rfl rfl rfl (by omega) (Nat.le_of_ble_eq_true rfl) (by omega) (by omega) (fun r_ h_ e_ => ?_)
  obtain ⟨e1, e2⟩ := e_
  subst e1
  subst e2
  show zz G (mLw nm) 1000 600000 7302250 Q 398 [some (.ref 0), some (.ref 3), some (.ref 32), some (.int (nI i))] [.int v, .int v] (hh P1 σ2) (ka + mc) (na + ms)
  refine z_icmp_eq (tgt := 782) dL_law_398 (by decide) (fun _ => ?_) (fun c_ => absurd rfl c_)
  exact z_wid (by omega) (by omega) (k P1 A1 σ2 e3 hI2)
theorem tw_told {P : zp} {A : gA} {σ : zc_N} (h : Inv P A σ) (a1 : Int32) : two P A σ mX8_told mX9_told [.int a1] := by
  obtain ⟨p9, e⟩ := ok_told h a1
  refine ⟨1, 1, 0, 0, _, by decide, by decide, by decide, by decide, ctX8_told P σ a1, fun r h' q => ⟨P, A, _, _, _, q.1, q.2, rfl, ?_, h⟩⟩
  rw [e]
  exact ctX9_told P σ a1 p9
set_option maxHeartbeats 1000000 in
theorem lw_told {G : zc_G} {nm : String} {Q : Option Value → zc_H → Prop} {P : zp} {A : gA} {σ : zc_N} {i ka na : Nat} (hI : Inv P A σ) (hi : i + 6 ≤ P.1) (hL : P.1 ≤ 3072) (hka : ka + 3 ≤ 600000) (hna : na + 21 ≤ 7302250) (k : ∀ P' A' σ', P'.1 = P.1 → Inv P' A' σ' → zz G (mLw nm) 1000 600000 7302250 Q 782 [some (.ref 0), some (.ref 3), some (.ref 32), some (.int (nI i))] [] (hh P' σ') (ka + 3) (na + 21)) : zz G (mLw nm) 1000 600000 7302250 Q 403 [some (.ref 0), some (.ref 3), some (.ref 32), some (.int (nI i))] [] (hh P σ) ka na := by
  refine z_scr (fun hg => ?_)
  obtain ⟨d8, d9, mc, ms, Q8, hd8, hd9, hmc, hms, hs8, hnext⟩ := tw_told hI ((G.2.2.2.2 0).2 (i + 1))
  refine z_aloadr_n dL_law_403 rfl ?_
  refine z_aloadr_n dL_law_404 rfl ?_
  refine z_iload_n dL_law_405 rfl ?_
  refine z_iconst (v := (1 : Int32)) dL_law_406 (by decide +kernel) ?_
  refine z_iadd (v := nI (i + 1)) dL_law_407 (nI_add i 1) ?_
  refine z_iald (v := ((G.2.2.2.2 0).2 (i + 1))) dL_law_408 (zN rfl) rfl (vp_in_nI (by omega) (by omega)) (by rw [hg, nI_clamp (by omega)]) ?_
  refine z_callV (ci := 8) (r := (RX8, TX8, 12)) (b := 3) (As := [.int ((G.2.2.2.2 0).2 (i + 1))]) (rest := []) hs8 dL_law_409 lk_L_53 lv_X8_told (Nat.le_of_ble_eq_true rfl) (zN rfl) rfl rfl rfl rfl (by omega) (Nat.le_of_ble_eq_true rfl) (by omega) (by omega) (fun r_ h_ e_ => ?_)
  obtain ⟨P1, A1, σ1, v, σ2, e1, e2, e3, hs9, hI2⟩ := hnext r_ h_ e_
  subst e1
  subst e2
  show zz G (mLw nm) 1000 600000 7302250 Q 412 [some (.ref 0), some (.ref 3), some (.ref 32), some (.int (nI i))] [.int v] (hh P1 σ1) (ka + mc) (na + ms)
  refine z_scr (fun hg1 => ?_)
  refine z_aloadr_n dL_law_412 rfl ?_
  refine z_aloadr_n dL_law_413 rfl ?_
  refine z_iload_n dL_law_414 rfl ?_
  refine z_iconst (v := (1 : Int32)) dL_law_415 (by decide +kernel) ?_
  refine z_iadd (v := nI (i + 1)) dL_law_416 (nI_add i 1) ?_
  refine z_iald (v := ((G.2.2.2.2 0).2 (i + 1))) dL_law_417 (zN rfl) rfl (vp_in_nI (by rw [e3]; omega) (by rw [e3]; omega)) (by rw [hg1, nI_clamp (by omega)]) ?_
  refine z_callV (ci := 9) (r := (RX9, TX9, 38)) (b := 32) (As := [.int ((G.2.2.2.2 0).2 (i + 1))]) (rest := [.int v]) hs9 dL_law_418 lk_L_56 lv_X9_told (Nat.le_of_ble_eq_true rfl) (zN rfl) rfl rfl rfl rfl (by omega) (Nat.le_of_ble_eq_true rfl) (by omega) (by omega) (fun r_ h_ e_ => ?_)
  obtain ⟨e1, e2⟩ := e_
  subst e1
  subst e2
  show zz G (mLw nm) 1000 600000 7302250 Q 421 [some (.ref 0), some (.ref 3), some (.ref 32), some (.int (nI i))] [.int v, .int v] (hh P1 σ2) (ka + mc) (na + ms)
  refine z_icmp_eq (tgt := 782) dL_law_421 (by decide) (fun _ => ?_) (fun c_ => absurd rfl c_)
  exact z_wid (by omega) (by omega) (k P1 A1 σ2 e3 hI2)
theorem tw_pair {P : zp} {A : gA} {σ : zc_N} (h : Inv P A σ) (a1 : Int32) : two P A σ mX8_pair mX9_pair [.int a1] := by
  obtain ⟨p8, p9, e⟩ := ok_pair h a1
  refine ⟨2, 0, 0, 0, _, by decide, by decide, by decide, by decide, ctX8_pair P σ a1 p8, fun r h' q => ⟨P, A, _, _, _, q.1, q.2, rfl, ?_, h⟩⟩
  rw [e]
  exact ctX9_pair P σ a1 p9
set_option maxHeartbeats 1000000 in
theorem lw_pair {G : zc_G} {nm : String} {Q : Option Value → zc_H → Prop} {P : zp} {A : gA} {σ : zc_N} {i ka na : Nat} (hI : Inv P A σ) (hi : i + 6 ≤ P.1) (hL : P.1 ≤ 3072) (hka : ka + 3 ≤ 600000) (hna : na + 21 ≤ 7302250) (k : ∀ P' A' σ', P'.1 = P.1 → Inv P' A' σ' → zz G (mLw nm) 1000 600000 7302250 Q 782 [some (.ref 0), some (.ref 3), some (.ref 32), some (.int (nI i))] [] (hh P' σ') (ka + 3) (na + 21)) : zz G (mLw nm) 1000 600000 7302250 Q 426 [some (.ref 0), some (.ref 3), some (.ref 32), some (.int (nI i))] [] (hh P σ) ka na := by
  refine z_scr (fun hg => ?_)
  obtain ⟨d8, d9, mc, ms, Q8, hd8, hd9, hmc, hms, hs8, hnext⟩ := tw_pair hI ((G.2.2.2.2 0).2 (i + 1))
  refine z_aloadr_n dL_law_426 rfl ?_
  refine z_aloadr_n dL_law_427 rfl ?_
  refine z_iload_n dL_law_428 rfl ?_
  refine z_iconst (v := (1 : Int32)) dL_law_429 (by decide +kernel) ?_
  refine z_iadd (v := nI (i + 1)) dL_law_430 (nI_add i 1) ?_
  refine z_iald (v := ((G.2.2.2.2 0).2 (i + 1))) dL_law_431 (zN rfl) rfl (vp_in_nI (by omega) (by omega)) (by rw [hg, nI_clamp (by omega)]) ?_
  refine z_callV (ci := 8) (r := (RX8, TX8, 12)) (b := 3) (As := [.int ((G.2.2.2.2 0).2 (i + 1))]) (rest := []) hs8 dL_law_432 lk_L_57 lv_X8_pair (Nat.le_of_ble_eq_true rfl) (zN rfl) rfl rfl rfl rfl (by omega) (Nat.le_of_ble_eq_true rfl) (by omega) (by omega) (fun r_ h_ e_ => ?_)
  obtain ⟨P1, A1, σ1, v, σ2, e1, e2, e3, hs9, hI2⟩ := hnext r_ h_ e_
  subst e1
  subst e2
  show zz G (mLw nm) 1000 600000 7302250 Q 435 [some (.ref 0), some (.ref 3), some (.ref 32), some (.int (nI i))] [.int v] (hh P1 σ1) (ka + mc) (na + ms)
  refine z_scr (fun hg1 => ?_)
  refine z_aloadr_n dL_law_435 rfl ?_
  refine z_aloadr_n dL_law_436 rfl ?_
  refine z_iload_n dL_law_437 rfl ?_
  refine z_iconst (v := (1 : Int32)) dL_law_438 (by decide +kernel) ?_
  refine z_iadd (v := nI (i + 1)) dL_law_439 (nI_add i 1) ?_
  refine z_iald (v := ((G.2.2.2.2 0).2 (i + 1))) dL_law_440 (zN rfl) rfl (vp_in_nI (by rw [e3]; omega) (by rw [e3]; omega)) (by rw [hg1, nI_clamp (by omega)]) ?_
  refine z_callV (ci := 9) (r := (RX9, TX9, 38)) (b := 32) (As := [.int ((G.2.2.2.2 0).2 (i + 1))]) (rest := [.int v]) hs9 dL_law_441 lk_L_60 lv_X9_pair (Nat.le_of_ble_eq_true rfl) (zN rfl) rfl rfl rfl rfl (by omega) (Nat.le_of_ble_eq_true rfl) (by omega) (by omega) (fun r_ h_ e_ => ?_)
  obtain ⟨e1, e2⟩ := e_
  subst e1
  subst e2
  show zz G (mLw nm) 1000 600000 7302250 Q 444 [some (.ref 0), some (.ref 3), some (.ref 32), some (.int (nI i))] [.int v, .int v] (hh P1 σ2) (ka + mc) (na + ms)
  refine z_icmp_eq (tgt := 782) dL_law_444 (by decide) (fun _ => ?_) (fun c_ => absurd rfl c_)
  exact z_wid (by omega) (by omega) (k P1 A1 σ2 e3 hI2)
theorem tw_keep {P : zp} {A : gA} {σ : zc_N} (h : Inv P A σ) (a1 a2 a3 : Int32) : two P A σ mX8_keep mX9_keep [.int a1, .int a2, .int a3] := by
  obtain ⟨p8, p9, e, hJ⟩ := ok_keep h a1 a2 a3
  refine ⟨2, 1, 0, 0, _, by decide, by decide, by decide, by decide, ctX8_keep P σ a1 a2 a3 p8, fun r h' q => ⟨P, A, _, _, _, q.1, q.2, rfl, ?_, hJ⟩⟩
  rw [e]
  exact ctX9_keep P (sX8_keep σ a1 a2 a3) a1 a2 a3 p9
set_option maxHeartbeats 1000000 in
theorem lw_keep {G : zc_G} {nm : String} {Q : Option Value → zc_H → Prop} {P : zp} {A : gA} {σ : zc_N} {i ka na : Nat} (hI : Inv P A σ) (hi : i + 6 ≤ P.1) (hL : P.1 ≤ 3072) (hka : ka + 3 ≤ 600000) (hna : na + 21 ≤ 7302250) (k : ∀ P' A' σ', P'.1 = P.1 → Inv P' A' σ' → zz G (mLw nm) 1000 600000 7302250 Q 782 [some (.ref 0), some (.ref 3), some (.ref 32), some (.int (nI i))] [] (hh P' σ') (ka + 3) (na + 21)) : zz G (mLw nm) 1000 600000 7302250 Q 449 [some (.ref 0), some (.ref 3), some (.ref 32), some (.int (nI i))] [] (hh P σ) ka na := by
  refine z_scr (fun hg => ?_)
  obtain ⟨d8, d9, mc, ms, Q8, hd8, hd9, hmc, hms, hs8, hnext⟩ := tw_keep hI ((G.2.2.2.2 0).2 (i + 1)) ((G.2.2.2.2 0).2 (i + 2)) ((G.2.2.2.2 0).2 (i + 3))
  refine z_aloadr_n dL_law_449 rfl ?_
  refine z_aloadr_n dL_law_450 rfl ?_
  refine z_iload_n dL_law_451 rfl ?_
  refine z_iconst (v := (1 : Int32)) dL_law_452 (by decide +kernel) ?_
  refine z_iadd (v := nI (i + 1)) dL_law_453 (nI_add i 1) ?_
  refine z_iald (v := ((G.2.2.2.2 0).2 (i + 1))) dL_law_454 (zN rfl) rfl (vp_in_nI (by omega) (by omega)) (by rw [hg, nI_clamp (by omega)]) ?_
  refine z_aloadr_n dL_law_455 rfl ?_
  refine z_iload_n dL_law_456 rfl ?_
  refine z_iconst (v := (2 : Int32)) dL_law_457 (by decide +kernel) ?_
  refine z_iadd (v := nI (i + 2)) dL_law_458 (nI_add i 2) ?_
  refine z_iald (v := ((G.2.2.2.2 0).2 (i + 2))) dL_law_459 (zN rfl) rfl (vp_in_nI (by omega) (by omega)) (by rw [hg, nI_clamp (by omega)]) ?_
  refine z_aloadr_n dL_law_460 rfl ?_
  refine z_iload_n dL_law_461 rfl ?_
  refine z_iconst (v := (3 : Int32)) dL_law_462 (by decide +kernel) ?_
  refine z_iadd (v := nI (i + 3)) dL_law_463 (nI_add i 3) ?_
  refine z_iald (v := ((G.2.2.2.2 0).2 (i + 3))) dL_law_464 (zN rfl) rfl (vp_in_nI (by omega) (by omega)) (by rw [hg, nI_clamp (by omega)]) ?_
  refine z_callV (ci := 8) (r := (RX8, TX8, 12)) (b := 3) (As := [.int ((G.2.2.2.2 0).2 (i + 1)), .int ((G.2.2.2.2 0).2 (i + 2)), .int ((G.2.2.2.2 0).2 (i + 3))]) (rest := []) hs8 dL_law_465 lk_L_61 lv_X8_keep (Nat.le_of_ble_eq_true rfl) (zN rfl) rfl rfl rfl rfl (by omega) (Nat.le_of_ble_eq_true rfl) (by omega) (by omega) (fun r_ h_ e_ => ?_)
  obtain ⟨P1, A1, σ1, v, σ2, e1, e2, e3, hs9, hI2⟩ := hnext r_ h_ e_
  subst e1
  subst e2
  show zz G (mLw nm) 1000 600000 7302250 Q 468 [some (.ref 0), some (.ref 3), some (.ref 32), some (.int (nI i))] [.int v] (hh P1 σ1) (ka + mc) (na + ms)
  refine z_scr (fun hg1 => ?_)
  refine z_aloadr_n dL_law_468 rfl ?_
  refine z_aloadr_n dL_law_469 rfl ?_
  refine z_iload_n dL_law_470 rfl ?_
  refine z_iconst (v := (1 : Int32)) dL_law_471 (by decide +kernel) ?_
  refine z_iadd (v := nI (i + 1)) dL_law_472 (nI_add i 1) ?_
  refine z_iald (v := ((G.2.2.2.2 0).2 (i + 1))) dL_law_473 (zN rfl) rfl (vp_in_nI (by rw [e3]; omega) (by rw [e3]; omega)) (by rw [hg1, nI_clamp (by omega)]) ?_
  refine z_aloadr_n dL_law_474 rfl ?_
  refine z_iload_n dL_law_475 rfl ?_
  refine z_iconst (v := (2 : Int32)) dL_law_476 (by decide +kernel) ?_
  refine z_iadd (v := nI (i + 2)) dL_law_477 (nI_add i 2) ?_
  refine z_iald (v := ((G.2.2.2.2 0).2 (i + 2))) dL_law_478 (zN rfl) rfl (vp_in_nI (by rw [e3]; omega) (by rw [e3]; omega)) (by rw [hg1, nI_clamp (by omega)]) ?_
  refine z_aloadr_n dL_law_479 rfl ?_
  refine z_iload_n dL_law_480 rfl ?_
  refine z_iconst (v := (3 : Int32)) dL_law_481 (by decide +kernel) ?_
  refine z_iadd (v := nI (i + 3)) dL_law_482 (nI_add i 3) ?_
  refine z_iald (v := ((G.2.2.2.2 0).2 (i + 3))) dL_law_483 (zN rfl) rfl (vp_in_nI (by rw [e3]; omega) (by rw [e3]; omega)) (by rw [hg1, nI_clamp (by omega)]) ?_
  refine z_callV (ci := 9) (r := (RX9, TX9, 38)) (b := 32) (As := [.int ((G.2.2.2.2 0).2 (i + 1)), .int ((G.2.2.2.2 0).2 (i + 2)), .int ((G.2.2.2.2 0).2 (i + 3))]) (rest := [.int v]) hs9 dL_law_484 lk_L_65 lv_X9_keep (Nat.le_of_ble_eq_true rfl) (zN rfl) rfl rfl rfl rfl (by omega) (Nat.le_of_ble_eq_true rfl) (by omega) (by omega) (fun r_ h_ e_ => ?_)
  obtain ⟨e1, e2⟩ := e_
  subst e1
  subst e2
  show zz G (mLw nm) 1000 600000 7302250 Q 487 [some (.ref 0), some (.ref 3), some (.ref 32), some (.int (nI i))] [.int v, .int v] (hh P1 σ2) (ka + mc) (na + ms)
  refine z_icmp_eq (tgt := 782) dL_law_487 (by decide) (fun _ => ?_) (fun c_ => absurd rfl c_)
  exact z_wid (by omega) (by omega) (k P1 A1 σ2 e3 hI2)
theorem tw_part {P : zp} {A : gA} {σ : zc_N} (h : Inv P A σ) (a1 : Int32) : two P A σ mX8_part mX9_part [.int a1] := by
  obtain ⟨p8, p9, e, hJ⟩ := ok_part h a1
  refine ⟨2, 1, 0, 0, _, by decide, by decide, by decide, by decide, ctX8_part P σ a1 p8, fun r h' q => ⟨P, A, _, _, _, q.1, q.2, rfl, ?_, hJ⟩⟩
  rw [e]
  exact ctX9_part P (sX8_part σ a1) a1 p9
set_option maxHeartbeats 1000000 in
theorem lw_part {G : zc_G} {nm : String} {Q : Option Value → zc_H → Prop} {P : zp} {A : gA} {σ : zc_N} {i ka na : Nat} (hI : Inv P A σ) (hi : i + 6 ≤ P.1) (hL : P.1 ≤ 3072) (hka : ka + 3 ≤ 600000) (hna : na + 21 ≤ 7302250) (k : ∀ P' A' σ', P'.1 = P.1 → Inv P' A' σ' → zz G (mLw nm) 1000 600000 7302250 Q 782 [some (.ref 0), some (.ref 3), some (.ref 32), some (.int (nI i))] [] (hh P' σ') (ka + 3) (na + 21)) : zz G (mLw nm) 1000 600000 7302250 Q 492 [some (.ref 0), some (.ref 3), some (.ref 32), some (.int (nI i))] [] (hh P σ) ka na := by
  refine z_scr (fun hg => ?_)
  obtain ⟨d8, d9, mc, ms, Q8, hd8, hd9, hmc, hms, hs8, hnext⟩ := tw_part hI ((G.2.2.2.2 0).2 (i + 1))
  refine z_aloadr_n dL_law_492 rfl ?_
  refine z_aloadr_n dL_law_493 rfl ?_
  refine z_iload_n dL_law_494 rfl ?_
  refine z_iconst (v := (1 : Int32)) dL_law_495 (by decide +kernel) ?_
  refine z_iadd (v := nI (i + 1)) dL_law_496 (nI_add i 1) ?_
  refine z_iald (v := ((G.2.2.2.2 0).2 (i + 1))) dL_law_497 (zN rfl) rfl (vp_in_nI (by omega) (by omega)) (by rw [hg, nI_clamp (by omega)]) ?_
  refine z_callV (ci := 8) (r := (RX8, TX8, 12)) (b := 3) (As := [.int ((G.2.2.2.2 0).2 (i + 1))]) (rest := []) hs8 dL_law_498 lk_L_66 lv_X8_part (Nat.le_of_ble_eq_true rfl) (zN rfl) rfl rfl rfl rfl (by omega) (Nat.le_of_ble_eq_true rfl) (by omega) (by omega) (fun r_ h_ e_ => ?_)
  obtain ⟨P1, A1, σ1, v, σ2, e1, e2, e3, hs9, hI2⟩ := hnext r_ h_ e_
  subst e1
  subst e2
  show zz G (mLw nm) 1000 600000 7302250 Q 501 [some (.ref 0), some (.ref 3), some (.ref 32), some (.int (nI i))] [.int v] (hh P1 σ1) (ka + mc) (na + ms)
  refine z_scr (fun hg1 => ?_)
  refine z_aloadr_n dL_law_501 rfl ?_
  refine z_aloadr_n dL_law_502 rfl ?_
  refine z_iload_n dL_law_503 rfl ?_
  refine z_iconst (v := (1 : Int32)) dL_law_504 (by decide +kernel) ?_
  refine z_iadd (v := nI (i + 1)) dL_law_505 (nI_add i 1) ?_
  refine z_iald (v := ((G.2.2.2.2 0).2 (i + 1))) dL_law_506 (zN rfl) rfl (vp_in_nI (by rw [e3]; omega) (by rw [e3]; omega)) (by rw [hg1, nI_clamp (by omega)]) ?_
  refine z_callV (ci := 9) (r := (RX9, TX9, 38)) (b := 32) (As := [.int ((G.2.2.2.2 0).2 (i + 1))]) (rest := [.int v]) hs9 dL_law_507 lk_L_69 lv_X9_part (Nat.le_of_ble_eq_true rfl) (zN rfl) rfl rfl rfl rfl (by omega) (Nat.le_of_ble_eq_true rfl) (by omega) (by omega) (fun r_ h_ e_ => ?_)
  obtain ⟨e1, e2⟩ := e_
  subst e1
  subst e2
  show zz G (mLw nm) 1000 600000 7302250 Q 510 [some (.ref 0), some (.ref 3), some (.ref 32), some (.int (nI i))] [.int v, .int v] (hh P1 σ2) (ka + mc) (na + ms)
  refine z_icmp_eq (tgt := 782) dL_law_510 (by decide) (fun _ => ?_) (fun c_ => absurd rfl c_)
  exact z_wid (by omega) (by omega) (k P1 A1 σ2 e3 hI2)
theorem tw_of {P : zp} {A : gA} {σ : zc_N} (h : Inv P A σ) (a1 a2 : Int32) : two P A σ mX8_of mX9_of [.int a1, .int a2] := by
  obtain ⟨p8, p9, e⟩ := ok_of h a1 a2
  refine ⟨2, 1, 0, 0, _, by decide, by decide, by decide, by decide, ctX8_of P σ a1 a2 p8, fun r h' q => ⟨P, A, _, _, _, q.1, q.2, rfl, ?_, h⟩⟩
  rw [e]
  exact ctX9_of P σ a1 a2 p9
set_option maxHeartbeats 1000000 in
theorem lw_of {G : zc_G} {nm : String} {Q : Option Value → zc_H → Prop} {P : zp} {A : gA} {σ : zc_N} {i ka na : Nat} (hI : Inv P A σ) (hi : i + 6 ≤ P.1) (hL : P.1 ≤ 3072) (hka : ka + 3 ≤ 600000) (hna : na + 21 ≤ 7302250) (k : ∀ P' A' σ', P'.1 = P.1 → Inv P' A' σ' → zz G (mLw nm) 1000 600000 7302250 Q 782 [some (.ref 0), some (.ref 3), some (.ref 32), some (.int (nI i))] [] (hh P' σ') (ka + 3) (na + 21)) : zz G (mLw nm) 1000 600000 7302250 Q 515 [some (.ref 0), some (.ref 3), some (.ref 32), some (.int (nI i))] [] (hh P σ) ka na := by
  refine z_scr (fun hg => ?_)
  obtain ⟨d8, d9, mc, ms, Q8, hd8, hd9, hmc, hms, hs8, hnext⟩ := tw_of hI ((G.2.2.2.2 0).2 (i + 1)) ((G.2.2.2.2 0).2 (i + 2))
  refine z_aloadr_n dL_law_515 rfl ?_
  refine z_aloadr_n dL_law_516 rfl ?_
  refine z_iload_n dL_law_517 rfl ?_
  refine z_iconst (v := (1 : Int32)) dL_law_518 (by decide +kernel) ?_
  refine z_iadd (v := nI (i + 1)) dL_law_519 (nI_add i 1) ?_
  refine z_iald (v := ((G.2.2.2.2 0).2 (i + 1))) dL_law_520 (zN rfl) rfl (vp_in_nI (by omega) (by omega)) (by rw [hg, nI_clamp (by omega)]) ?_
  refine z_aloadr_n dL_law_521 rfl ?_
  refine z_iload_n dL_law_522 rfl ?_
  refine z_iconst (v := (2 : Int32)) dL_law_523 (by decide +kernel) ?_
  refine z_iadd (v := nI (i + 2)) dL_law_524 (nI_add i 2) ?_
  refine z_iald (v := ((G.2.2.2.2 0).2 (i + 2))) dL_law_525 (zN rfl) rfl (vp_in_nI (by omega) (by omega)) (by rw [hg, nI_clamp (by omega)]) ?_
  refine z_callV (ci := 8) (r := (RX8, TX8, 12)) (b := 3) (As := [.int ((G.2.2.2.2 0).2 (i + 1)), .int ((G.2.2.2.2 0).2 (i + 2))]) (rest := []) hs8 dL_law_526 lk_L_70 lv_X8_of (Nat.le_of_ble_eq_true rfl) (zN rfl) rfl rfl rfl rfl (by omega) (Nat.le_of_ble_eq_true rfl) (by omega) (by omega) (fun r_ h_ e_ => ?_)
  obtain ⟨P1, A1, σ1, v, σ2, e1, e2, e3, hs9, hI2⟩ := hnext r_ h_ e_
  subst e1
  subst e2
  show zz G (mLw nm) 1000 600000 7302250 Q 529 [some (.ref 0), some (.ref 3), some (.ref 32), some (.int (nI i))] [.int v] (hh P1 σ1) (ka + mc) (na + ms)
  refine z_scr (fun hg1 => ?_)
  refine z_aloadr_n dL_law_529 rfl ?_
  refine z_aloadr_n dL_law_530 rfl ?_
  refine z_iload_n dL_law_531 rfl ?_
  refine z_iconst (v := (1 : Int32)) dL_law_532 (by decide +kernel) ?_
  refine z_iadd (v := nI (i + 1)) dL_law_533 (nI_add i 1) ?_
  refine z_iald (v := ((G.2.2.2.2 0).2 (i + 1))) dL_law_534 (zN rfl) rfl (vp_in_nI (by rw [e3]; omega) (by rw [e3]; omega)) (by rw [hg1, nI_clamp (by omega)]) ?_
  refine z_aloadr_n dL_law_535 rfl ?_
  refine z_iload_n dL_law_536 rfl ?_
  refine z_iconst (v := (2 : Int32)) dL_law_537 (by decide +kernel) ?_
  refine z_iadd (v := nI (i + 2)) dL_law_538 (nI_add i 2) ?_
  refine z_iald (v := ((G.2.2.2.2 0).2 (i + 2))) dL_law_539 (zN rfl) rfl (vp_in_nI (by rw [e3]; omega) (by rw [e3]; omega)) (by rw [hg1, nI_clamp (by omega)]) ?_
  refine z_callV (ci := 9) (r := (RX9, TX9, 38)) (b := 32) (As := [.int ((G.2.2.2.2 0).2 (i + 1)), .int ((G.2.2.2.2 0).2 (i + 2))]) (rest := [.int v]) hs9 dL_law_540 lk_L_73 lv_X9_of (Nat.le_of_ble_eq_true rfl) (zN rfl) rfl rfl rfl rfl (by omega) (Nat.le_of_ble_eq_true rfl) (by omega) (by omega) (fun r_ h_ e_ => ?_)
  obtain ⟨e1, e2⟩ := e_
  subst e1
  subst e2
  show zz G (mLw nm) 1000 600000 7302250 Q 543 [some (.ref 0), some (.ref 3), some (.ref 32), some (.int (nI i))] [.int v, .int v] (hh P1 σ2) (ka + mc) (na + ms)
  refine z_icmp_eq (tgt := 782) dL_law_543 (by decide) (fun _ => ?_) (fun c_ => absurd rfl c_)
  exact z_wid (by omega) (by omega) (k P1 A1 σ2 e3 hI2)
theorem tw_melt {P : zp} {A : gA} {σ : zc_N} (h : Inv P A σ) (a1 a2 : Int32) : two P A σ mX8_melt mX9_melt [.int a1, .int a2] := by
  obtain ⟨p8, p9, e, hJ⟩ := ok_melt h a1 a2
  refine ⟨2, 1, 0, 0, _, by decide, by decide, by decide, by decide, ctX8_melt P σ a1 a2 p8, fun r h' q => ⟨P, A, _, _, _, q.1, q.2, rfl, ?_, hJ⟩⟩
  rw [e]
  exact ctX9_melt P (sX8_melt σ a1 a2) a1 a2 p9
set_option maxHeartbeats 1000000 in
theorem lw_melt {G : zc_G} {nm : String} {Q : Option Value → zc_H → Prop} {P : zp} {A : gA} {σ : zc_N} {i ka na : Nat} (hI : Inv P A σ) (hi : i + 6 ≤ P.1) (hL : P.1 ≤ 3072) (hka : ka + 3 ≤ 600000) (hna : na + 21 ≤ 7302250) (k : ∀ P' A' σ', P'.1 = P.1 → Inv P' A' σ' → zz G (mLw nm) 1000 600000 7302250 Q 782 [some (.ref 0), some (.ref 3), some (.ref 32), some (.int (nI i))] [] (hh P' σ') (ka + 3) (na + 21)) : zz G (mLw nm) 1000 600000 7302250 Q 548 [some (.ref 0), some (.ref 3), some (.ref 32), some (.int (nI i))] [] (hh P σ) ka na := by
  refine z_scr (fun hg => ?_)
  obtain ⟨d8, d9, mc, ms, Q8, hd8, hd9, hmc, hms, hs8, hnext⟩ := tw_melt hI ((G.2.2.2.2 0).2 (i + 1)) ((G.2.2.2.2 0).2 (i + 2))
  refine z_aloadr_n dL_law_548 rfl ?_
  refine z_aloadr_n dL_law_549 rfl ?_
  refine z_iload_n dL_law_550 rfl ?_
  refine z_iconst (v := (1 : Int32)) dL_law_551 (by decide +kernel) ?_
  refine z_iadd (v := nI (i + 1)) dL_law_552 (nI_add i 1) ?_
  refine z_iald (v := ((G.2.2.2.2 0).2 (i + 1))) dL_law_553 (zN rfl) rfl (vp_in_nI (by omega) (by omega)) (by rw [hg, nI_clamp (by omega)]) ?_
  refine z_aloadr_n dL_law_554 rfl ?_
  refine z_iload_n dL_law_555 rfl ?_
  refine z_iconst (v := (2 : Int32)) dL_law_556 (by decide +kernel) ?_
  refine z_iadd (v := nI (i + 2)) dL_law_557 (nI_add i 2) ?_
  refine z_iald (v := ((G.2.2.2.2 0).2 (i + 2))) dL_law_558 (zN rfl) rfl (vp_in_nI (by omega) (by omega)) (by rw [hg, nI_clamp (by omega)]) ?_
  refine z_callV (ci := 8) (r := (RX8, TX8, 12)) (b := 3) (As := [.int ((G.2.2.2.2 0).2 (i + 1)), .int ((G.2.2.2.2 0).2 (i + 2))]) (rest := []) hs8 dL_law_559 lk_L_74 lv_X8_melt (Nat.le_of_ble_eq_true rfl) (zN rfl) rfl rfl rfl rfl (by omega) (Nat.le_of_ble_eq_true rfl) (by omega) (by omega) (fun r_ h_ e_ => ?_)
  obtain ⟨P1, A1, σ1, v, σ2, e1, e2, e3, hs9, hI2⟩ := hnext r_ h_ e_
  subst e1
  subst e2
  show zz G (mLw nm) 1000 600000 7302250 Q 562 [some (.ref 0), some (.ref 3), some (.ref 32), some (.int (nI i))] [.int v] (hh P1 σ1) (ka + mc) (na + ms)
  refine z_scr (fun hg1 => ?_)
  refine z_aloadr_n dL_law_562 rfl ?_
  refine z_aloadr_n dL_law_563 rfl ?_
  refine z_iload_n dL_law_564 rfl ?_
  refine z_iconst (v := (1 : Int32)) dL_law_565 (by decide +kernel) ?_
  refine z_iadd (v := nI (i + 1)) dL_law_566 (nI_add i 1) ?_
  refine z_iald (v := ((G.2.2.2.2 0).2 (i + 1))) dL_law_567 (zN rfl) rfl (vp_in_nI (by rw [e3]; omega) (by rw [e3]; omega)) (by rw [hg1, nI_clamp (by omega)]) ?_
  refine z_aloadr_n dL_law_568 rfl ?_
  refine z_iload_n dL_law_569 rfl ?_
  refine z_iconst (v := (2 : Int32)) dL_law_570 (by decide +kernel) ?_
  refine z_iadd (v := nI (i + 2)) dL_law_571 (nI_add i 2) ?_
  refine z_iald (v := ((G.2.2.2.2 0).2 (i + 2))) dL_law_572 (zN rfl) rfl (vp_in_nI (by rw [e3]; omega) (by rw [e3]; omega)) (by rw [hg1, nI_clamp (by omega)]) ?_
  refine z_callV (ci := 9) (r := (RX9, TX9, 38)) (b := 32) (As := [.int ((G.2.2.2.2 0).2 (i + 1)), .int ((G.2.2.2.2 0).2 (i + 2))]) (rest := [.int v]) hs9 dL_law_573 lk_L_77 lv_X9_melt (Nat.le_of_ble_eq_true rfl) (zN rfl) rfl rfl rfl rfl (by omega) (Nat.le_of_ble_eq_true rfl) (by omega) (by omega) (fun r_ h_ e_ => ?_)
  obtain ⟨e1, e2⟩ := e_
  subst e1
  subst e2
  show zz G (mLw nm) 1000 600000 7302250 Q 576 [some (.ref 0), some (.ref 3), some (.ref 32), some (.int (nI i))] [.int v, .int v] (hh P1 σ2) (ka + mc) (na + ms)
  refine z_icmp_eq (tgt := 782) dL_law_576 (by decide) (fun _ => ?_) (fun c_ => absurd rfl c_)
  exact z_wid (by omega) (by omega) (k P1 A1 σ2 e3 hI2)
theorem tw_like {P : zp} {A : gA} {σ : zc_N} (h : Inv P A σ) (a1 : Int32) : two P A σ mX8_like mX9_like [.int a1] := by
  obtain ⟨p8, p9, e, hJ⟩ := ok_like h a1
  refine ⟨19, 18, 0, 0, _, by decide, by decide, by decide, by decide, ctX8_like P σ a1 p8, fun r h' q => ⟨P, A, _, _, _, q.1, q.2, rfl, ?_, hJ⟩⟩
  rw [e]
  exact ctX9_like P (sX8_like P σ a1) a1 p9
set_option maxHeartbeats 1000000 in
theorem lw_like {G : zc_G} {nm : String} {Q : Option Value → zc_H → Prop} {P : zp} {A : gA} {σ : zc_N} {i ka na : Nat} (hI : Inv P A σ) (hi : i + 6 ≤ P.1) (hL : P.1 ≤ 3072) (hka : ka + 3 ≤ 600000) (hna : na + 21 ≤ 7302250) (k : ∀ P' A' σ', P'.1 = P.1 → Inv P' A' σ' → zz G (mLw nm) 1000 600000 7302250 Q 782 [some (.ref 0), some (.ref 3), some (.ref 32), some (.int (nI i))] [] (hh P' σ') (ka + 3) (na + 21)) : zz G (mLw nm) 1000 600000 7302250 Q 581 [some (.ref 0), some (.ref 3), some (.ref 32), some (.int (nI i))] [] (hh P σ) ka na := by
  refine z_scr (fun hg => ?_)
  obtain ⟨d8, d9, mc, ms, Q8, hd8, hd9, hmc, hms, hs8, hnext⟩ := tw_like hI ((G.2.2.2.2 0).2 (i + 1))
  refine z_aloadr_n dL_law_581 rfl ?_
  refine z_aloadr_n dL_law_582 rfl ?_
  refine z_iload_n dL_law_583 rfl ?_
  refine z_iconst (v := (1 : Int32)) dL_law_584 (by decide +kernel) ?_
  refine z_iadd (v := nI (i + 1)) dL_law_585 (nI_add i 1) ?_
  refine z_iald (v := ((G.2.2.2.2 0).2 (i + 1))) dL_law_586 (zN rfl) rfl (vp_in_nI (by omega) (by omega)) (by rw [hg, nI_clamp (by omega)]) ?_
  refine z_callV (ci := 8) (r := (RX8, TX8, 12)) (b := 3) (As := [.int ((G.2.2.2.2 0).2 (i + 1))]) (rest := []) hs8 dL_law_587 lk_L_78 lv_X8_like (Nat.le_of_ble_eq_true rfl) (zN rfl) rfl rfl rfl rfl (by omega) (Nat.le_of_ble_eq_true rfl) (by omega) (by omega) (fun r_ h_ e_ => ?_)
  obtain ⟨P1, A1, σ1, v, σ2, e1, e2, e3, hs9, hI2⟩ := hnext r_ h_ e_
  subst e1
  subst e2
  show zz G (mLw nm) 1000 600000 7302250 Q 590 [some (.ref 0), some (.ref 3), some (.ref 32), some (.int (nI i))] [.int v] (hh P1 σ1) (ka + mc) (na + ms)
  refine z_scr (fun hg1 => ?_)
  refine z_aloadr_n dL_law_590 rfl ?_
  refine z_aloadr_n dL_law_591 rfl ?_
  refine z_iload_n dL_law_592 rfl ?_
  refine z_iconst (v := (1 : Int32)) dL_law_593 (by decide +kernel) ?_
  refine z_iadd (v := nI (i + 1)) dL_law_594 (nI_add i 1) ?_
  refine z_iald (v := ((G.2.2.2.2 0).2 (i + 1))) dL_law_595 (zN rfl) rfl (vp_in_nI (by rw [e3]; omega) (by rw [e3]; omega)) (by rw [hg1, nI_clamp (by omega)]) ?_
  refine z_callV (ci := 9) (r := (RX9, TX9, 38)) (b := 32) (As := [.int ((G.2.2.2.2 0).2 (i + 1))]) (rest := [.int v]) hs9 dL_law_596 lk_L_81 lv_X9_like (Nat.le_of_ble_eq_true rfl) (zN rfl) rfl rfl rfl rfl (by omega) (Nat.le_of_ble_eq_true rfl) (by omega) (by omega) (fun r_ h_ e_ => ?_)
  obtain ⟨e1, e2⟩ := e_
  subst e1
  subst e2
  show zz G (mLw nm) 1000 600000 7302250 Q 599 [some (.ref 0), some (.ref 3), some (.ref 32), some (.int (nI i))] [.int v, .int v] (hh P1 σ2) (ka + mc) (na + ms)
  refine z_icmp_eq (tgt := 782) dL_law_599 (by decide) (fun _ => ?_) (fun c_ => absurd rfl c_)
  exact z_wid (by omega) (by omega) (k P1 A1 σ2 e3 hI2)
theorem tw_strangers {P : zp} {A : gA} {σ : zc_N} (h : Inv P A σ) (a1 a2 : Int32) : two P A σ mX8_strangers mX9_strangers [.int a1, .int a2] := by
  obtain ⟨p8, p9, e, hJ⟩ := ok_strangers h a1 a2
  refine ⟨19, 18, 0, 0, _, by decide, by decide, by decide, by decide, ctX8_strangers P σ a1 a2 p8, fun r h' q => ⟨P, A, _, _, _, q.1, q.2, rfl, ?_, hJ⟩⟩
  rw [e]
  exact ctX9_strangers P (sX8_strangers P σ a1 a2) a1 a2 p9
set_option maxHeartbeats 1000000 in
theorem lw_strangers {G : zc_G} {nm : String} {Q : Option Value → zc_H → Prop} {P : zp} {A : gA} {σ : zc_N} {i ka na : Nat} (hI : Inv P A σ) (hi : i + 6 ≤ P.1) (hL : P.1 ≤ 3072) (hka : ka + 3 ≤ 600000) (hna : na + 21 ≤ 7302250) (k : ∀ P' A' σ', P'.1 = P.1 → Inv P' A' σ' → zz G (mLw nm) 1000 600000 7302250 Q 782 [some (.ref 0), some (.ref 3), some (.ref 32), some (.int (nI i))] [] (hh P' σ') (ka + 3) (na + 21)) : zz G (mLw nm) 1000 600000 7302250 Q 604 [some (.ref 0), some (.ref 3), some (.ref 32), some (.int (nI i))] [] (hh P σ) ka na := by
  refine z_scr (fun hg => ?_)
  obtain ⟨d8, d9, mc, ms, Q8, hd8, hd9, hmc, hms, hs8, hnext⟩ := tw_strangers hI ((G.2.2.2.2 0).2 (i + 1)) ((G.2.2.2.2 0).2 (i + 2))
  refine z_aloadr_n dL_law_604 rfl ?_
  refine z_aloadr_n dL_law_605 rfl ?_
  refine z_iload_n dL_law_606 rfl ?_
  refine z_iconst (v := (1 : Int32)) dL_law_607 (by decide +kernel) ?_
  refine z_iadd (v := nI (i + 1)) dL_law_608 (nI_add i 1) ?_
  refine z_iald (v := ((G.2.2.2.2 0).2 (i + 1))) dL_law_609 (zN rfl) rfl (vp_in_nI (by omega) (by omega)) (by rw [hg, nI_clamp (by omega)]) ?_
  refine z_aloadr_n dL_law_610 rfl ?_
  refine z_iload_n dL_law_611 rfl ?_
  refine z_iconst (v := (2 : Int32)) dL_law_612 (by decide +kernel) ?_
  refine z_iadd (v := nI (i + 2)) dL_law_613 (nI_add i 2) ?_
  refine z_iald (v := ((G.2.2.2.2 0).2 (i + 2))) dL_law_614 (zN rfl) rfl (vp_in_nI (by omega) (by omega)) (by rw [hg, nI_clamp (by omega)]) ?_
  refine z_callV (ci := 8) (r := (RX8, TX8, 12)) (b := 3) (As := [.int ((G.2.2.2.2 0).2 (i + 1)), .int ((G.2.2.2.2 0).2 (i + 2))]) (rest := []) hs8 dL_law_615 lk_L_82 lv_X8_strangers (Nat.le_of_ble_eq_true rfl) (zN rfl) rfl rfl rfl rfl (by omega) (Nat.le_of_ble_eq_true rfl) (by omega) (by omega) (fun r_ h_ e_ => ?_)
  obtain ⟨P1, A1, σ1, v, σ2, e1, e2, e3, hs9, hI2⟩ := hnext r_ h_ e_
  subst e1
  subst e2
  show zz G (mLw nm) 1000 600000 7302250 Q 618 [some (.ref 0), some (.ref 3), some (.ref 32), some (.int (nI i))] [.int v] (hh P1 σ1) (ka + mc) (na + ms)
  refine z_scr (fun hg1 => ?_)
  refine z_aloadr_n dL_law_618 rfl ?_
  refine z_aloadr_n dL_law_619 rfl ?_
  refine z_iload_n dL_law_620 rfl ?_
  refine z_iconst (v := (1 : Int32)) dL_law_621 (by decide +kernel) ?_
  refine z_iadd (v := nI (i + 1)) dL_law_622 (nI_add i 1) ?_
  refine z_iald (v := ((G.2.2.2.2 0).2 (i + 1))) dL_law_623 (zN rfl) rfl (vp_in_nI (by rw [e3]; omega) (by rw [e3]; omega)) (by rw [hg1, nI_clamp (by omega)]) ?_
  refine z_aloadr_n dL_law_624 rfl ?_
  refine z_iload_n dL_law_625 rfl ?_
  refine z_iconst (v := (2 : Int32)) dL_law_626 (by decide +kernel) ?_
  refine z_iadd (v := nI (i + 2)) dL_law_627 (nI_add i 2) ?_
  refine z_iald (v := ((G.2.2.2.2 0).2 (i + 2))) dL_law_628 (zN rfl) rfl (vp_in_nI (by rw [e3]; omega) (by rw [e3]; omega)) (by rw [hg1, nI_clamp (by omega)]) ?_
  refine z_callV (ci := 9) (r := (RX9, TX9, 38)) (b := 32) (As := [.int ((G.2.2.2.2 0).2 (i + 1)), .int ((G.2.2.2.2 0).2 (i + 2))]) (rest := [.int v]) hs9 dL_law_629 lk_L_85 lv_X9_strangers (Nat.le_of_ble_eq_true rfl) (zN rfl) rfl rfl rfl rfl (by omega) (Nat.le_of_ble_eq_true rfl) (by omega) (by omega) (fun r_ h_ e_ => ?_)
  obtain ⟨e1, e2⟩ := e_
  subst e1
  subst e2
  show zz G (mLw nm) 1000 600000 7302250 Q 632 [some (.ref 0), some (.ref 3), some (.ref 32), some (.int (nI i))] [.int v, .int v] (hh P1 σ2) (ka + mc) (na + ms)
  refine z_icmp_eq (tgt := 782) dL_law_632 (by decide) (fun _ => ?_) (fun c_ => absurd rfl c_)
  exact z_wid (by omega) (by omega) (k P1 A1 σ2 e3 hI2)
theorem tw_flaws {P : zp} {A : gA} {σ : zc_N} (h : Inv P A σ) (a1 : Int32) : two P A σ mX8_flaws mX9_flaws [.int a1] := by
  obtain ⟨p8, p9, e, hJ⟩ := ok_flaws h a1
  refine ⟨20, 20, 0, 0, _, by decide, by decide, by decide, by decide, ctX8_flaws P σ a1 p8, fun r h' q => ⟨P, A, _, _, _, q.1, q.2, rfl, ?_, hJ⟩⟩
  rw [e]
  exact ctX9_flaws P (sX8_flaws P σ a1) a1 p9
set_option maxHeartbeats 1000000 in
theorem lw_flaws {G : zc_G} {nm : String} {Q : Option Value → zc_H → Prop} {P : zp} {A : gA} {σ : zc_N} {i ka na : Nat} (hI : Inv P A σ) (hi : i + 6 ≤ P.1) (hL : P.1 ≤ 3072) (hka : ka + 3 ≤ 600000) (hna : na + 21 ≤ 7302250) (k : ∀ P' A' σ', P'.1 = P.1 → Inv P' A' σ' → zz G (mLw nm) 1000 600000 7302250 Q 782 [some (.ref 0), some (.ref 3), some (.ref 32), some (.int (nI i))] [] (hh P' σ') (ka + 3) (na + 21)) : zz G (mLw nm) 1000 600000 7302250 Q 637 [some (.ref 0), some (.ref 3), some (.ref 32), some (.int (nI i))] [] (hh P σ) ka na := by
  refine z_scr (fun hg => ?_)
  obtain ⟨d8, d9, mc, ms, Q8, hd8, hd9, hmc, hms, hs8, hnext⟩ := tw_flaws hI ((G.2.2.2.2 0).2 (i + 1))
  refine z_aloadr_n dL_law_637 rfl ?_
  refine z_aloadr_n dL_law_638 rfl ?_
  refine z_iload_n dL_law_639 rfl ?_
  refine z_iconst (v := (1 : Int32)) dL_law_640 (by decide +kernel) ?_
  refine z_iadd (v := nI (i + 1)) dL_law_641 (nI_add i 1) ?_
  refine z_iald (v := ((G.2.2.2.2 0).2 (i + 1))) dL_law_642 (zN rfl) rfl (vp_in_nI (by omega) (by omega)) (by rw [hg, nI_clamp (by omega)]) ?_
  refine z_callV (ci := 8) (r := (RX8, TX8, 12)) (b := 3) (As := [.int ((G.2.2.2.2 0).2 (i + 1))]) (rest := []) hs8 dL_law_643 lk_L_86 lv_X8_flaws (Nat.le_of_ble_eq_true rfl) (zN rfl) rfl rfl rfl rfl (by omega) (Nat.le_of_ble_eq_true rfl) (by omega) (by omega) (fun r_ h_ e_ => ?_)
  obtain ⟨P1, A1, σ1, v, σ2, e1, e2, e3, hs9, hI2⟩ := hnext r_ h_ e_
  subst e1
  subst e2
  show zz G (mLw nm) 1000 600000 7302250 Q 646 [some (.ref 0), some (.ref 3), some (.ref 32), some (.int (nI i))] [.int v] (hh P1 σ1) (ka + mc) (na + ms)
  refine z_scr (fun hg1 => ?_)
  refine z_aloadr_n dL_law_646 rfl ?_
  refine z_aloadr_n dL_law_647 rfl ?_
  refine z_iload_n dL_law_648 rfl ?_
  refine z_iconst (v := (1 : Int32)) dL_law_649 (by decide +kernel) ?_
  refine z_iadd (v := nI (i + 1)) dL_law_650 (nI_add i 1) ?_
  refine z_iald (v := ((G.2.2.2.2 0).2 (i + 1))) dL_law_651 (zN rfl) rfl (vp_in_nI (by rw [e3]; omega) (by rw [e3]; omega)) (by rw [hg1, nI_clamp (by omega)]) ?_
  refine z_callV (ci := 9) (r := (RX9, TX9, 38)) (b := 32) (As := [.int ((G.2.2.2.2 0).2 (i + 1))]) (rest := [.int v]) hs9 dL_law_652 lk_L_89 lv_X9_flaws (Nat.le_of_ble_eq_true rfl) (zN rfl) rfl rfl rfl rfl (by omega) (Nat.le_of_ble_eq_true rfl) (by omega) (by omega) (fun r_ h_ e_ => ?_)
  obtain ⟨e1, e2⟩ := e_
  subst e1
  subst e2
  show zz G (mLw nm) 1000 600000 7302250 Q 655 [some (.ref 0), some (.ref 3), some (.ref 32), some (.int (nI i))] [.int v, .int v] (hh P1 σ2) (ka + mc) (na + ms)
  refine z_icmp_eq (tgt := 782) dL_law_655 (by decide) (fun _ => ?_) (fun c_ => absurd rfl c_)
  exact z_wid (by omega) (by omega) (k P1 A1 σ2 e3 hI2)
theorem tw_flaw {P : zp} {A : gA} {σ : zc_N} (h : Inv P A σ) (a1 a2 a3 : Int32) : two P A σ mX8_flaw mX9_flaw [.int a1, .int a2, .int a3] := by
  obtain ⟨p8, p9, e, hJ⟩ := ok_flaw h a1 a2 a3
  refine ⟨20, 20, 0, 0, _, by decide, by decide, by decide, by decide, ctX8_flaw P σ a1 a2 a3 p8, fun r h' q => ⟨P, A, _, _, _, q.1, q.2, rfl, ?_, hJ⟩⟩
  rw [e]
  exact ctX9_flaw P (sX8_flaw P σ a1 a2 a3) a1 a2 a3 p9
set_option maxHeartbeats 1000000 in
theorem lw_flaw {G : zc_G} {nm : String} {Q : Option Value → zc_H → Prop} {P : zp} {A : gA} {σ : zc_N} {i ka na : Nat} (hI : Inv P A σ) (hi : i + 6 ≤ P.1) (hL : P.1 ≤ 3072) (hka : ka + 3 ≤ 600000) (hna : na + 21 ≤ 7302250) (k : ∀ P' A' σ', P'.1 = P.1 → Inv P' A' σ' → zz G (mLw nm) 1000 600000 7302250 Q 782 [some (.ref 0), some (.ref 3), some (.ref 32), some (.int (nI i))] [] (hh P' σ') (ka + 3) (na + 21)) : zz G (mLw nm) 1000 600000 7302250 Q 660 [some (.ref 0), some (.ref 3), some (.ref 32), some (.int (nI i))] [] (hh P σ) ka na := by
  refine z_scr (fun hg => ?_)
  obtain ⟨d8, d9, mc, ms, Q8, hd8, hd9, hmc, hms, hs8, hnext⟩ := tw_flaw hI ((G.2.2.2.2 0).2 (i + 1)) ((G.2.2.2.2 0).2 (i + 2)) ((G.2.2.2.2 0).2 (i + 3))
  refine z_aloadr_n dL_law_660 rfl ?_
  refine z_aloadr_n dL_law_661 rfl ?_
  refine z_iload_n dL_law_662 rfl ?_
  refine z_iconst (v := (1 : Int32)) dL_law_663 (by decide +kernel) ?_
  refine z_iadd (v := nI (i + 1)) dL_law_664 (nI_add i 1) ?_
  refine z_iald (v := ((G.2.2.2.2 0).2 (i + 1))) dL_law_665 (zN rfl) rfl (vp_in_nI (by omega) (by omega)) (by rw [hg, nI_clamp (by omega)]) ?_
  refine z_aloadr_n dL_law_666 rfl ?_
  refine z_iload_n dL_law_667 rfl ?_
  refine z_iconst (v := (2 : Int32)) dL_law_668 (by decide +kernel) ?_
  refine z_iadd (v := nI (i + 2)) dL_law_669 (nI_add i 2) ?_
  refine z_iald (v := ((G.2.2.2.2 0).2 (i + 2))) dL_law_670 (zN rfl) rfl (vp_in_nI (by omega) (by omega)) (by rw [hg, nI_clamp (by omega)]) ?_
  refine z_aloadr_n dL_law_671 rfl ?_
  refine z_iload_n dL_law_672 rfl ?_
  refine z_iconst (v := (3 : Int32)) dL_law_673 (by decide +kernel) ?_
  refine z_iadd (v := nI (i + 3)) dL_law_674 (nI_add i 3) ?_
  refine z_iald (v := ((G.2.2.2.2 0).2 (i + 3))) dL_law_675 (zN rfl) rfl (vp_in_nI (by omega) (by omega)) (by rw [hg, nI_clamp (by omega)]) ?_
  refine z_callV (ci := 8) (r := (RX8, TX8, 12)) (b := 3) (As := [.int ((G.2.2.2.2 0).2 (i + 1)), .int ((G.2.2.2.2 0).2 (i + 2)), .int ((G.2.2.2.2 0).2 (i + 3))]) (rest := []) hs8 dL_law_676 lk_L_90 lv_X8_flaw (Nat.le_of_ble_eq_true rfl) (zN rfl) rfl rfl rfl rfl (by omega) (Nat.le_of_ble_eq_true rfl) (by omega) (by omega) (fun r_ h_ e_ => ?_)
  obtain ⟨P1, A1, σ1, v, σ2, e1, e2, e3, hs9, hI2⟩ := hnext r_ h_ e_
  subst e1
  subst e2
  show zz G (mLw nm) 1000 600000 7302250 Q 679 [some (.ref 0), some (.ref 3), some (.ref 32), some (.int (nI i))] [.int v] (hh P1 σ1) (ka + mc) (na + ms)
  refine z_scr (fun hg1 => ?_)
  refine z_aloadr_n dL_law_679 rfl ?_
  refine z_aloadr_n dL_law_680 rfl ?_
  refine z_iload_n dL_law_681 rfl ?_
  refine z_iconst (v := (1 : Int32)) dL_law_682 (by decide +kernel) ?_
  refine z_iadd (v := nI (i + 1)) dL_law_683 (nI_add i 1) ?_
  refine z_iald (v := ((G.2.2.2.2 0).2 (i + 1))) dL_law_684 (zN rfl) rfl (vp_in_nI (by rw [e3]; omega) (by rw [e3]; omega)) (by rw [hg1, nI_clamp (by omega)]) ?_
  refine z_aloadr_n dL_law_685 rfl ?_
  refine z_iload_n dL_law_686 rfl ?_
  refine z_iconst (v := (2 : Int32)) dL_law_687 (by decide +kernel) ?_
  refine z_iadd (v := nI (i + 2)) dL_law_688 (nI_add i 2) ?_
  refine z_iald (v := ((G.2.2.2.2 0).2 (i + 2))) dL_law_689 (zN rfl) rfl (vp_in_nI (by rw [e3]; omega) (by rw [e3]; omega)) (by rw [hg1, nI_clamp (by omega)]) ?_
  refine z_aloadr_n dL_law_690 rfl ?_
  refine z_iload_n dL_law_691 rfl ?_
  refine z_iconst (v := (3 : Int32)) dL_law_692 (by decide +kernel) ?_
  refine z_iadd (v := nI (i + 3)) dL_law_693 (nI_add i 3) ?_
  refine z_iald (v := ((G.2.2.2.2 0).2 (i + 3))) dL_law_694 (zN rfl) rfl (vp_in_nI (by rw [e3]; omega) (by rw [e3]; omega)) (by rw [hg1, nI_clamp (by omega)]) ?_
  refine z_callV (ci := 9) (r := (RX9, TX9, 38)) (b := 32) (As := [.int ((G.2.2.2.2 0).2 (i + 1)), .int ((G.2.2.2.2 0).2 (i + 2)), .int ((G.2.2.2.2 0).2 (i + 3))]) (rest := [.int v]) hs9 dL_law_695 lk_L_93 lv_X9_flaw (Nat.le_of_ble_eq_true rfl) (zN rfl) rfl rfl rfl rfl (by omega) (Nat.le_of_ble_eq_true rfl) (by omega) (by omega) (fun r_ h_ e_ => ?_)
  obtain ⟨e1, e2⟩ := e_
  subst e1
  subst e2
  show zz G (mLw nm) 1000 600000 7302250 Q 698 [some (.ref 0), some (.ref 3), some (.ref 32), some (.int (nI i))] [.int v, .int v] (hh P1 σ2) (ka + mc) (na + ms)
  refine z_icmp_eq (tgt := 782) dL_law_698 (by decide) (fun _ => ?_) (fun c_ => absurd rfl c_)
  exact z_wid (by omega) (by omega) (k P1 A1 σ2 e3 hI2)
theorem tw_age {P : zp} {A : gA} {σ : zc_N} (h : Inv P A σ) (a1 a2 : Int32) : two P A σ mX8_age mX9_age [.int a1, .int a2] := by
  obtain ⟨p8, p9, e, hJ⟩ := ok_age h a1 a2
  refine ⟨20, 20, 0, 0, _, by decide, by decide, by decide, by decide, ctX8_age P σ a1 a2 p8, fun r h' q => ⟨P, A, _, _, _, q.1, q.2, rfl, ?_, hJ⟩⟩
  rw [e]
  exact ctX9_age P (sX8_age P σ a1 a2) a1 a2 p9
set_option maxHeartbeats 1000000 in
theorem lw_age {G : zc_G} {nm : String} {Q : Option Value → zc_H → Prop} {P : zp} {A : gA} {σ : zc_N} {i ka na : Nat} (hI : Inv P A σ) (hi : i + 6 ≤ P.1) (hL : P.1 ≤ 3072) (hka : ka + 3 ≤ 600000) (hna : na + 21 ≤ 7302250) (k : ∀ P' A' σ', P'.1 = P.1 → Inv P' A' σ' → zz G (mLw nm) 1000 600000 7302250 Q 782 [some (.ref 0), some (.ref 3), some (.ref 32), some (.int (nI i))] [] (hh P' σ') (ka + 3) (na + 21)) : zz G (mLw nm) 1000 600000 7302250 Q 703 [some (.ref 0), some (.ref 3), some (.ref 32), some (.int (nI i))] [] (hh P σ) ka na := by
  refine z_scr (fun hg => ?_)
  obtain ⟨d8, d9, mc, ms, Q8, hd8, hd9, hmc, hms, hs8, hnext⟩ := tw_age hI ((G.2.2.2.2 0).2 (i + 1)) ((G.2.2.2.2 0).2 (i + 2))
  refine z_aloadr_n dL_law_703 rfl ?_
  refine z_aloadr_n dL_law_704 rfl ?_
  refine z_iload_n dL_law_705 rfl ?_
  refine z_iconst (v := (1 : Int32)) dL_law_706 (by decide +kernel) ?_
  refine z_iadd (v := nI (i + 1)) dL_law_707 (nI_add i 1) ?_
  refine z_iald (v := ((G.2.2.2.2 0).2 (i + 1))) dL_law_708 (zN rfl) rfl (vp_in_nI (by omega) (by omega)) (by rw [hg, nI_clamp (by omega)]) ?_
  refine z_aloadr_n dL_law_709 rfl ?_
  refine z_iload_n dL_law_710 rfl ?_
  refine z_iconst (v := (2 : Int32)) dL_law_711 (by decide +kernel) ?_
  refine z_iadd (v := nI (i + 2)) dL_law_712 (nI_add i 2) ?_
  refine z_iald (v := ((G.2.2.2.2 0).2 (i + 2))) dL_law_713 (zN rfl) rfl (vp_in_nI (by omega) (by omega)) (by rw [hg, nI_clamp (by omega)]) ?_
  refine z_callV (ci := 8) (r := (RX8, TX8, 12)) (b := 3) (As := [.int ((G.2.2.2.2 0).2 (i + 1)), .int ((G.2.2.2.2 0).2 (i + 2))]) (rest := []) hs8 dL_law_714 lk_L_94 lv_X8_age (Nat.le_of_ble_eq_true rfl) (zN rfl) rfl rfl rfl rfl (by omega) (Nat.le_of_ble_eq_true rfl) (by omega) (by omega) (fun r_ h_ e_ => ?_)
  obtain ⟨P1, A1, σ1, v, σ2, e1, e2, e3, hs9, hI2⟩ := hnext r_ h_ e_
  subst e1
  subst e2
  show zz G (mLw nm) 1000 600000 7302250 Q 717 [some (.ref 0), some (.ref 3), some (.ref 32), some (.int (nI i))] [.int v] (hh P1 σ1) (ka + mc) (na + ms)
  refine z_scr (fun hg1 => ?_)
  refine z_aloadr_n dL_law_717 rfl ?_
  refine z_aloadr_n dL_law_718 rfl ?_
  refine z_iload_n dL_law_719 rfl ?_
  refine z_iconst (v := (1 : Int32)) dL_law_720 (by decide +kernel) ?_
  refine z_iadd (v := nI (i + 1)) dL_law_721 (nI_add i 1) ?_
  refine z_iald (v := ((G.2.2.2.2 0).2 (i + 1))) dL_law_722 (zN rfl) rfl (vp_in_nI (by rw [e3]; omega) (by rw [e3]; omega)) (by rw [hg1, nI_clamp (by omega)]) ?_
  refine z_aloadr_n dL_law_723 rfl ?_
  refine z_iload_n dL_law_724 rfl ?_
  refine z_iconst (v := (2 : Int32)) dL_law_725 (by decide +kernel) ?_
  refine z_iadd (v := nI (i + 2)) dL_law_726 (nI_add i 2) ?_
  refine z_iald (v := ((G.2.2.2.2 0).2 (i + 2))) dL_law_727 (zN rfl) rfl (vp_in_nI (by rw [e3]; omega) (by rw [e3]; omega)) (by rw [hg1, nI_clamp (by omega)]) ?_
  refine z_callV (ci := 9) (r := (RX9, TX9, 38)) (b := 32) (As := [.int ((G.2.2.2.2 0).2 (i + 1)), .int ((G.2.2.2.2 0).2 (i + 2))]) (rest := [.int v]) hs9 dL_law_728 lk_L_97 lv_X9_age (Nat.le_of_ble_eq_true rfl) (zN rfl) rfl rfl rfl rfl (by omega) (Nat.le_of_ble_eq_true rfl) (by omega) (by omega) (fun r_ h_ e_ => ?_)
  obtain ⟨e1, e2⟩ := e_
  subst e1
  subst e2
  show zz G (mLw nm) 1000 600000 7302250 Q 731 [some (.ref 0), some (.ref 3), some (.ref 32), some (.int (nI i))] [.int v, .int v] (hh P1 σ2) (ka + mc) (na + ms)
  refine z_icmp_eq (tgt := 782) dL_law_731 (by decide) (fun _ => ?_) (fun c_ => absurd rfl c_)
  exact z_wid (by omega) (by omega) (k P1 A1 σ2 e3 hI2)
theorem tw_struck {P : zp} {A : gA} {σ : zc_N} (h : Inv P A σ) (a1 : Int32) : two P A σ mX8_struck mX9_struck [.int a1] := by
  have e := ok_struck h a1
  refine ⟨2, 0, 0, 0, _, by decide, by decide, by decide, by decide, ctX8_struck P σ a1, fun r h' q => ⟨P, A, _, _, _, q.1, q.2, rfl, ?_, h⟩⟩
  rw [e]
  exact ctX9_struck P σ a1
set_option maxHeartbeats 1000000 in
theorem lw_struck {G : zc_G} {nm : String} {Q : Option Value → zc_H → Prop} {P : zp} {A : gA} {σ : zc_N} {i ka na : Nat} (hI : Inv P A σ) (hi : i + 6 ≤ P.1) (hL : P.1 ≤ 3072) (hka : ka + 3 ≤ 600000) (hna : na + 21 ≤ 7302250) (k : ∀ P' A' σ', P'.1 = P.1 → Inv P' A' σ' → zz G (mLw nm) 1000 600000 7302250 Q 782 [some (.ref 0), some (.ref 3), some (.ref 32), some (.int (nI i))] [] (hh P' σ') (ka + 3) (na + 21)) : zz G (mLw nm) 1000 600000 7302250 Q 736 [some (.ref 0), some (.ref 3), some (.ref 32), some (.int (nI i))] [] (hh P σ) ka na := by
  refine z_scr (fun hg => ?_)
  obtain ⟨d8, d9, mc, ms, Q8, hd8, hd9, hmc, hms, hs8, hnext⟩ := tw_struck hI ((G.2.2.2.2 0).2 (i + 1))
  refine z_aloadr_n dL_law_736 rfl ?_
  refine z_aloadr_n dL_law_737 rfl ?_
  refine z_iload_n dL_law_738 rfl ?_
  refine z_iconst (v := (1 : Int32)) dL_law_739 (by decide +kernel) ?_
  refine z_iadd (v := nI (i + 1)) dL_law_740 (nI_add i 1) ?_
  refine z_iald (v := ((G.2.2.2.2 0).2 (i + 1))) dL_law_741 (zN rfl) rfl (vp_in_nI (by omega) (by omega)) (by rw [hg, nI_clamp (by omega)]) ?_
  refine z_callV (ci := 8) (r := (RX8, TX8, 12)) (b := 3) (As := [.int ((G.2.2.2.2 0).2 (i + 1))]) (rest := []) hs8 dL_law_742 lk_L_98 lv_X8_struck (Nat.le_of_ble_eq_true rfl) (zN rfl) rfl rfl rfl rfl (by omega) (Nat.le_of_ble_eq_true rfl) (by omega) (by omega) (fun r_ h_ e_ => ?_)
  obtain ⟨P1, A1, σ1, v, σ2, e1, e2, e3, hs9, hI2⟩ := hnext r_ h_ e_
  subst e1
  subst e2
  show zz G (mLw nm) 1000 600000 7302250 Q 745 [some (.ref 0), some (.ref 3), some (.ref 32), some (.int (nI i))] [.int v] (hh P1 σ1) (ka + mc) (na + ms)
  refine z_scr (fun hg1 => ?_)
  refine z_aloadr_n dL_law_745 rfl ?_
  refine z_aloadr_n dL_law_746 rfl ?_
  refine z_iload_n dL_law_747 rfl ?_
  refine z_iconst (v := (1 : Int32)) dL_law_748 (by decide +kernel) ?_
  refine z_iadd (v := nI (i + 1)) dL_law_749 (nI_add i 1) ?_
  refine z_iald (v := ((G.2.2.2.2 0).2 (i + 1))) dL_law_750 (zN rfl) rfl (vp_in_nI (by rw [e3]; omega) (by rw [e3]; omega)) (by rw [hg1, nI_clamp (by omega)]) ?_
  refine z_callV (ci := 9) (r := (RX9, TX9, 38)) (b := 32) (As := [.int ((G.2.2.2.2 0).2 (i + 1))]) (rest := [.int v]) hs9 dL_law_751 lk_L_101 lv_X9_struck (Nat.le_of_ble_eq_true rfl) (zN rfl) rfl rfl rfl rfl (by omega) (Nat.le_of_ble_eq_true rfl) (by omega) (by omega) (fun r_ h_ e_ => ?_)
  obtain ⟨e1, e2⟩ := e_
  subst e1
  subst e2
  show zz G (mLw nm) 1000 600000 7302250 Q 754 [some (.ref 0), some (.ref 3), some (.ref 32), some (.int (nI i))] [.int v, .int v] (hh P1 σ2) (ka + mc) (na + ms)
  refine z_icmp_eq (tgt := 782) dL_law_754 (by decide) (fun _ => ?_) (fun c_ => absurd rfl c_)
  exact z_wid (by omega) (by omega) (k P1 A1 σ2 e3 hI2)
theorem tw_count {P : zp} {A : gA} {σ : zc_N} (h : Inv P A σ) (a1 : Int32) : two P A σ mX8_count mX9_count [.int a1] := by
  obtain ⟨p8, p9, e, hJ⟩ := ok_count h a1
  refine ⟨3, 3, 0, 0, _, by decide, by decide, by decide, by decide, ctX8_count P σ a1 p8, fun r h' q => ⟨P, A, _, _, _, q.1, q.2, rfl, ?_, hJ⟩⟩
  rw [e]
  exact ctX9_count P (sX8_count σ a1) a1 p9
set_option maxHeartbeats 1000000 in
theorem lw_count {G : zc_G} {nm : String} {Q : Option Value → zc_H → Prop} {P : zp} {A : gA} {σ : zc_N} {i ka na : Nat} (hI : Inv P A σ) (hi : i + 6 ≤ P.1) (hL : P.1 ≤ 3072) (hka : ka + 3 ≤ 600000) (hna : na + 21 ≤ 7302250) (k : ∀ P' A' σ', P'.1 = P.1 → Inv P' A' σ' → zz G (mLw nm) 1000 600000 7302250 Q 782 [some (.ref 0), some (.ref 3), some (.ref 32), some (.int (nI i))] [] (hh P' σ') (ka + 3) (na + 21)) : zz G (mLw nm) 1000 600000 7302250 Q 759 [some (.ref 0), some (.ref 3), some (.ref 32), some (.int (nI i))] [] (hh P σ) ka na := by
  refine z_scr (fun hg => ?_)
  obtain ⟨d8, d9, mc, ms, Q8, hd8, hd9, hmc, hms, hs8, hnext⟩ := tw_count hI ((G.2.2.2.2 0).2 (i + 1))
  refine z_aloadr_n dL_law_759 rfl ?_
  refine z_aloadr_n dL_law_760 rfl ?_
  refine z_iload_n dL_law_761 rfl ?_
  refine z_iconst (v := (1 : Int32)) dL_law_762 (by decide +kernel) ?_
  refine z_iadd (v := nI (i + 1)) dL_law_763 (nI_add i 1) ?_
  refine z_iald (v := ((G.2.2.2.2 0).2 (i + 1))) dL_law_764 (zN rfl) rfl (vp_in_nI (by omega) (by omega)) (by rw [hg, nI_clamp (by omega)]) ?_
  refine z_callV (ci := 8) (r := (RX8, TX8, 12)) (b := 3) (As := [.int ((G.2.2.2.2 0).2 (i + 1))]) (rest := []) hs8 dL_law_765 lk_L_102 lv_X8_count (Nat.le_of_ble_eq_true rfl) (zN rfl) rfl rfl rfl rfl (by omega) (Nat.le_of_ble_eq_true rfl) (by omega) (by omega) (fun r_ h_ e_ => ?_)
  obtain ⟨P1, A1, σ1, v, σ2, e1, e2, e3, hs9, hI2⟩ := hnext r_ h_ e_
  subst e1
  subst e2
  show zz G (mLw nm) 1000 600000 7302250 Q 768 [some (.ref 0), some (.ref 3), some (.ref 32), some (.int (nI i))] [.int v] (hh P1 σ1) (ka + mc) (na + ms)
  refine z_scr (fun hg1 => ?_)
  refine z_aloadr_n dL_law_768 rfl ?_
  refine z_aloadr_n dL_law_769 rfl ?_
  refine z_iload_n dL_law_770 rfl ?_
  refine z_iconst (v := (1 : Int32)) dL_law_771 (by decide +kernel) ?_
  refine z_iadd (v := nI (i + 1)) dL_law_772 (nI_add i 1) ?_
  refine z_iald (v := ((G.2.2.2.2 0).2 (i + 1))) dL_law_773 (zN rfl) rfl (vp_in_nI (by rw [e3]; omega) (by rw [e3]; omega)) (by rw [hg1, nI_clamp (by omega)]) ?_
  refine z_callV (ci := 9) (r := (RX9, TX9, 38)) (b := 32) (As := [.int ((G.2.2.2.2 0).2 (i + 1))]) (rest := [.int v]) hs9 dL_law_774 lk_L_105 lv_X9_count (Nat.le_of_ble_eq_true rfl) (zN rfl) rfl rfl rfl rfl (by omega) (Nat.le_of_ble_eq_true rfl) (by omega) (by omega) (fun r_ h_ e_ => ?_)
  obtain ⟨e1, e2⟩ := e_
  subst e1
  subst e2
  show zz G (mLw nm) 1000 600000 7302250 Q 777 [some (.ref 0), some (.ref 3), some (.ref 32), some (.int (nI i))] [.int v, .int v] (hh P1 σ2) (ka + mc) (na + ms)
  refine z_icmp_eq (tgt := 782) dL_law_777 (by decide) (fun _ => ?_) (fun c_ => absurd rfl c_)
  exact z_wid (by omega) (by omega) (k P1 A1 σ2 e3 hI2)
theorem lw_head {G : zc_G} {nm : String} {Q : Option Value → zc_H → Prop} {t : Nat} {P : zp} {σ : zc_N} (hL : P.1 ≤ 3072) (ht : 6 * t ≤ P.1) (hQ : ∀ h, Q (some (.int 1)) h) (k : 6 * t + 6 ≤ P.1 → zz G (mLw nm) 1000 600000 7302250 Q 27 [some (.ref 0), some (.ref 3), some (.ref 32), some (.int (nI (6 * t)))] [] (hh P σ) (54 + 3 * t) (5629 + 21 * t)) : zz G (mLw nm) 1000 600000 7302250 Q 18 [some (.ref 0), some (.ref 3), some (.ref 32), some (.int (nI (6 * t)))] [] (hh P σ) (54 + 3 * t) (5629 + 21 * t) := by
  refine z_iload_n dL_law_18 rfl ?_
  refine z_aloadr_n dL_law_19 rfl ?_
  refine z_alen0 (v := nI P.1) dL_law_20 (zN rfl) rfl rfl ?_
  refine z_bipush (v := (6 : Int32)) dL_law_21 (by decide +kernel) ?_
  refine z_isub (v := nI P.1 - 6) dL_law_23 rfl ?_
  have e6 : nI P.1 - (6 : Int32) = zI ((P.1 : Int) - 6) := by
    rw [nz (by omega), show (6 : Int32) = zI 6 from rfl, zI_sub]
  refine z_icmp_gt (tgt := 788) dL_law_24 (by decide) (fun c_ => ?_) (fun c_ => ?_)
  · refine z_iconst (v := (1 : Int32)) dL_law_788 (by decide +kernel) ?_
    exact z_ireturn dL_law_789 rfl rfl (by omega) (by omega) (hQ _)
  · refine k ?_
    rw [e6, nz (n := 6 * t) (by omega)] at c_
    have l1 : zI ((P.1 : Int) - 6) < zI ((6 * t : Nat) : Int) ↔ ((P.1 : Int) - 6) < ((6 * t : Nat) : Int) := zlt (by omega) (by omega)
    rw [l1] at c_
    omega

def lwT : List Nat := [136, 169, 192, 205, 228, 251, 284, 307, 370, 403, 426, 449, 492, 515, 548, 581, 604, 637, 660, 703, 736, 759]
set_option maxHeartbeats 4000000 in
theorem lw_loop {G : zc_G} {nm : String} {Q : Option Value → zc_H → Prop} (hQ : ∀ h, Q (some (.int 1)) h) : ∀ (n t : Nat) (P : zp) (A : gA) (σ : zc_N), P.1 ≤ 3072 → 6 * t ≤ P.1 → P.1 ≤ 6 * t + 6 * n → Inv P A σ → zz G (mLw nm) 1000 600000 7302250 Q 18 [some (.ref 0), some (.ref 3), some (.ref 32), some (.int (nI (6 * t)))] [] (hh P σ) (54 + 3 * t) (5629 + 21 * t) := by
  intro n
  induction n with
  | zero =>
    intro t P A σ hL ht hn hI
    exact lw_head hL ht (fun h => hQ h) (fun h => absurd h (by omega))
  | succ n ih =>
    intro t P A σ hL ht hn hI
    refine lw_head hL ht (fun h => hQ h) (fun h6 => ?_)
    have tail : ∀ P' A' σ', P'.1 = P.1 → Inv P' A' σ' → zz G (mLw nm) 1000 600000 7302250 Q 782 [some (.ref 0), some (.ref 3), some (.ref 32), some (.int (nI (6 * t)))] [] (hh P' σ') (54 + 3 * t + 3) (5629 + 21 * t + 21) := fun P' A' σ' e hI' => by
      refine z_iinc (v := nI (6 * (t + 1))) (lv' := [some (.ref 0), some (.ref 3), some (.ref 32), some (.int (nI (6 * (t + 1))))]) dL_law_782 (Nat.le_of_ble_eq_true rfl) rfl (by rw [show 6 * (t + 1) = 6 * t + 6 by omega]; exact (nI_add (6 * t) 6)) rfl ?_
      refine z_goto (tgt := 18) dL_law_785 (by decide) ?_
      have := ih (t + 1) P' A' σ' (by rw [e]; exact hL) (by rw [e]; omega) (by rw [e]; omega) hI'
      rw [show 54 + 3 * (t + 1) = 54 + 3 * t + 3 by omega, show 5629 + 21 * (t + 1) = 5629 + 21 * t + 21 by omega] at this
      exact this
    refine z_aloadr_n dL_law_27 rfl ?_
    refine z_iload_n dL_law_28 rfl ?_
    refine z_iald (v := σ 0 (nI (6 * t)).toNatClampNeg) dL_law_29 (zN rfl) rfl (vp_in_nI (by omega) (by omega)) rfl ?_
    refine z_bipush (v := (31 : Int32)) dL_law_30 (by decide +kernel) ?_
    refine z_iand (v := (σ 0 (nI (6 * t)).toNatClampNeg) &&& (31 : Int32)) dL_law_32 rfl ?_
    refine z_table (td := 782) (ts := lwT) dL_law_33 (by decide) (by decide) (by decide) (fun _ => z_wid (by omega) (by omega) (tail P A σ rfl hI)) (fun i tg hi _ => ?_)
    match i, hi with
    | 0, hi => cases hi; exact lw_feed hI (by omega) hL (by omega) (by omega) tail
    | 1, hi => cases hi; exact lw_row hI (by omega) hL (by omega) (by omega) tail
    | 2, hi => cases hi; exact lw_thin hI (by omega) hL (by omega) (by omega) tail
    | 3, hi => cases hi; exact lw_pieces hI (by omega) hL (by omega) (by omega) tail
    | 4, hi => cases hi; exact lw_print hI (by omega) hL (by omega) (by omega) tail
    | 5, hi => cases hi; exact lw_point hI (by omega) hL (by omega) (by omega) tail
    | 6, hi => cases hi; exact lw_reach hI (by omega) hL (by omega) (by omega) tail
    | 7, hi => cases hi; exact lw_lay hI (by omega) hL (by omega) (by omega) tail
    | 8, hi => cases hi; exact lw_match hI (by omega) hL (by omega) (by omega) tail
    | 9, hi => cases hi; exact lw_told hI (by omega) hL (by omega) (by omega) tail
    | 10, hi => cases hi; exact lw_pair hI (by omega) hL (by omega) (by omega) tail
    | 11, hi => cases hi; exact lw_keep hI (by omega) hL (by omega) (by omega) tail
    | 12, hi => cases hi; exact lw_part hI (by omega) hL (by omega) (by omega) tail
    | 13, hi => cases hi; exact lw_of hI (by omega) hL (by omega) (by omega) tail
    | 14, hi => cases hi; exact lw_melt hI (by omega) hL (by omega) (by omega) tail
    | 15, hi => cases hi; exact lw_like hI (by omega) hL (by omega) (by omega) tail
    | 16, hi => cases hi; exact lw_strangers hI (by omega) hL (by omega) (by omega) tail
    | 17, hi => cases hi; exact lw_flaws hI (by omega) hL (by omega) (by omega) tail
    | 18, hi => cases hi; exact lw_flaw hI (by omega) hL (by omega) (by omega) tail
    | 19, hi => cases hi; exact lw_age hI (by omega) hL (by omega) (by omega) tail
    | 20, hi => cases hi; exact lw_struck hI (by omega) hL (by omega) (by omega) tail
    | 21, hi => cases hi; exact lw_count hI (by omega) hL (by omega) (by omega) tail
    | i + 22, hi => cases hi
