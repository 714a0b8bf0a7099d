/-! THE CLAIM OUT OF ONE WALK OF THE LAW'S BODY. Your part is whole_start (and what it stands on); all else here is the same for every law, but numbers. -/
def R_law : String := "ArcTapeLaw"
def lw_P (b : Addr) (xs : List Int32) (args : Array Value) (s : State) : Prop := args = #[.ref b] ∧ s.IntsAt b xs ∧ xs.length ≤ 2561 ∧ (Jvm.Cond.and given_1 narrow_1).before args s = true
def lw_Q (_ : Array Value) (s : State) (o : Outcome) (t : State) : Prop := o = .returned (some (.int 1)) ∧ Framed s o t [] 600000 7302250
def lw_Z (below : List Frame) (a : Array Value) (s : State) : State → Prop := fun t => ∃ o, t.status = .running ∧ Ended t below o ∧ lw_Q a s o t
/-- the law's own end, with 1 on the stack, nothing written that was there before, its room as the claim has it -/
theorem lw_ret {p : Program} {l : Launch} {e : Env} {s : State} {m : MethodId} {below : List Frame} {meth : Method} {c : Code} {b : Nat} (hx : p.tables.exec = Jvm.exec) (hb : c.code = code) (hr : meth.sig.returnType = ret) (hlocks : meth.locks = false) {pc : Nat} {H : Heap} {ls : Array Slot} (hdg : decode code pc = .ok (.ireturn, 1)) : W p l e room_1 s m #[Value.ref b] below meth c H [] 600000 7302250 (lw_Z below #[Value.ref b] s) (F0 m pc ls [.int 1]) := by
  intro T hT X
  obtain ⟨fs, hret, hrun, hended, hW, hframe⟩ := X.leave (v := some (.int 1)) (hlocks := hlocks) (fun h => by rw [hr] at h; cases h)
  have hmeth' : T.vm.method? m = some meth := X.method'
  refine ⟨T.setFrames fs, ?_, .returned (some (.int 1)), hrun, hended, rfl, ⟨_, rfl⟩, hW, hframe⟩
  jvm_step X.here [X.here.top, hx, hb, hdg, hmeth', hr, ret, narrow_b1]
  (try refine ⟨rfl, ?_⟩); (try refine ⟨rfl, ?_⟩)
  first | (intro acts; rw [hret _ acts rfl rfl rfl]) | rw [hret _ _ rfl rfl rfl]
  exact Steps.refl _
/-- what holds at the law's entry: the machine, the code, the tables' words (any of lw_tbl by 'hts w (by decide +kernel)'), the script of L ints xs at the cell b, what the Statement gives of the start (any of its parts by flat_of_before) -/
def lw_At (p : Program) (s : State) (m : MethodId) (meth : Method) (c : Code) (b L : Nat) (xs : Nat → Int32) : Prop :=
  p.tables.exec = Jvm.exec ∧ c.code = code ∧ meth.sig.returnType = ret ∧ c.maxLocals = 4 ∧ s.vm.findClass R_law = some m.cls ∧ (∀ w ∈ lw_tbl, w.before #[Value.ref b] s = true) ∧ va_X b L xs s s.heap ∧ b < s.heap.size ∧ meth.locks = false ∧ (Jvm.Cond.and given_1 narrow_1).before #[Value.ref b] s = true
theorem d_L_0 : decode code 0 = .ok (.new 7, 3) := by decide +kernel
theorem d_L_3 : decode code 3 = .ok (.dup, 1) := by decide +kernel
theorem d_L_4 : decode code 4 = .ok (.aload_n 0, 1) := by decide +kernel
theorem d_L_5 : decode code 5 = .ok (.iconst 0, 1) := by decide +kernel
theorem d_L_6 : decode code 6 = .ok (.invokestatic 9, 3) := by decide +kernel
theorem d_L_9 : decode code 9 = .ok (.invokespecial 15, 3) := by decide +kernel
theorem d_L_12 : decode code 12 = .ok (.astore_n 1, 1) := by decide +kernel
theorem d_L_13 : decode code 13 = .ok (.new 18, 3) := by decide +kernel
theorem d_L_16 : decode code 16 = .ok (.dup, 1) := by decide +kernel
theorem d_L_17 : decode code 17 = .ok (.aload_n 0, 1) := by decide +kernel
theorem d_L_18 : decode code 18 = .ok (.iconst 0, 1) := by decide +kernel
theorem d_L_19 : decode code 19 = .ok (.invokestatic 9, 3) := by decide +kernel
theorem d_L_22 : decode code 22 = .ok (.invokespecial 20, 3) := by decide +kernel
theorem d_L_25 : decode code 25 = .ok (.astore_n 2, 1) := by decide +kernel
theorem d_L_26 : decode code 26 = .ok (.iconst 1, 1) := by decide +kernel
theorem d_L_27 : decode code 27 = .ok (.istore_n 3, 1) := by decide +kernel
theorem d_L_28 : decode code 28 = .ok (.iload_n 3, 1) := by decide +kernel
theorem d_L_29 : decode code 29 = .ok (.aload_n 0, 1) := by decide +kernel
theorem d_L_30 : decode code 30 = .ok (.arraylength, 1) := by decide +kernel
theorem d_L_31 : decode code 31 = .ok (.iconst 5, 1) := by decide +kernel
theorem d_L_32 : decode code 32 = .ok (.isub, 1) := by decide +kernel
theorem d_L_33 : decode code 33 = .ok (.if_icmp .gt 578, 3) := by decide +kernel
theorem d_L_36 : decode code 36 = .ok (.aload_n 0, 1) := by decide +kernel
theorem d_L_37 : decode code 37 = .ok (.iload_n 3, 1) := by decide +kernel
theorem d_L_38 : decode code 38 = .ok (.iaload, 1) := by decide +kernel
theorem d_L_39 : decode code 39 = .ok (.bipush 31, 2) := by decide +kernel
theorem d_L_41 : decode code 41 = .ok (.iand, 1) := by decide +kernel
theorem d_L_42 : decode code 42 = .ok (.tableswitch 563 0 17 #[86, 119, 152, 205, 228, 251, 274, 297, 330, 353, 366, 389, 422, 455, 478, 502, 526, 549], 86) := by decide +kernel
theorem d_L_128 : decode code 128 = .ok (.aload_n 1, 1) := by decide +kernel
theorem d_L_129 : decode code 129 = .ok (.aload_n 0, 1) := by decide +kernel
theorem d_L_130 : decode code 130 = .ok (.iload_n 3, 1) := by decide +kernel
theorem d_L_131 : decode code 131 = .ok (.iconst 1, 1) := by decide +kernel
theorem d_L_132 : decode code 132 = .ok (.iadd, 1) := by decide +kernel
theorem d_L_133 : decode code 133 = .ok (.iaload, 1) := by decide +kernel
theorem d_L_134 : decode code 134 = .ok (.aload_n 0, 1) := by decide +kernel
theorem d_L_135 : decode code 135 = .ok (.iload_n 3, 1) := by decide +kernel
theorem d_L_136 : decode code 136 = .ok (.iconst 2, 1) := by decide +kernel
theorem d_L_137 : decode code 137 = .ok (.iadd, 1) := by decide +kernel
theorem d_L_138 : decode code 138 = .ok (.iaload, 1) := by decide +kernel
theorem d_L_139 : decode code 139 = .ok (.invokevirtual 21, 3) := by decide +kernel
theorem d_L_142 : decode code 142 = .ok (.aload_n 2, 1) := by decide +kernel
theorem d_L_143 : decode code 143 = .ok (.aload_n 0, 1) := by decide +kernel
theorem d_L_144 : decode code 144 = .ok (.iload_n 3, 1) := by decide +kernel
theorem d_L_145 : decode code 145 = .ok (.iconst 1, 1) := by decide +kernel
theorem d_L_146 : decode code 146 = .ok (.iadd, 1) := by decide +kernel
theorem d_L_147 : decode code 147 = .ok (.iaload, 1) := by decide +kernel
theorem d_L_148 : decode code 148 = .ok (.aload_n 0, 1) := by decide +kernel
theorem d_L_149 : decode code 149 = .ok (.iload_n 3, 1) := by decide +kernel
theorem d_L_150 : decode code 150 = .ok (.iconst 2, 1) := by decide +kernel
theorem d_L_151 : decode code 151 = .ok (.iadd, 1) := by decide +kernel
theorem d_L_152 : decode code 152 = .ok (.iaload, 1) := by decide +kernel
theorem d_L_153 : decode code 153 = .ok (.invokevirtual 25, 3) := by decide +kernel
theorem d_L_156 : decode code 156 = .ok (.if_icmp .eq 449, 3) := by decide +kernel
theorem d_L_159 : decode code 159 = .ok (.iconst 0, 1) := by decide +kernel
theorem d_L_160 : decode code 160 = .ok (.ireturn, 1) := by decide +kernel
theorem d_L_161 : decode code 161 = .ok (.aload_n 1, 1) := by decide +kernel
theorem d_L_162 : decode code 162 = .ok (.aload_n 0, 1) := by decide +kernel
theorem d_L_163 : decode code 163 = .ok (.iload_n 3, 1) := by decide +kernel
theorem d_L_164 : decode code 164 = .ok (.iconst 1, 1) := by decide +kernel
theorem d_L_165 : decode code 165 = .ok (.iadd, 1) := by decide +kernel
theorem d_L_166 : decode code 166 = .ok (.iaload, 1) := by decide +kernel
theorem d_L_167 : decode code 167 = .ok (.aload_n 0, 1) := by decide +kernel
theorem d_L_168 : decode code 168 = .ok (.iload_n 3, 1) := by decide +kernel
theorem d_L_169 : decode code 169 = .ok (.iconst 2, 1) := by decide +kernel
theorem d_L_170 : decode code 170 = .ok (.iadd, 1) := by decide +kernel
theorem d_L_171 : decode code 171 = .ok (.iaload, 1) := by decide +kernel
theorem d_L_172 : decode code 172 = .ok (.invokevirtual 26, 3) := by decide +kernel
theorem d_L_175 : decode code 175 = .ok (.aload_n 2, 1) := by decide +kernel
theorem d_L_176 : decode code 176 = .ok (.aload_n 0, 1) := by decide +kernel
theorem d_L_177 : decode code 177 = .ok (.iload_n 3, 1) := by decide +kernel
theorem d_L_178 : decode code 178 = .ok (.iconst 1, 1) := by decide +kernel
theorem d_L_179 : decode code 179 = .ok (.iadd, 1) := by decide +kernel
theorem d_L_180 : decode code 180 = .ok (.iaload, 1) := by decide +kernel
theorem d_L_181 : decode code 181 = .ok (.aload_n 0, 1) := by decide +kernel
theorem d_L_182 : decode code 182 = .ok (.iload_n 3, 1) := by decide +kernel
theorem d_L_183 : decode code 183 = .ok (.iconst 2, 1) := by decide +kernel
theorem d_L_184 : decode code 184 = .ok (.iadd, 1) := by decide +kernel
theorem d_L_185 : decode code 185 = .ok (.iaload, 1) := by decide +kernel
theorem d_L_186 : decode code 186 = .ok (.invokevirtual 29, 3) := by decide +kernel
theorem d_L_189 : decode code 189 = .ok (.if_icmp .eq 416, 3) := by decide +kernel
theorem d_L_192 : decode code 192 = .ok (.iconst 0, 1) := by decide +kernel
theorem d_L_193 : decode code 193 = .ok (.ireturn, 1) := by decide +kernel
theorem d_L_194 : decode code 194 = .ok (.aload_n 1, 1) := by decide +kernel
theorem d_L_195 : decode code 195 = .ok (.aload_n 0, 1) := by decide +kernel
theorem d_L_196 : decode code 196 = .ok (.iload_n 3, 1) := by decide +kernel
theorem d_L_197 : decode code 197 = .ok (.iconst 1, 1) := by decide +kernel
theorem d_L_198 : decode code 198 = .ok (.iadd, 1) := by decide +kernel
theorem d_L_199 : decode code 199 = .ok (.iaload, 1) := by decide +kernel
theorem d_L_200 : decode code 200 = .ok (.aload_n 0, 1) := by decide +kernel
theorem d_L_201 : decode code 201 = .ok (.iload_n 3, 1) := by decide +kernel
theorem d_L_202 : decode code 202 = .ok (.iconst 2, 1) := by decide +kernel
theorem d_L_203 : decode code 203 = .ok (.iadd, 1) := by decide +kernel
theorem d_L_204 : decode code 204 = .ok (.iaload, 1) := by decide +kernel
theorem d_L_205 : decode code 205 = .ok (.aload_n 0, 1) := by decide +kernel
theorem d_L_206 : decode code 206 = .ok (.iload_n 3, 1) := by decide +kernel
theorem d_L_207 : decode code 207 = .ok (.iconst 3, 1) := by decide +kernel
theorem d_L_208 : decode code 208 = .ok (.iadd, 1) := by decide +kernel
theorem d_L_209 : decode code 209 = .ok (.iaload, 1) := by decide +kernel
theorem d_L_210 : decode code 210 = .ok (.aload_n 0, 1) := by decide +kernel
theorem d_L_211 : decode code 211 = .ok (.iload_n 3, 1) := by decide +kernel
theorem d_L_212 : decode code 212 = .ok (.iconst 4, 1) := by decide +kernel
theorem d_L_213 : decode code 213 = .ok (.iadd, 1) := by decide +kernel
theorem d_L_214 : decode code 214 = .ok (.iaload, 1) := by decide +kernel
theorem d_L_215 : decode code 215 = .ok (.invokevirtual 30, 3) := by decide +kernel
theorem d_L_218 : decode code 218 = .ok (.aload_n 2, 1) := by decide +kernel
theorem d_L_219 : decode code 219 = .ok (.aload_n 0, 1) := by decide +kernel
theorem d_L_220 : decode code 220 = .ok (.iload_n 3, 1) := by decide +kernel
theorem d_L_221 : decode code 221 = .ok (.iconst 1, 1) := by decide +kernel
theorem d_L_222 : decode code 222 = .ok (.iadd, 1) := by decide +kernel
theorem d_L_223 : decode code 223 = .ok (.iaload, 1) := by decide +kernel
theorem d_L_224 : decode code 224 = .ok (.aload_n 0, 1) := by decide +kernel
theorem d_L_225 : decode code 225 = .ok (.iload_n 3, 1) := by decide +kernel
theorem d_L_226 : decode code 226 = .ok (.iconst 2, 1) := by decide +kernel
theorem d_L_227 : decode code 227 = .ok (.iadd, 1) := by decide +kernel
theorem d_L_228 : decode code 228 = .ok (.iaload, 1) := by decide +kernel
theorem d_L_229 : decode code 229 = .ok (.aload_n 0, 1) := by decide +kernel
theorem d_L_230 : decode code 230 = .ok (.iload_n 3, 1) := by decide +kernel
theorem d_L_231 : decode code 231 = .ok (.iconst 3, 1) := by decide +kernel
theorem d_L_232 : decode code 232 = .ok (.iadd, 1) := by decide +kernel
theorem d_L_233 : decode code 233 = .ok (.iaload, 1) := by decide +kernel
theorem d_L_234 : decode code 234 = .ok (.aload_n 0, 1) := by decide +kernel
theorem d_L_235 : decode code 235 = .ok (.iload_n 3, 1) := by decide +kernel
theorem d_L_236 : decode code 236 = .ok (.iconst 4, 1) := by decide +kernel
theorem d_L_237 : decode code 237 = .ok (.iadd, 1) := by decide +kernel
theorem d_L_238 : decode code 238 = .ok (.iaload, 1) := by decide +kernel
theorem d_L_239 : decode code 239 = .ok (.invokevirtual 34, 3) := by decide +kernel
theorem d_L_242 : decode code 242 = .ok (.if_icmp .eq 363, 3) := by decide +kernel
theorem d_L_245 : decode code 245 = .ok (.iconst 0, 1) := by decide +kernel
theorem d_L_246 : decode code 246 = .ok (.ireturn, 1) := by decide +kernel
theorem d_L_247 : decode code 247 = .ok (.aload_n 1, 1) := by decide +kernel
theorem d_L_248 : decode code 248 = .ok (.aload_n 0, 1) := by decide +kernel
theorem d_L_249 : decode code 249 = .ok (.iload_n 3, 1) := by decide +kernel
theorem d_L_250 : decode code 250 = .ok (.iconst 1, 1) := by decide +kernel
theorem d_L_251 : decode code 251 = .ok (.iadd, 1) := by decide +kernel
theorem d_L_252 : decode code 252 = .ok (.iaload, 1) := by decide +kernel
theorem d_L_253 : decode code 253 = .ok (.invokevirtual 35, 3) := by decide +kernel
theorem d_L_256 : decode code 256 = .ok (.aload_n 2, 1) := by decide +kernel
theorem d_L_257 : decode code 257 = .ok (.aload_n 0, 1) := by decide +kernel
theorem d_L_258 : decode code 258 = .ok (.iload_n 3, 1) := by decide +kernel
theorem d_L_259 : decode code 259 = .ok (.iconst 1, 1) := by decide +kernel
theorem d_L_260 : decode code 260 = .ok (.iadd, 1) := by decide +kernel
theorem d_L_261 : decode code 261 = .ok (.iaload, 1) := by decide +kernel
theorem d_L_262 : decode code 262 = .ok (.invokevirtual 39, 3) := by decide +kernel
theorem d_L_265 : decode code 265 = .ok (.if_icmp .eq 340, 3) := by decide +kernel
theorem d_L_268 : decode code 268 = .ok (.iconst 0, 1) := by decide +kernel
theorem d_L_269 : decode code 269 = .ok (.ireturn, 1) := by decide +kernel
theorem d_L_270 : decode code 270 = .ok (.aload_n 1, 1) := by decide +kernel
theorem d_L_271 : decode code 271 = .ok (.aload_n 0, 1) := by decide +kernel
theorem d_L_272 : decode code 272 = .ok (.iload_n 3, 1) := by decide +kernel
theorem d_L_273 : decode code 273 = .ok (.iconst 1, 1) := by decide +kernel
theorem d_L_274 : decode code 274 = .ok (.iadd, 1) := by decide +kernel
theorem d_L_275 : decode code 275 = .ok (.iaload, 1) := by decide +kernel
theorem d_L_276 : decode code 276 = .ok (.invokevirtual 40, 3) := by decide +kernel
theorem d_L_279 : decode code 279 = .ok (.aload_n 2, 1) := by decide +kernel
theorem d_L_280 : decode code 280 = .ok (.aload_n 0, 1) := by decide +kernel
theorem d_L_281 : decode code 281 = .ok (.iload_n 3, 1) := by decide +kernel
theorem d_L_282 : decode code 282 = .ok (.iconst 1, 1) := by decide +kernel
theorem d_L_283 : decode code 283 = .ok (.iadd, 1) := by decide +kernel
theorem d_L_284 : decode code 284 = .ok (.iaload, 1) := by decide +kernel
theorem d_L_285 : decode code 285 = .ok (.invokevirtual 43, 3) := by decide +kernel
theorem d_L_288 : decode code 288 = .ok (.if_icmp .eq 317, 3) := by decide +kernel
theorem d_L_291 : decode code 291 = .ok (.iconst 0, 1) := by decide +kernel
theorem d_L_292 : decode code 292 = .ok (.ireturn, 1) := by decide +kernel
theorem d_L_293 : decode code 293 = .ok (.aload_n 1, 1) := by decide +kernel
theorem d_L_294 : decode code 294 = .ok (.aload_n 0, 1) := by decide +kernel
theorem d_L_295 : decode code 295 = .ok (.iload_n 3, 1) := by decide +kernel
theorem d_L_296 : decode code 296 = .ok (.iconst 1, 1) := by decide +kernel
theorem d_L_297 : decode code 297 = .ok (.iadd, 1) := by decide +kernel
theorem d_L_298 : decode code 298 = .ok (.iaload, 1) := by decide +kernel
theorem d_L_299 : decode code 299 = .ok (.invokevirtual 44, 3) := by decide +kernel
theorem d_L_302 : decode code 302 = .ok (.aload_n 2, 1) := by decide +kernel
theorem d_L_303 : decode code 303 = .ok (.aload_n 0, 1) := by decide +kernel
theorem d_L_304 : decode code 304 = .ok (.iload_n 3, 1) := by decide +kernel
theorem d_L_305 : decode code 305 = .ok (.iconst 1, 1) := by decide +kernel
theorem d_L_306 : decode code 306 = .ok (.iadd, 1) := by decide +kernel
theorem d_L_307 : decode code 307 = .ok (.iaload, 1) := by decide +kernel
theorem d_L_308 : decode code 308 = .ok (.invokevirtual 48, 3) := by decide +kernel
theorem d_L_311 : decode code 311 = .ok (.if_icmp .eq 294, 3) := by decide +kernel
theorem d_L_314 : decode code 314 = .ok (.iconst 0, 1) := by decide +kernel
theorem d_L_315 : decode code 315 = .ok (.ireturn, 1) := by decide +kernel
theorem d_L_316 : decode code 316 = .ok (.aload_n 1, 1) := by decide +kernel
theorem d_L_317 : decode code 317 = .ok (.aload_n 0, 1) := by decide +kernel
theorem d_L_318 : decode code 318 = .ok (.iload_n 3, 1) := by decide +kernel
theorem d_L_319 : decode code 319 = .ok (.iconst 1, 1) := by decide +kernel
theorem d_L_320 : decode code 320 = .ok (.iadd, 1) := by decide +kernel
theorem d_L_321 : decode code 321 = .ok (.iaload, 1) := by decide +kernel
theorem d_L_322 : decode code 322 = .ok (.invokevirtual 49, 3) := by decide +kernel
theorem d_L_325 : decode code 325 = .ok (.aload_n 2, 1) := by decide +kernel
theorem d_L_326 : decode code 326 = .ok (.aload_n 0, 1) := by decide +kernel
theorem d_L_327 : decode code 327 = .ok (.iload_n 3, 1) := by decide +kernel
theorem d_L_328 : decode code 328 = .ok (.iconst 1, 1) := by decide +kernel
theorem d_L_329 : decode code 329 = .ok (.iadd, 1) := by decide +kernel
theorem d_L_330 : decode code 330 = .ok (.iaload, 1) := by decide +kernel
theorem d_L_331 : decode code 331 = .ok (.invokevirtual 52, 3) := by decide +kernel
theorem d_L_334 : decode code 334 = .ok (.if_icmp .eq 271, 3) := by decide +kernel
theorem d_L_337 : decode code 337 = .ok (.iconst 0, 1) := by decide +kernel
theorem d_L_338 : decode code 338 = .ok (.ireturn, 1) := by decide +kernel
theorem d_L_339 : decode code 339 = .ok (.aload_n 1, 1) := by decide +kernel
theorem d_L_340 : decode code 340 = .ok (.aload_n 0, 1) := by decide +kernel
theorem d_L_341 : decode code 341 = .ok (.iload_n 3, 1) := by decide +kernel
theorem d_L_342 : decode code 342 = .ok (.iconst 1, 1) := by decide +kernel
theorem d_L_343 : decode code 343 = .ok (.iadd, 1) := by decide +kernel
theorem d_L_344 : decode code 344 = .ok (.iaload, 1) := by decide +kernel
theorem d_L_345 : decode code 345 = .ok (.aload_n 0, 1) := by decide +kernel
theorem d_L_346 : decode code 346 = .ok (.iload_n 3, 1) := by decide +kernel
theorem d_L_347 : decode code 347 = .ok (.iconst 2, 1) := by decide +kernel
theorem d_L_348 : decode code 348 = .ok (.iadd, 1) := by decide +kernel
theorem d_L_349 : decode code 349 = .ok (.iaload, 1) := by decide +kernel
theorem d_L_350 : decode code 350 = .ok (.invokevirtual 53, 3) := by decide +kernel
theorem d_L_353 : decode code 353 = .ok (.aload_n 2, 1) := by decide +kernel
theorem d_L_354 : decode code 354 = .ok (.aload_n 0, 1) := by decide +kernel
theorem d_L_355 : decode code 355 = .ok (.iload_n 3, 1) := by decide +kernel
theorem d_L_356 : decode code 356 = .ok (.iconst 1, 1) := by decide +kernel
theorem d_L_357 : decode code 357 = .ok (.iadd, 1) := by decide +kernel
theorem d_L_358 : decode code 358 = .ok (.iaload, 1) := by decide +kernel
theorem d_L_359 : decode code 359 = .ok (.aload_n 0, 1) := by decide +kernel
theorem d_L_360 : decode code 360 = .ok (.iload_n 3, 1) := by decide +kernel
theorem d_L_361 : decode code 361 = .ok (.iconst 2, 1) := by decide +kernel
theorem d_L_362 : decode code 362 = .ok (.iadd, 1) := by decide +kernel
theorem d_L_363 : decode code 363 = .ok (.iaload, 1) := by decide +kernel
theorem d_L_364 : decode code 364 = .ok (.invokevirtual 57, 3) := by decide +kernel
theorem d_L_367 : decode code 367 = .ok (.if_icmp .eq 238, 3) := by decide +kernel
theorem d_L_370 : decode code 370 = .ok (.iconst 0, 1) := by decide +kernel
theorem d_L_371 : decode code 371 = .ok (.ireturn, 1) := by decide +kernel
theorem d_L_372 : decode code 372 = .ok (.aload_n 1, 1) := by decide +kernel
theorem d_L_373 : decode code 373 = .ok (.aload_n 0, 1) := by decide +kernel
theorem d_L_374 : decode code 374 = .ok (.iload_n 3, 1) := by decide +kernel
theorem d_L_375 : decode code 375 = .ok (.iconst 1, 1) := by decide +kernel
theorem d_L_376 : decode code 376 = .ok (.iadd, 1) := by decide +kernel
theorem d_L_377 : decode code 377 = .ok (.iaload, 1) := by decide +kernel
theorem d_L_378 : decode code 378 = .ok (.invokevirtual 58, 3) := by decide +kernel
theorem d_L_381 : decode code 381 = .ok (.aload_n 2, 1) := by decide +kernel
theorem d_L_382 : decode code 382 = .ok (.aload_n 0, 1) := by decide +kernel
theorem d_L_383 : decode code 383 = .ok (.iload_n 3, 1) := by decide +kernel
theorem d_L_384 : decode code 384 = .ok (.iconst 1, 1) := by decide +kernel
theorem d_L_385 : decode code 385 = .ok (.iadd, 1) := by decide +kernel
theorem d_L_386 : decode code 386 = .ok (.iaload, 1) := by decide +kernel
theorem d_L_387 : decode code 387 = .ok (.invokevirtual 61, 3) := by decide +kernel
theorem d_L_390 : decode code 390 = .ok (.if_icmp .eq 215, 3) := by decide +kernel
theorem d_L_393 : decode code 393 = .ok (.iconst 0, 1) := by decide +kernel
theorem d_L_394 : decode code 394 = .ok (.ireturn, 1) := by decide +kernel
theorem d_L_395 : decode code 395 = .ok (.aload_n 1, 1) := by decide +kernel
theorem d_L_396 : decode code 396 = .ok (.invokevirtual 62, 3) := by decide +kernel
theorem d_L_399 : decode code 399 = .ok (.aload_n 2, 1) := by decide +kernel
theorem d_L_400 : decode code 400 = .ok (.invokevirtual 66, 3) := by decide +kernel
theorem d_L_403 : decode code 403 = .ok (.if_icmp .eq 202, 3) := by decide +kernel
theorem d_L_406 : decode code 406 = .ok (.iconst 0, 1) := by decide +kernel
theorem d_L_407 : decode code 407 = .ok (.ireturn, 1) := by decide +kernel
theorem d_L_408 : decode code 408 = .ok (.aload_n 1, 1) := by decide +kernel
theorem d_L_409 : decode code 409 = .ok (.aload_n 0, 1) := by decide +kernel
theorem d_L_410 : decode code 410 = .ok (.iload_n 3, 1) := by decide +kernel
theorem d_L_411 : decode code 411 = .ok (.iconst 1, 1) := by decide +kernel
theorem d_L_412 : decode code 412 = .ok (.iadd, 1) := by decide +kernel
theorem d_L_413 : decode code 413 = .ok (.iaload, 1) := by decide +kernel
theorem d_L_414 : decode code 414 = .ok (.invokevirtual 67, 3) := by decide +kernel
theorem d_L_417 : decode code 417 = .ok (.aload_n 2, 1) := by decide +kernel
theorem d_L_418 : decode code 418 = .ok (.aload_n 0, 1) := by decide +kernel
theorem d_L_419 : decode code 419 = .ok (.iload_n 3, 1) := by decide +kernel
theorem d_L_420 : decode code 420 = .ok (.iconst 1, 1) := by decide +kernel
theorem d_L_421 : decode code 421 = .ok (.iadd, 1) := by decide +kernel
theorem d_L_422 : decode code 422 = .ok (.iaload, 1) := by decide +kernel
theorem d_L_423 : decode code 423 = .ok (.invokevirtual 70, 3) := by decide +kernel
theorem d_L_426 : decode code 426 = .ok (.if_icmp .eq 179, 3) := by decide +kernel
theorem d_L_429 : decode code 429 = .ok (.iconst 0, 1) := by decide +kernel
theorem d_L_430 : decode code 430 = .ok (.ireturn, 1) := by decide +kernel
theorem d_L_431 : decode code 431 = .ok (.aload_n 1, 1) := by decide +kernel
theorem d_L_432 : decode code 432 = .ok (.aload_n 0, 1) := by decide +kernel
theorem d_L_433 : decode code 433 = .ok (.iload_n 3, 1) := by decide +kernel
theorem d_L_434 : decode code 434 = .ok (.iconst 1, 1) := by decide +kernel
theorem d_L_435 : decode code 435 = .ok (.iadd, 1) := by decide +kernel
theorem d_L_436 : decode code 436 = .ok (.iaload, 1) := by decide +kernel
theorem d_L_437 : decode code 437 = .ok (.aload_n 0, 1) := by decide +kernel
theorem d_L_438 : decode code 438 = .ok (.iload_n 3, 1) := by decide +kernel
theorem d_L_439 : decode code 439 = .ok (.iconst 2, 1) := by decide +kernel
theorem d_L_440 : decode code 440 = .ok (.iadd, 1) := by decide +kernel
theorem d_L_441 : decode code 441 = .ok (.iaload, 1) := by decide +kernel
theorem d_L_442 : decode code 442 = .ok (.invokevirtual 71, 3) := by decide +kernel
theorem d_L_445 : decode code 445 = .ok (.aload_n 2, 1) := by decide +kernel
theorem d_L_446 : decode code 446 = .ok (.aload_n 0, 1) := by decide +kernel
theorem d_L_447 : decode code 447 = .ok (.iload_n 3, 1) := by decide +kernel
theorem d_L_448 : decode code 448 = .ok (.iconst 1, 1) := by decide +kernel
theorem d_L_449 : decode code 449 = .ok (.iadd, 1) := by decide +kernel
theorem d_L_450 : decode code 450 = .ok (.iaload, 1) := by decide +kernel
theorem d_L_451 : decode code 451 = .ok (.aload_n 0, 1) := by decide +kernel
theorem d_L_452 : decode code 452 = .ok (.iload_n 3, 1) := by decide +kernel
theorem d_L_453 : decode code 453 = .ok (.iconst 2, 1) := by decide +kernel
theorem d_L_454 : decode code 454 = .ok (.iadd, 1) := by decide +kernel
theorem d_L_455 : decode code 455 = .ok (.iaload, 1) := by decide +kernel
theorem d_L_456 : decode code 456 = .ok (.invokevirtual 74, 3) := by decide +kernel
theorem d_L_459 : decode code 459 = .ok (.if_icmp .eq 146, 3) := by decide +kernel
theorem d_L_462 : decode code 462 = .ok (.iconst 0, 1) := by decide +kernel
theorem d_L_463 : decode code 463 = .ok (.ireturn, 1) := by decide +kernel
theorem d_L_464 : decode code 464 = .ok (.aload_n 1, 1) := by decide +kernel
theorem d_L_465 : decode code 465 = .ok (.aload_n 0, 1) := by decide +kernel
theorem d_L_466 : decode code 466 = .ok (.iload_n 3, 1) := by decide +kernel
theorem d_L_467 : decode code 467 = .ok (.iconst 1, 1) := by decide +kernel
theorem d_L_468 : decode code 468 = .ok (.iadd, 1) := by decide +kernel
theorem d_L_469 : decode code 469 = .ok (.iaload, 1) := by decide +kernel
theorem d_L_470 : decode code 470 = .ok (.aload_n 0, 1) := by decide +kernel
theorem d_L_471 : decode code 471 = .ok (.iload_n 3, 1) := by decide +kernel
theorem d_L_472 : decode code 472 = .ok (.iconst 2, 1) := by decide +kernel
theorem d_L_473 : decode code 473 = .ok (.iadd, 1) := by decide +kernel
theorem d_L_474 : decode code 474 = .ok (.iaload, 1) := by decide +kernel
theorem d_L_475 : decode code 475 = .ok (.invokevirtual 75, 3) := by decide +kernel
theorem d_L_478 : decode code 478 = .ok (.aload_n 2, 1) := by decide +kernel
theorem d_L_479 : decode code 479 = .ok (.aload_n 0, 1) := by decide +kernel
theorem d_L_480 : decode code 480 = .ok (.iload_n 3, 1) := by decide +kernel
theorem d_L_481 : decode code 481 = .ok (.iconst 1, 1) := by decide +kernel
theorem d_L_482 : decode code 482 = .ok (.iadd, 1) := by decide +kernel
theorem d_L_483 : decode code 483 = .ok (.iaload, 1) := by decide +kernel
theorem d_L_484 : decode code 484 = .ok (.aload_n 0, 1) := by decide +kernel
theorem d_L_485 : decode code 485 = .ok (.iload_n 3, 1) := by decide +kernel
theorem d_L_486 : decode code 486 = .ok (.iconst 2, 1) := by decide +kernel
theorem d_L_487 : decode code 487 = .ok (.iadd, 1) := by decide +kernel
theorem d_L_488 : decode code 488 = .ok (.iaload, 1) := by decide +kernel
theorem d_L_489 : decode code 489 = .ok (.invokevirtual 78, 3) := by decide +kernel
theorem d_L_492 : decode code 492 = .ok (.if_icmp .eq 113, 3) := by decide +kernel
theorem d_L_495 : decode code 495 = .ok (.iconst 0, 1) := by decide +kernel
theorem d_L_496 : decode code 496 = .ok (.ireturn, 1) := by decide +kernel
theorem d_L_497 : decode code 497 = .ok (.aload_n 1, 1) := by decide +kernel
theorem d_L_498 : decode code 498 = .ok (.aload_n 0, 1) := by decide +kernel
theorem d_L_499 : decode code 499 = .ok (.iload_n 3, 1) := by decide +kernel
theorem d_L_500 : decode code 500 = .ok (.iconst 1, 1) := by decide +kernel
theorem d_L_501 : decode code 501 = .ok (.iadd, 1) := by decide +kernel
theorem d_L_502 : decode code 502 = .ok (.iaload, 1) := by decide +kernel
theorem d_L_503 : decode code 503 = .ok (.invokevirtual 79, 3) := by decide +kernel
theorem d_L_506 : decode code 506 = .ok (.aload_n 2, 1) := by decide +kernel
theorem d_L_507 : decode code 507 = .ok (.aload_n 0, 1) := by decide +kernel
theorem d_L_508 : decode code 508 = .ok (.iload_n 3, 1) := by decide +kernel
theorem d_L_509 : decode code 509 = .ok (.iconst 1, 1) := by decide +kernel
theorem d_L_510 : decode code 510 = .ok (.iadd, 1) := by decide +kernel
theorem d_L_511 : decode code 511 = .ok (.iaload, 1) := by decide +kernel
theorem d_L_512 : decode code 512 = .ok (.invokevirtual 82, 3) := by decide +kernel
theorem d_L_515 : decode code 515 = .ok (.if_icmp .eq 90, 3) := by decide +kernel
theorem d_L_518 : decode code 518 = .ok (.iconst 0, 1) := by decide +kernel
theorem d_L_519 : decode code 519 = .ok (.ireturn, 1) := by decide +kernel
theorem d_L_520 : decode code 520 = .ok (.aload_n 1, 1) := by decide +kernel
theorem d_L_521 : decode code 521 = .ok (.aload_n 0, 1) := by decide +kernel
theorem d_L_522 : decode code 522 = .ok (.iload_n 3, 1) := by decide +kernel
theorem d_L_523 : decode code 523 = .ok (.iconst 1, 1) := by decide +kernel
theorem d_L_524 : decode code 524 = .ok (.iadd, 1) := by decide +kernel
theorem d_L_525 : decode code 525 = .ok (.iaload, 1) := by decide +kernel
theorem d_L_526 : decode code 526 = .ok (.invokevirtual 83, 3) := by decide +kernel
theorem d_L_529 : decode code 529 = .ok (.aload_n 2, 1) := by decide +kernel
theorem d_L_530 : decode code 530 = .ok (.aload_n 0, 1) := by decide +kernel
theorem d_L_531 : decode code 531 = .ok (.iload_n 3, 1) := by decide +kernel
theorem d_L_532 : decode code 532 = .ok (.iconst 1, 1) := by decide +kernel
theorem d_L_533 : decode code 533 = .ok (.iadd, 1) := by decide +kernel
theorem d_L_534 : decode code 534 = .ok (.iaload, 1) := by decide +kernel
theorem d_L_535 : decode code 535 = .ok (.invokevirtual 87, 3) := by decide +kernel
theorem d_L_538 : decode code 538 = .ok (.lcmp, 1) := by decide +kernel
theorem d_L_539 : decode code 539 = .ok (.ifCond .eq 66, 3) := by decide +kernel
theorem d_L_542 : decode code 542 = .ok (.iconst 0, 1) := by decide +kernel
theorem d_L_543 : decode code 543 = .ok (.ireturn, 1) := by decide +kernel
theorem d_L_544 : decode code 544 = .ok (.aload_n 1, 1) := by decide +kernel
theorem d_L_545 : decode code 545 = .ok (.aload_n 0, 1) := by decide +kernel
theorem d_L_546 : decode code 546 = .ok (.iload_n 3, 1) := by decide +kernel
theorem d_L_547 : decode code 547 = .ok (.iconst 1, 1) := by decide +kernel
theorem d_L_548 : decode code 548 = .ok (.iadd, 1) := by decide +kernel
theorem d_L_549 : decode code 549 = .ok (.iaload, 1) := by decide +kernel
theorem d_L_550 : decode code 550 = .ok (.invokevirtual 88, 3) := by decide +kernel
theorem d_L_553 : decode code 553 = .ok (.aload_n 2, 1) := by decide +kernel
theorem d_L_554 : decode code 554 = .ok (.aload_n 0, 1) := by decide +kernel
theorem d_L_555 : decode code 555 = .ok (.iload_n 3, 1) := by decide +kernel
theorem d_L_556 : decode code 556 = .ok (.iconst 1, 1) := by decide +kernel
theorem d_L_557 : decode code 557 = .ok (.iadd, 1) := by decide +kernel
theorem d_L_558 : decode code 558 = .ok (.iaload, 1) := by decide +kernel
theorem d_L_559 : decode code 559 = .ok (.invokevirtual 91, 3) := by decide +kernel
theorem d_L_562 : decode code 562 = .ok (.lcmp, 1) := by decide +kernel
theorem d_L_563 : decode code 563 = .ok (.ifCond .eq 42, 3) := by decide +kernel
theorem d_L_566 : decode code 566 = .ok (.iconst 0, 1) := by decide +kernel
theorem d_L_567 : decode code 567 = .ok (.ireturn, 1) := by decide +kernel
theorem d_L_568 : decode code 568 = .ok (.aload_n 1, 1) := by decide +kernel
theorem d_L_569 : decode code 569 = .ok (.aload_n 0, 1) := by decide +kernel
theorem d_L_570 : decode code 570 = .ok (.iload_n 3, 1) := by decide +kernel
theorem d_L_571 : decode code 571 = .ok (.iconst 1, 1) := by decide +kernel
theorem d_L_572 : decode code 572 = .ok (.iadd, 1) := by decide +kernel
theorem d_L_573 : decode code 573 = .ok (.iaload, 1) := by decide +kernel
theorem d_L_574 : decode code 574 = .ok (.invokevirtual 92, 3) := by decide +kernel
theorem d_L_577 : decode code 577 = .ok (.aload_n 2, 1) := by decide +kernel
theorem d_L_578 : decode code 578 = .ok (.aload_n 0, 1) := by decide +kernel
theorem d_L_579 : decode code 579 = .ok (.iload_n 3, 1) := by decide +kernel
theorem d_L_580 : decode code 580 = .ok (.iconst 1, 1) := by decide +kernel
theorem d_L_581 : decode code 581 = .ok (.iadd, 1) := by decide +kernel
theorem d_L_582 : decode code 582 = .ok (.iaload, 1) := by decide +kernel
theorem d_L_583 : decode code 583 = .ok (.invokevirtual 95, 3) := by decide +kernel
theorem d_L_586 : decode code 586 = .ok (.if_icmp .eq 19, 3) := by decide +kernel
theorem d_L_589 : decode code 589 = .ok (.iconst 0, 1) := by decide +kernel
theorem d_L_590 : decode code 590 = .ok (.ireturn, 1) := by decide +kernel
theorem d_L_591 : decode code 591 = .ok (.aload_n 1, 1) := by decide +kernel
theorem d_L_592 : decode code 592 = .ok (.invokevirtual 96, 3) := by decide +kernel
theorem d_L_595 : decode code 595 = .ok (.aload_n 2, 1) := by decide +kernel
theorem d_L_596 : decode code 596 = .ok (.invokevirtual 100, 3) := by decide +kernel
theorem d_L_599 : decode code 599 = .ok (.lcmp, 1) := by decide +kernel
theorem d_L_600 : decode code 600 = .ok (.ifCond .eq 5, 3) := by decide +kernel
theorem d_L_603 : decode code 603 = .ok (.iconst 0, 1) := by decide +kernel
theorem d_L_604 : decode code 604 = .ok (.ireturn, 1) := by decide +kernel
theorem d_L_605 : decode code 605 = .ok (.iinc 3 5, 3) := by decide +kernel
theorem d_L_608 : decode code 608 = .ok (.goto (-580), 3) := by decide +kernel
theorem d_L_611 : decode code 611 = .ok (.iconst 1, 1) := by decide +kernel
theorem d_L_612 : decode code 612 = .ok (.ireturn, 1) := by decide +kernel
theorem d_cell_0 : decode method_2_code 0 = .ok (.iload_n 1, 1) := by decide +kernel
theorem d_cell_1 : decode method_2_code 1 = .ok (.aload_n 0, 1) := by decide +kernel
theorem d_cell_2 : decode method_2_code 2 = .ok (.arraylength, 1) := by decide +kernel
theorem d_cell_3 : decode method_2_code 3 = .ok (.if_icmp .ge 9, 3) := by decide +kernel
theorem d_cell_6 : decode method_2_code 6 = .ok (.aload_n 0, 1) := by decide +kernel
theorem d_cell_7 : decode method_2_code 7 = .ok (.iload_n 1, 1) := by decide +kernel
theorem d_cell_8 : decode method_2_code 8 = .ok (.iaload, 1) := by decide +kernel
theorem d_cell_9 : decode method_2_code 9 = .ok (.goto 4, 3) := by decide +kernel
theorem d_cell_12 : decode method_2_code 12 = .ok (.iconst 0, 1) := by decide +kernel
theorem d_cell_13 : decode method_2_code 13 = .ok (.ireturn, 1) := by decide +kernel
