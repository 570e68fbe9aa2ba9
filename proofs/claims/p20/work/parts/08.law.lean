/-! THE CLAIM OUT OF ONE WALK OF THE LAW'S BODY. Your part is whole_start (and what it stands on); all else here is the same for every law, but numbers. -/
def R_law : String := "PigeonPostLaw"
def lw_P (b : Addr) (xs : List Int32) (args : Array Value) (s : State) : Prop := args = #[.ref b] ∧ s.IntsAt b xs ∧ xs.length ≤ 3072 ∧ (Jvm.Cond.and given_1 narrow_1).before args s = true
def lw_Q (_ : Array Value) (s : State) (o : Outcome) (t : State) : Prop := o = .returned (some (.int 1)) ∧ Framed s o t [] 600000 7302250
def lw_Z (below : List Frame) (a : Array Value) (s : State) : State → Prop := fun t => ∃ o, t.status = .running ∧ Ended t below o ∧ lw_Q a s o t
/-- the law's own end, with 1 on the stack, nothing written that was there before, its room as the claim has it -/
theorem lw_ret {p : Program} {l : Launch} {e : Env} {s : State} {m : MethodId} {below : List Frame} {meth : Method} {c : Code} {b : Nat} (hx : p.tables.exec = Jvm.exec) (hb : c.code = code) (hr : meth.sig.returnType = ret) (hlocks : meth.locks = false) {pc : Nat} {H : Heap} {ls : Array Slot} (hdg : decode code pc = .ok (.ireturn, 1)) : W p l e room_1 s m #[Value.ref b] below meth c H [] 600000 7302250 (lw_Z below #[Value.ref b] s) (F0 m pc ls [.int 1]) := by
  intro T hT X
  obtain ⟨fs, hret, hrun, hended, hW, hframe⟩ := X.leave (v := some (.int 1)) (hlocks := hlocks) (fun h => by rw [hr] at h; cases h)
  have hmeth' : T.vm.method? m = some meth := X.method'
  refine ⟨T.setFrames fs, ?_, .returned (some (.int 1)), hrun, hended, rfl, ⟨_, rfl⟩, hW, hframe⟩
  jvm_step X.here [X.here.top, hx, hb, hdg, hmeth', hr, ret, narrow_b1]
  (try refine ⟨rfl, ?_⟩); (try refine ⟨rfl, ?_⟩)
  first | (intro acts; rw [hret _ acts rfl rfl rfl]) | rw [hret _ _ rfl rfl rfl]
  exact Steps.refl _
/-- what holds at the law's entry: the machine, the code, the tables' words (any of lw_tbl by 'hts w (by decide +kernel)'), the script of L ints xs at the cell b, what the Statement gives of the start (any of its parts by flat_of_before) -/
def lw_At (p : Program) (s : State) (m : MethodId) (meth : Method) (c : Code) (b L : Nat) (xs : Nat → Int32) : Prop :=
  p.tables.exec = Jvm.exec ∧ c.code = code ∧ meth.sig.returnType = ret ∧ c.maxLocals = 4 ∧ s.vm.findClass R_law = some m.cls ∧ (∀ w ∈ lw_tbl, w.before #[Value.ref b] s = true) ∧ va_X b L xs s s.heap ∧ b < s.heap.size ∧ meth.locks = false ∧ (Jvm.Cond.and given_1 narrow_1).before #[Value.ref b] s = true
/-- what the law's walk stands on, beside zC: the script, the room, how it ends -/
def zSc (X : zX) (b L : Nat) (xs : Nat → Int32) : Prop := match X with
  | (p, l, e, R, s, m, args, below, meth, c, (nc, ns), Qf, A, E, nL) => va_X b L xs s s.heap ∧ b < s.heap.size ∧ R = room_1 ∧ args = #[Value.ref b] ∧ Qf = lw_Z below #[Value.ref b] s ∧ A = (fun q : Nat => s.heap.size ≤ q) ∧ meth.sig.returnType = ret ∧ meth.locks = false ∧ nc ≤ 600000 ∧ ns ≤ 7302250
section ZLAW
variable {X : zX} {cc : ByteArray} {own : String} {nL d pc b L : Nat} {xs : Nat → Int32} {lv : List (Nat × Value)} {st : List Value} {σ : zS}
theorem z_sld (C : zC X cc own nL d) (S : zSc X b L xs) {i : Int32} (hin : vp_in i L) (hd : decode cc pc = .ok (.iaload, 1)) (K : zV X (pc + 1) lv (.int (xs i.toNatClampNeg) :: st) σ) : zV X pc lv (.int i :: .ref b :: st) σ := by
  obtain ⟨p, l, e, R, s, m, args, below, meth, c, ⟨nc, ns⟩, Qf, A, E, nX⟩ := X
  obtain ⟨hx, hb, ⟨hnX, hml⟩, hown, hts, hK, hD, hN, ⟨hc, hs⟩, hf, hlo⟩ := C
  obtain ⟨hX, hbl, hR, ha, hQ, hA, hr, hlk, h1, h2⟩ := S
  subst hA
  exact fun H locs ls hP hS hL => va_sld hx hb hX hbl (Nat.not_le.mpr hbl) hS hin hd (K H locs ls hP hS hL)
theorem z_slen (C : zC X cc own nL d) (S : zSc X b L xs) (hd : decode cc pc = .ok (.arraylength, 1)) (K : zV X (pc + 1) lv (.int (nI L) :: st) σ) : zV X pc lv (.ref b :: st) σ := by
  obtain ⟨p, l, e, R, s, m, args, below, meth, c, ⟨nc, ns⟩, Qf, A, E, nX⟩ := X
  obtain ⟨hx, hb, ⟨hnX, hml⟩, hown, hts, hK, hD, hN, ⟨hc, hs⟩, hf, hlo⟩ := C
  obtain ⟨hX, hbl, hR, ha, hQ, hA, hr, hlk, h1, h2⟩ := S
  subst hA
  exact fun H locs ls hP hS hL => va_slen hx hb hX hbl (Nat.not_le.mpr hbl) hS hd (K H locs ls hP hS hL)
theorem lw_zret (C : zC X code own nL d) (S : zSc X b L xs) {v : Int32} (hd : decode code pc = .ok (.ireturn, 1)) (hv : v = 1) : zV X pc lv [.int v] σ := by
  subst hv
  obtain ⟨p, l, e, R, s, m, args, below, meth, c, ⟨nc, ns⟩, Qf, A, E, nX⟩ := X
  obtain ⟨hx, hb, ⟨hnX, hml⟩, hown, hts, hK, hD, hN, ⟨hc, hs⟩, hf, hlo⟩ := C
  obtain ⟨hX, hbl, rfl, rfl, rfl, hA, hr, hlk, h1, h2⟩ := S
  subst hA
  intro H locs ls hP hS hL
  refine va_forget hS.2.2 ?_
  refine W.widen (k := 600000) (n := 7302250) h1 h2 ?_
  exact lw_ret hx hb hr hlk hd
end ZLAW
theorem dL_law_0 : decode cL_law 0 = .ok (.new 7, 3) := by decide +kernel
theorem dL_law_3 : decode cL_law 3 = .ok (.dup, 1) := by decide +kernel
theorem dL_law_4 : decode cL_law 4 = .ok (.invokespecial 9, 3) := by decide +kernel
theorem dL_law_7 : decode cL_law 7 = .ok (.astore_n 1, 1) := by decide +kernel
theorem dL_law_8 : decode cL_law 8 = .ok (.new 10, 3) := by decide +kernel
theorem dL_law_11 : decode cL_law 11 = .ok (.dup, 1) := by decide +kernel
theorem dL_law_12 : decode cL_law 12 = .ok (.invokespecial 12, 3) := by decide +kernel
theorem dL_law_15 : decode cL_law 15 = .ok (.astore_n 2, 1) := by decide +kernel
theorem dL_law_16 : decode cL_law 16 = .ok (.iconst 0, 1) := by decide +kernel
theorem dL_law_17 : decode cL_law 17 = .ok (.istore_n 3, 1) := by decide +kernel
theorem dL_law_18 : decode cL_law 18 = .ok (.iload_n 3, 1) := by decide +kernel
theorem dL_law_19 : decode cL_law 19 = .ok (.aload_n 0, 1) := by decide +kernel
theorem dL_law_20 : decode cL_law 20 = .ok (.arraylength, 1) := by decide +kernel
theorem dL_law_21 : decode cL_law 21 = .ok (.bipush 6, 2) := by decide +kernel
theorem dL_law_23 : decode cL_law 23 = .ok (.isub, 1) := by decide +kernel
theorem dL_law_24 : decode cL_law 24 = .ok (.if_icmp .gt 1381, 3) := by decide +kernel
theorem dL_law_27 : decode cL_law 27 = .ok (.aload_n 0, 1) := by decide +kernel
theorem dL_law_28 : decode cL_law 28 = .ok (.iload_n 3, 1) := by decide +kernel
theorem dL_law_29 : decode cL_law 29 = .ok (.iaload, 1) := by decide +kernel
theorem dL_law_30 : decode cL_law 30 = .ok (.bipush 63, 2) := by decide +kernel
theorem dL_law_32 : decode cL_law 32 = .ok (.iand, 1) := by decide +kernel
theorem dL_law_33 : decode cL_law 33 = .ok (.tableswitch 1366 0 32 #[147, 160, 173, 186, 229, 302, 335, 398, 411, 464, 507, 530, 563, 596, 629, 672, 725, 778, 811, 864, 897, 920, 953, 976, 999, 1052, 1095, 1148, 1181, 1214, 1257, 1290, 1333], 147) := by decide +kernel
theorem dL_law_180 : decode cL_law 180 = .ok (.aload_n 1, 1) := by decide +kernel
theorem dL_law_181 : decode cL_law 181 = .ok (.invokevirtual 13, 3) := by decide +kernel
theorem dL_law_184 : decode cL_law 184 = .ok (.pop, 1) := by decide +kernel
theorem dL_law_185 : decode cL_law 185 = .ok (.aload_n 2, 1) := by decide +kernel
theorem dL_law_186 : decode cL_law 186 = .ok (.invokevirtual 17, 3) := by decide +kernel
theorem dL_law_189 : decode cL_law 189 = .ok (.pop, 1) := by decide +kernel
theorem dL_law_190 : decode cL_law 190 = .ok (.goto 1209, 3) := by decide +kernel
theorem dL_law_193 : decode cL_law 193 = .ok (.aload_n 1, 1) := by decide +kernel
theorem dL_law_194 : decode cL_law 194 = .ok (.invokevirtual 18, 3) := by decide +kernel
theorem dL_law_197 : decode cL_law 197 = .ok (.pop2, 1) := by decide +kernel
theorem dL_law_198 : decode cL_law 198 = .ok (.aload_n 2, 1) := by decide +kernel
theorem dL_law_199 : decode cL_law 199 = .ok (.invokevirtual 22, 3) := by decide +kernel
theorem dL_law_202 : decode cL_law 202 = .ok (.pop2, 1) := by decide +kernel
theorem dL_law_203 : decode cL_law 203 = .ok (.goto 1196, 3) := by decide +kernel
theorem dL_law_206 : decode cL_law 206 = .ok (.aload_n 1, 1) := by decide +kernel
theorem dL_law_207 : decode cL_law 207 = .ok (.invokevirtual 23, 3) := by decide +kernel
theorem dL_law_210 : decode cL_law 210 = .ok (.pop2, 1) := by decide +kernel
theorem dL_law_211 : decode cL_law 211 = .ok (.aload_n 2, 1) := by decide +kernel
theorem dL_law_212 : decode cL_law 212 = .ok (.invokevirtual 26, 3) := by decide +kernel
theorem dL_law_215 : decode cL_law 215 = .ok (.pop2, 1) := by decide +kernel
theorem dL_law_216 : decode cL_law 216 = .ok (.goto 1183, 3) := by decide +kernel
theorem dL_law_219 : decode cL_law 219 = .ok (.aload_n 1, 1) := by decide +kernel
theorem dL_law_220 : decode cL_law 220 = .ok (.aload_n 0, 1) := by decide +kernel
theorem dL_law_221 : decode cL_law 221 = .ok (.iload_n 3, 1) := by decide +kernel
theorem dL_law_222 : decode cL_law 222 = .ok (.iconst 1, 1) := by decide +kernel
theorem dL_law_223 : decode cL_law 223 = .ok (.iadd, 1) := by decide +kernel
theorem dL_law_224 : decode cL_law 224 = .ok (.iaload, 1) := by decide +kernel
theorem dL_law_225 : decode cL_law 225 = .ok (.aload_n 0, 1) := by decide +kernel
theorem dL_law_226 : decode cL_law 226 = .ok (.iload_n 3, 1) := by decide +kernel
theorem dL_law_227 : decode cL_law 227 = .ok (.iconst 2, 1) := by decide +kernel
theorem dL_law_228 : decode cL_law 228 = .ok (.iadd, 1) := by decide +kernel
theorem dL_law_229 : decode cL_law 229 = .ok (.iaload, 1) := by decide +kernel
theorem dL_law_230 : decode cL_law 230 = .ok (.aload_n 0, 1) := by decide +kernel
theorem dL_law_231 : decode cL_law 231 = .ok (.iload_n 3, 1) := by decide +kernel
theorem dL_law_232 : decode cL_law 232 = .ok (.iconst 3, 1) := by decide +kernel
theorem dL_law_233 : decode cL_law 233 = .ok (.iadd, 1) := by decide +kernel
theorem dL_law_234 : decode cL_law 234 = .ok (.iaload, 1) := by decide +kernel
theorem dL_law_235 : decode cL_law 235 = .ok (.invokevirtual 27, 3) := by decide +kernel
theorem dL_law_238 : decode cL_law 238 = .ok (.pop, 1) := by decide +kernel
theorem dL_law_239 : decode cL_law 239 = .ok (.aload_n 2, 1) := by decide +kernel
theorem dL_law_240 : decode cL_law 240 = .ok (.aload_n 0, 1) := by decide +kernel
theorem dL_law_241 : decode cL_law 241 = .ok (.iload_n 3, 1) := by decide +kernel
theorem dL_law_242 : decode cL_law 242 = .ok (.iconst 1, 1) := by decide +kernel
theorem dL_law_243 : decode cL_law 243 = .ok (.iadd, 1) := by decide +kernel
theorem dL_law_244 : decode cL_law 244 = .ok (.iaload, 1) := by decide +kernel
theorem dL_law_245 : decode cL_law 245 = .ok (.aload_n 0, 1) := by decide +kernel
theorem dL_law_246 : decode cL_law 246 = .ok (.iload_n 3, 1) := by decide +kernel
theorem dL_law_247 : decode cL_law 247 = .ok (.iconst 2, 1) := by decide +kernel
theorem dL_law_248 : decode cL_law 248 = .ok (.iadd, 1) := by decide +kernel
theorem dL_law_249 : decode cL_law 249 = .ok (.iaload, 1) := by decide +kernel
theorem dL_law_250 : decode cL_law 250 = .ok (.aload_n 0, 1) := by decide +kernel
theorem dL_law_251 : decode cL_law 251 = .ok (.iload_n 3, 1) := by decide +kernel
theorem dL_law_252 : decode cL_law 252 = .ok (.iconst 3, 1) := by decide +kernel
theorem dL_law_253 : decode cL_law 253 = .ok (.iadd, 1) := by decide +kernel
theorem dL_law_254 : decode cL_law 254 = .ok (.iaload, 1) := by decide +kernel
theorem dL_law_255 : decode cL_law 255 = .ok (.invokevirtual 31, 3) := by decide +kernel
theorem dL_law_258 : decode cL_law 258 = .ok (.pop, 1) := by decide +kernel
theorem dL_law_259 : decode cL_law 259 = .ok (.goto 1140, 3) := by decide +kernel
theorem dL_law_262 : decode cL_law 262 = .ok (.aload_n 1, 1) := by decide +kernel
theorem dL_law_263 : decode cL_law 263 = .ok (.aload_n 0, 1) := by decide +kernel
theorem dL_law_264 : decode cL_law 264 = .ok (.iload_n 3, 1) := by decide +kernel
theorem dL_law_265 : decode cL_law 265 = .ok (.iconst 1, 1) := by decide +kernel
theorem dL_law_266 : decode cL_law 266 = .ok (.iadd, 1) := by decide +kernel
theorem dL_law_267 : decode cL_law 267 = .ok (.iaload, 1) := by decide +kernel
theorem dL_law_268 : decode cL_law 268 = .ok (.aload_n 0, 1) := by decide +kernel
theorem dL_law_269 : decode cL_law 269 = .ok (.iload_n 3, 1) := by decide +kernel
theorem dL_law_270 : decode cL_law 270 = .ok (.iconst 2, 1) := by decide +kernel
theorem dL_law_271 : decode cL_law 271 = .ok (.iadd, 1) := by decide +kernel
theorem dL_law_272 : decode cL_law 272 = .ok (.iaload, 1) := by decide +kernel
theorem dL_law_273 : decode cL_law 273 = .ok (.aload_n 0, 1) := by decide +kernel
theorem dL_law_274 : decode cL_law 274 = .ok (.iload_n 3, 1) := by decide +kernel
theorem dL_law_275 : decode cL_law 275 = .ok (.iconst 3, 1) := by decide +kernel
theorem dL_law_276 : decode cL_law 276 = .ok (.iadd, 1) := by decide +kernel
theorem dL_law_277 : decode cL_law 277 = .ok (.iaload, 1) := by decide +kernel
theorem dL_law_278 : decode cL_law 278 = .ok (.i2l, 1) := by decide +kernel
theorem dL_law_279 : decode cL_law 279 = .ok (.bipush 32, 2) := by decide +kernel
theorem dL_law_281 : decode cL_law 281 = .ok (.lshl, 1) := by decide +kernel
theorem dL_law_282 : decode cL_law 282 = .ok (.aload_n 0, 1) := by decide +kernel
theorem dL_law_283 : decode cL_law 283 = .ok (.iload_n 3, 1) := by decide +kernel
theorem dL_law_284 : decode cL_law 284 = .ok (.iconst 4, 1) := by decide +kernel
theorem dL_law_285 : decode cL_law 285 = .ok (.iadd, 1) := by decide +kernel
theorem dL_law_286 : decode cL_law 286 = .ok (.iaload, 1) := by decide +kernel
theorem dL_law_287 : decode cL_law 287 = .ok (.i2l, 1) := by decide +kernel
theorem dL_law_288 : decode cL_law 288 = .ok (.ldc2_w 32, 3) := by decide +kernel
theorem dL_law_291 : decode cL_law 291 = .ok (.land, 1) := by decide +kernel
theorem dL_law_292 : decode cL_law 292 = .ok (.lor, 1) := by decide +kernel
theorem dL_law_293 : decode cL_law 293 = .ok (.invokevirtual 34, 3) := by decide +kernel
theorem dL_law_296 : decode cL_law 296 = .ok (.pop, 1) := by decide +kernel
theorem dL_law_297 : decode cL_law 297 = .ok (.aload_n 2, 1) := by decide +kernel
theorem dL_law_298 : decode cL_law 298 = .ok (.aload_n 0, 1) := by decide +kernel
theorem dL_law_299 : decode cL_law 299 = .ok (.iload_n 3, 1) := by decide +kernel
theorem dL_law_300 : decode cL_law 300 = .ok (.iconst 1, 1) := by decide +kernel
theorem dL_law_301 : decode cL_law 301 = .ok (.iadd, 1) := by decide +kernel
theorem dL_law_302 : decode cL_law 302 = .ok (.iaload, 1) := by decide +kernel
theorem dL_law_303 : decode cL_law 303 = .ok (.aload_n 0, 1) := by decide +kernel
theorem dL_law_304 : decode cL_law 304 = .ok (.iload_n 3, 1) := by decide +kernel
theorem dL_law_305 : decode cL_law 305 = .ok (.iconst 2, 1) := by decide +kernel
theorem dL_law_306 : decode cL_law 306 = .ok (.iadd, 1) := by decide +kernel
theorem dL_law_307 : decode cL_law 307 = .ok (.iaload, 1) := by decide +kernel
theorem dL_law_308 : decode cL_law 308 = .ok (.aload_n 0, 1) := by decide +kernel
theorem dL_law_309 : decode cL_law 309 = .ok (.iload_n 3, 1) := by decide +kernel
theorem dL_law_310 : decode cL_law 310 = .ok (.iconst 3, 1) := by decide +kernel
theorem dL_law_311 : decode cL_law 311 = .ok (.iadd, 1) := by decide +kernel
theorem dL_law_312 : decode cL_law 312 = .ok (.iaload, 1) := by decide +kernel
theorem dL_law_313 : decode cL_law 313 = .ok (.i2l, 1) := by decide +kernel
theorem dL_law_314 : decode cL_law 314 = .ok (.bipush 32, 2) := by decide +kernel
theorem dL_law_316 : decode cL_law 316 = .ok (.lshl, 1) := by decide +kernel
theorem dL_law_317 : decode cL_law 317 = .ok (.aload_n 0, 1) := by decide +kernel
theorem dL_law_318 : decode cL_law 318 = .ok (.iload_n 3, 1) := by decide +kernel
theorem dL_law_319 : decode cL_law 319 = .ok (.iconst 4, 1) := by decide +kernel
theorem dL_law_320 : decode cL_law 320 = .ok (.iadd, 1) := by decide +kernel
theorem dL_law_321 : decode cL_law 321 = .ok (.iaload, 1) := by decide +kernel
theorem dL_law_322 : decode cL_law 322 = .ok (.i2l, 1) := by decide +kernel
theorem dL_law_323 : decode cL_law 323 = .ok (.ldc2_w 32, 3) := by decide +kernel
theorem dL_law_326 : decode cL_law 326 = .ok (.land, 1) := by decide +kernel
theorem dL_law_327 : decode cL_law 327 = .ok (.lor, 1) := by decide +kernel
theorem dL_law_328 : decode cL_law 328 = .ok (.invokevirtual 38, 3) := by decide +kernel
theorem dL_law_331 : decode cL_law 331 = .ok (.pop, 1) := by decide +kernel
theorem dL_law_332 : decode cL_law 332 = .ok (.goto 1067, 3) := by decide +kernel
theorem dL_law_335 : decode cL_law 335 = .ok (.aload_n 1, 1) := by decide +kernel
theorem dL_law_336 : decode cL_law 336 = .ok (.aload_n 0, 1) := by decide +kernel
theorem dL_law_337 : decode cL_law 337 = .ok (.iload_n 3, 1) := by decide +kernel
theorem dL_law_338 : decode cL_law 338 = .ok (.iconst 1, 1) := by decide +kernel
theorem dL_law_339 : decode cL_law 339 = .ok (.iadd, 1) := by decide +kernel
theorem dL_law_340 : decode cL_law 340 = .ok (.iaload, 1) := by decide +kernel
theorem dL_law_341 : decode cL_law 341 = .ok (.aload_n 0, 1) := by decide +kernel
theorem dL_law_342 : decode cL_law 342 = .ok (.iload_n 3, 1) := by decide +kernel
theorem dL_law_343 : decode cL_law 343 = .ok (.iconst 2, 1) := by decide +kernel
theorem dL_law_344 : decode cL_law 344 = .ok (.iadd, 1) := by decide +kernel
theorem dL_law_345 : decode cL_law 345 = .ok (.iaload, 1) := by decide +kernel
theorem dL_law_346 : decode cL_law 346 = .ok (.invokevirtual 39, 3) := by decide +kernel
theorem dL_law_349 : decode cL_law 349 = .ok (.pop2, 1) := by decide +kernel
theorem dL_law_350 : decode cL_law 350 = .ok (.aload_n 2, 1) := by decide +kernel
theorem dL_law_351 : decode cL_law 351 = .ok (.aload_n 0, 1) := by decide +kernel
theorem dL_law_352 : decode cL_law 352 = .ok (.iload_n 3, 1) := by decide +kernel
theorem dL_law_353 : decode cL_law 353 = .ok (.iconst 1, 1) := by decide +kernel
theorem dL_law_354 : decode cL_law 354 = .ok (.iadd, 1) := by decide +kernel
theorem dL_law_355 : decode cL_law 355 = .ok (.iaload, 1) := by decide +kernel
theorem dL_law_356 : decode cL_law 356 = .ok (.aload_n 0, 1) := by decide +kernel
theorem dL_law_357 : decode cL_law 357 = .ok (.iload_n 3, 1) := by decide +kernel
theorem dL_law_358 : decode cL_law 358 = .ok (.iconst 2, 1) := by decide +kernel
theorem dL_law_359 : decode cL_law 359 = .ok (.iadd, 1) := by decide +kernel
theorem dL_law_360 : decode cL_law 360 = .ok (.iaload, 1) := by decide +kernel
theorem dL_law_361 : decode cL_law 361 = .ok (.invokevirtual 43, 3) := by decide +kernel
theorem dL_law_364 : decode cL_law 364 = .ok (.pop2, 1) := by decide +kernel
theorem dL_law_365 : decode cL_law 365 = .ok (.goto 1034, 3) := by decide +kernel
theorem dL_law_368 : decode cL_law 368 = .ok (.aload_n 1, 1) := by decide +kernel
theorem dL_law_369 : decode cL_law 369 = .ok (.aload_n 0, 1) := by decide +kernel
theorem dL_law_370 : decode cL_law 370 = .ok (.iload_n 3, 1) := by decide +kernel
theorem dL_law_371 : decode cL_law 371 = .ok (.iconst 1, 1) := by decide +kernel
theorem dL_law_372 : decode cL_law 372 = .ok (.iadd, 1) := by decide +kernel
theorem dL_law_373 : decode cL_law 373 = .ok (.iaload, 1) := by decide +kernel
theorem dL_law_374 : decode cL_law 374 = .ok (.aload_n 0, 1) := by decide +kernel
theorem dL_law_375 : decode cL_law 375 = .ok (.iload_n 3, 1) := by decide +kernel
theorem dL_law_376 : decode cL_law 376 = .ok (.iconst 2, 1) := by decide +kernel
theorem dL_law_377 : decode cL_law 377 = .ok (.iadd, 1) := by decide +kernel
theorem dL_law_378 : decode cL_law 378 = .ok (.iaload, 1) := by decide +kernel
theorem dL_law_379 : decode cL_law 379 = .ok (.aload_n 0, 1) := by decide +kernel
theorem dL_law_380 : decode cL_law 380 = .ok (.iload_n 3, 1) := by decide +kernel
theorem dL_law_381 : decode cL_law 381 = .ok (.iconst 3, 1) := by decide +kernel
theorem dL_law_382 : decode cL_law 382 = .ok (.iadd, 1) := by decide +kernel
theorem dL_law_383 : decode cL_law 383 = .ok (.iaload, 1) := by decide +kernel
theorem dL_law_384 : decode cL_law 384 = .ok (.aload_n 0, 1) := by decide +kernel
theorem dL_law_385 : decode cL_law 385 = .ok (.iload_n 3, 1) := by decide +kernel
theorem dL_law_386 : decode cL_law 386 = .ok (.iconst 4, 1) := by decide +kernel
theorem dL_law_387 : decode cL_law 387 = .ok (.iadd, 1) := by decide +kernel
theorem dL_law_388 : decode cL_law 388 = .ok (.iaload, 1) := by decide +kernel
theorem dL_law_389 : decode cL_law 389 = .ok (.aload_n 0, 1) := by decide +kernel
theorem dL_law_390 : decode cL_law 390 = .ok (.iload_n 3, 1) := by decide +kernel
theorem dL_law_391 : decode cL_law 391 = .ok (.iconst 5, 1) := by decide +kernel
theorem dL_law_392 : decode cL_law 392 = .ok (.iadd, 1) := by decide +kernel
theorem dL_law_393 : decode cL_law 393 = .ok (.iaload, 1) := by decide +kernel
theorem dL_law_394 : decode cL_law 394 = .ok (.invokevirtual 44, 3) := by decide +kernel
theorem dL_law_397 : decode cL_law 397 = .ok (.pop, 1) := by decide +kernel
theorem dL_law_398 : decode cL_law 398 = .ok (.aload_n 2, 1) := by decide +kernel
theorem dL_law_399 : decode cL_law 399 = .ok (.aload_n 0, 1) := by decide +kernel
theorem dL_law_400 : decode cL_law 400 = .ok (.iload_n 3, 1) := by decide +kernel
theorem dL_law_401 : decode cL_law 401 = .ok (.iconst 1, 1) := by decide +kernel
theorem dL_law_402 : decode cL_law 402 = .ok (.iadd, 1) := by decide +kernel
theorem dL_law_403 : decode cL_law 403 = .ok (.iaload, 1) := by decide +kernel
theorem dL_law_404 : decode cL_law 404 = .ok (.aload_n 0, 1) := by decide +kernel
theorem dL_law_405 : decode cL_law 405 = .ok (.iload_n 3, 1) := by decide +kernel
theorem dL_law_406 : decode cL_law 406 = .ok (.iconst 2, 1) := by decide +kernel
theorem dL_law_407 : decode cL_law 407 = .ok (.iadd, 1) := by decide +kernel
theorem dL_law_408 : decode cL_law 408 = .ok (.iaload, 1) := by decide +kernel
theorem dL_law_409 : decode cL_law 409 = .ok (.aload_n 0, 1) := by decide +kernel
theorem dL_law_410 : decode cL_law 410 = .ok (.iload_n 3, 1) := by decide +kernel
theorem dL_law_411 : decode cL_law 411 = .ok (.iconst 3, 1) := by decide +kernel
theorem dL_law_412 : decode cL_law 412 = .ok (.iadd, 1) := by decide +kernel
theorem dL_law_413 : decode cL_law 413 = .ok (.iaload, 1) := by decide +kernel
theorem dL_law_414 : decode cL_law 414 = .ok (.aload_n 0, 1) := by decide +kernel
theorem dL_law_415 : decode cL_law 415 = .ok (.iload_n 3, 1) := by decide +kernel
theorem dL_law_416 : decode cL_law 416 = .ok (.iconst 4, 1) := by decide +kernel
theorem dL_law_417 : decode cL_law 417 = .ok (.iadd, 1) := by decide +kernel
theorem dL_law_418 : decode cL_law 418 = .ok (.iaload, 1) := by decide +kernel
theorem dL_law_419 : decode cL_law 419 = .ok (.aload_n 0, 1) := by decide +kernel
theorem dL_law_420 : decode cL_law 420 = .ok (.iload_n 3, 1) := by decide +kernel
theorem dL_law_421 : decode cL_law 421 = .ok (.iconst 5, 1) := by decide +kernel
theorem dL_law_422 : decode cL_law 422 = .ok (.iadd, 1) := by decide +kernel
theorem dL_law_423 : decode cL_law 423 = .ok (.iaload, 1) := by decide +kernel
theorem dL_law_424 : decode cL_law 424 = .ok (.invokevirtual 48, 3) := by decide +kernel
theorem dL_law_427 : decode cL_law 427 = .ok (.pop, 1) := by decide +kernel
theorem dL_law_428 : decode cL_law 428 = .ok (.goto 971, 3) := by decide +kernel
theorem dL_law_431 : decode cL_law 431 = .ok (.aload_n 1, 1) := by decide +kernel
theorem dL_law_432 : decode cL_law 432 = .ok (.invokevirtual 49, 3) := by decide +kernel
theorem dL_law_435 : decode cL_law 435 = .ok (.pop, 1) := by decide +kernel
theorem dL_law_436 : decode cL_law 436 = .ok (.aload_n 2, 1) := by decide +kernel
theorem dL_law_437 : decode cL_law 437 = .ok (.invokevirtual 52, 3) := by decide +kernel
theorem dL_law_440 : decode cL_law 440 = .ok (.pop, 1) := by decide +kernel
theorem dL_law_441 : decode cL_law 441 = .ok (.goto 958, 3) := by decide +kernel
theorem dL_law_444 : decode cL_law 444 = .ok (.aload_n 1, 1) := by decide +kernel
theorem dL_law_445 : decode cL_law 445 = .ok (.aload_n 0, 1) := by decide +kernel
theorem dL_law_446 : decode cL_law 446 = .ok (.iload_n 3, 1) := by decide +kernel
theorem dL_law_447 : decode cL_law 447 = .ok (.iconst 1, 1) := by decide +kernel
theorem dL_law_448 : decode cL_law 448 = .ok (.iadd, 1) := by decide +kernel
theorem dL_law_449 : decode cL_law 449 = .ok (.iaload, 1) := by decide +kernel
theorem dL_law_450 : decode cL_law 450 = .ok (.aload_n 0, 1) := by decide +kernel
theorem dL_law_451 : decode cL_law 451 = .ok (.iload_n 3, 1) := by decide +kernel
theorem dL_law_452 : decode cL_law 452 = .ok (.iconst 2, 1) := by decide +kernel
theorem dL_law_453 : decode cL_law 453 = .ok (.iadd, 1) := by decide +kernel
theorem dL_law_454 : decode cL_law 454 = .ok (.iaload, 1) := by decide +kernel
theorem dL_law_455 : decode cL_law 455 = .ok (.aload_n 0, 1) := by decide +kernel
theorem dL_law_456 : decode cL_law 456 = .ok (.iload_n 3, 1) := by decide +kernel
theorem dL_law_457 : decode cL_law 457 = .ok (.iconst 3, 1) := by decide +kernel
theorem dL_law_458 : decode cL_law 458 = .ok (.iadd, 1) := by decide +kernel
theorem dL_law_459 : decode cL_law 459 = .ok (.iaload, 1) := by decide +kernel
theorem dL_law_460 : decode cL_law 460 = .ok (.aload_n 0, 1) := by decide +kernel
theorem dL_law_461 : decode cL_law 461 = .ok (.iload_n 3, 1) := by decide +kernel
theorem dL_law_462 : decode cL_law 462 = .ok (.iconst 4, 1) := by decide +kernel
theorem dL_law_463 : decode cL_law 463 = .ok (.iadd, 1) := by decide +kernel
theorem dL_law_464 : decode cL_law 464 = .ok (.iaload, 1) := by decide +kernel
theorem dL_law_465 : decode cL_law 465 = .ok (.invokevirtual 53, 3) := by decide +kernel
theorem dL_law_468 : decode cL_law 468 = .ok (.pop, 1) := by decide +kernel
theorem dL_law_469 : decode cL_law 469 = .ok (.aload_n 2, 1) := by decide +kernel
theorem dL_law_470 : decode cL_law 470 = .ok (.aload_n 0, 1) := by decide +kernel
theorem dL_law_471 : decode cL_law 471 = .ok (.iload_n 3, 1) := by decide +kernel
theorem dL_law_472 : decode cL_law 472 = .ok (.iconst 1, 1) := by decide +kernel
theorem dL_law_473 : decode cL_law 473 = .ok (.iadd, 1) := by decide +kernel
theorem dL_law_474 : decode cL_law 474 = .ok (.iaload, 1) := by decide +kernel
theorem dL_law_475 : decode cL_law 475 = .ok (.aload_n 0, 1) := by decide +kernel
theorem dL_law_476 : decode cL_law 476 = .ok (.iload_n 3, 1) := by decide +kernel
theorem dL_law_477 : decode cL_law 477 = .ok (.iconst 2, 1) := by decide +kernel
theorem dL_law_478 : decode cL_law 478 = .ok (.iadd, 1) := by decide +kernel
theorem dL_law_479 : decode cL_law 479 = .ok (.iaload, 1) := by decide +kernel
theorem dL_law_480 : decode cL_law 480 = .ok (.aload_n 0, 1) := by decide +kernel
theorem dL_law_481 : decode cL_law 481 = .ok (.iload_n 3, 1) := by decide +kernel
theorem dL_law_482 : decode cL_law 482 = .ok (.iconst 3, 1) := by decide +kernel
theorem dL_law_483 : decode cL_law 483 = .ok (.iadd, 1) := by decide +kernel
theorem dL_law_484 : decode cL_law 484 = .ok (.iaload, 1) := by decide +kernel
theorem dL_law_485 : decode cL_law 485 = .ok (.aload_n 0, 1) := by decide +kernel
theorem dL_law_486 : decode cL_law 486 = .ok (.iload_n 3, 1) := by decide +kernel
theorem dL_law_487 : decode cL_law 487 = .ok (.iconst 4, 1) := by decide +kernel
theorem dL_law_488 : decode cL_law 488 = .ok (.iadd, 1) := by decide +kernel
theorem dL_law_489 : decode cL_law 489 = .ok (.iaload, 1) := by decide +kernel
theorem dL_law_490 : decode cL_law 490 = .ok (.invokevirtual 57, 3) := by decide +kernel
theorem dL_law_493 : decode cL_law 493 = .ok (.pop, 1) := by decide +kernel
theorem dL_law_494 : decode cL_law 494 = .ok (.goto 905, 3) := by decide +kernel
theorem dL_law_497 : decode cL_law 497 = .ok (.aload_n 1, 1) := by decide +kernel
theorem dL_law_498 : decode cL_law 498 = .ok (.aload_n 0, 1) := by decide +kernel
theorem dL_law_499 : decode cL_law 499 = .ok (.iload_n 3, 1) := by decide +kernel
theorem dL_law_500 : decode cL_law 500 = .ok (.iconst 1, 1) := by decide +kernel
theorem dL_law_501 : decode cL_law 501 = .ok (.iadd, 1) := by decide +kernel
theorem dL_law_502 : decode cL_law 502 = .ok (.iaload, 1) := by decide +kernel
theorem dL_law_503 : decode cL_law 503 = .ok (.aload_n 0, 1) := by decide +kernel
theorem dL_law_504 : decode cL_law 504 = .ok (.iload_n 3, 1) := by decide +kernel
theorem dL_law_505 : decode cL_law 505 = .ok (.iconst 2, 1) := by decide +kernel
theorem dL_law_506 : decode cL_law 506 = .ok (.iadd, 1) := by decide +kernel
theorem dL_law_507 : decode cL_law 507 = .ok (.iaload, 1) := by decide +kernel
theorem dL_law_508 : decode cL_law 508 = .ok (.aload_n 0, 1) := by decide +kernel
theorem dL_law_509 : decode cL_law 509 = .ok (.iload_n 3, 1) := by decide +kernel
theorem dL_law_510 : decode cL_law 510 = .ok (.iconst 3, 1) := by decide +kernel
theorem dL_law_511 : decode cL_law 511 = .ok (.iadd, 1) := by decide +kernel
theorem dL_law_512 : decode cL_law 512 = .ok (.iaload, 1) := by decide +kernel
theorem dL_law_513 : decode cL_law 513 = .ok (.invokevirtual 58, 3) := by decide +kernel
theorem dL_law_516 : decode cL_law 516 = .ok (.pop, 1) := by decide +kernel
theorem dL_law_517 : decode cL_law 517 = .ok (.aload_n 2, 1) := by decide +kernel
theorem dL_law_518 : decode cL_law 518 = .ok (.aload_n 0, 1) := by decide +kernel
theorem dL_law_519 : decode cL_law 519 = .ok (.iload_n 3, 1) := by decide +kernel
theorem dL_law_520 : decode cL_law 520 = .ok (.iconst 1, 1) := by decide +kernel
theorem dL_law_521 : decode cL_law 521 = .ok (.iadd, 1) := by decide +kernel
theorem dL_law_522 : decode cL_law 522 = .ok (.iaload, 1) := by decide +kernel
theorem dL_law_523 : decode cL_law 523 = .ok (.aload_n 0, 1) := by decide +kernel
theorem dL_law_524 : decode cL_law 524 = .ok (.iload_n 3, 1) := by decide +kernel
theorem dL_law_525 : decode cL_law 525 = .ok (.iconst 2, 1) := by decide +kernel
theorem dL_law_526 : decode cL_law 526 = .ok (.iadd, 1) := by decide +kernel
theorem dL_law_527 : decode cL_law 527 = .ok (.iaload, 1) := by decide +kernel
theorem dL_law_528 : decode cL_law 528 = .ok (.aload_n 0, 1) := by decide +kernel
theorem dL_law_529 : decode cL_law 529 = .ok (.iload_n 3, 1) := by decide +kernel
theorem dL_law_530 : decode cL_law 530 = .ok (.iconst 3, 1) := by decide +kernel
theorem dL_law_531 : decode cL_law 531 = .ok (.iadd, 1) := by decide +kernel
theorem dL_law_532 : decode cL_law 532 = .ok (.iaload, 1) := by decide +kernel
theorem dL_law_533 : decode cL_law 533 = .ok (.invokevirtual 61, 3) := by decide +kernel
theorem dL_law_536 : decode cL_law 536 = .ok (.pop, 1) := by decide +kernel
theorem dL_law_537 : decode cL_law 537 = .ok (.goto 862, 3) := by decide +kernel
theorem dL_law_540 : decode cL_law 540 = .ok (.aload_n 1, 1) := by decide +kernel
theorem dL_law_541 : decode cL_law 541 = .ok (.aload_n 0, 1) := by decide +kernel
theorem dL_law_542 : decode cL_law 542 = .ok (.iload_n 3, 1) := by decide +kernel
theorem dL_law_543 : decode cL_law 543 = .ok (.iconst 1, 1) := by decide +kernel
theorem dL_law_544 : decode cL_law 544 = .ok (.iadd, 1) := by decide +kernel
theorem dL_law_545 : decode cL_law 545 = .ok (.iaload, 1) := by decide +kernel
theorem dL_law_546 : decode cL_law 546 = .ok (.invokevirtual 62, 3) := by decide +kernel
theorem dL_law_549 : decode cL_law 549 = .ok (.pop, 1) := by decide +kernel
theorem dL_law_550 : decode cL_law 550 = .ok (.aload_n 2, 1) := by decide +kernel
theorem dL_law_551 : decode cL_law 551 = .ok (.aload_n 0, 1) := by decide +kernel
theorem dL_law_552 : decode cL_law 552 = .ok (.iload_n 3, 1) := by decide +kernel
theorem dL_law_553 : decode cL_law 553 = .ok (.iconst 1, 1) := by decide +kernel
theorem dL_law_554 : decode cL_law 554 = .ok (.iadd, 1) := by decide +kernel
theorem dL_law_555 : decode cL_law 555 = .ok (.iaload, 1) := by decide +kernel
theorem dL_law_556 : decode cL_law 556 = .ok (.invokevirtual 66, 3) := by decide +kernel
theorem dL_law_559 : decode cL_law 559 = .ok (.pop, 1) := by decide +kernel
theorem dL_law_560 : decode cL_law 560 = .ok (.goto 839, 3) := by decide +kernel
theorem dL_law_563 : decode cL_law 563 = .ok (.aload_n 1, 1) := by decide +kernel
theorem dL_law_564 : decode cL_law 564 = .ok (.aload_n 0, 1) := by decide +kernel
theorem dL_law_565 : decode cL_law 565 = .ok (.iload_n 3, 1) := by decide +kernel
theorem dL_law_566 : decode cL_law 566 = .ok (.iconst 1, 1) := by decide +kernel
theorem dL_law_567 : decode cL_law 567 = .ok (.iadd, 1) := by decide +kernel
theorem dL_law_568 : decode cL_law 568 = .ok (.iaload, 1) := by decide +kernel
theorem dL_law_569 : decode cL_law 569 = .ok (.aload_n 0, 1) := by decide +kernel
theorem dL_law_570 : decode cL_law 570 = .ok (.iload_n 3, 1) := by decide +kernel
theorem dL_law_571 : decode cL_law 571 = .ok (.iconst 2, 1) := by decide +kernel
theorem dL_law_572 : decode cL_law 572 = .ok (.iadd, 1) := by decide +kernel
theorem dL_law_573 : decode cL_law 573 = .ok (.iaload, 1) := by decide +kernel
theorem dL_law_574 : decode cL_law 574 = .ok (.invokevirtual 67, 3) := by decide +kernel
theorem dL_law_577 : decode cL_law 577 = .ok (.pop, 1) := by decide +kernel
theorem dL_law_578 : decode cL_law 578 = .ok (.aload_n 2, 1) := by decide +kernel
theorem dL_law_579 : decode cL_law 579 = .ok (.aload_n 0, 1) := by decide +kernel
theorem dL_law_580 : decode cL_law 580 = .ok (.iload_n 3, 1) := by decide +kernel
theorem dL_law_581 : decode cL_law 581 = .ok (.iconst 1, 1) := by decide +kernel
theorem dL_law_582 : decode cL_law 582 = .ok (.iadd, 1) := by decide +kernel
theorem dL_law_583 : decode cL_law 583 = .ok (.iaload, 1) := by decide +kernel
theorem dL_law_584 : decode cL_law 584 = .ok (.aload_n 0, 1) := by decide +kernel
theorem dL_law_585 : decode cL_law 585 = .ok (.iload_n 3, 1) := by decide +kernel
theorem dL_law_586 : decode cL_law 586 = .ok (.iconst 2, 1) := by decide +kernel
theorem dL_law_587 : decode cL_law 587 = .ok (.iadd, 1) := by decide +kernel
theorem dL_law_588 : decode cL_law 588 = .ok (.iaload, 1) := by decide +kernel
theorem dL_law_589 : decode cL_law 589 = .ok (.invokevirtual 71, 3) := by decide +kernel
theorem dL_law_592 : decode cL_law 592 = .ok (.pop, 1) := by decide +kernel
theorem dL_law_593 : decode cL_law 593 = .ok (.goto 806, 3) := by decide +kernel
theorem dL_law_596 : decode cL_law 596 = .ok (.aload_n 1, 1) := by decide +kernel
theorem dL_law_597 : decode cL_law 597 = .ok (.aload_n 0, 1) := by decide +kernel
theorem dL_law_598 : decode cL_law 598 = .ok (.iload_n 3, 1) := by decide +kernel
theorem dL_law_599 : decode cL_law 599 = .ok (.iconst 1, 1) := by decide +kernel
theorem dL_law_600 : decode cL_law 600 = .ok (.iadd, 1) := by decide +kernel
theorem dL_law_601 : decode cL_law 601 = .ok (.iaload, 1) := by decide +kernel
theorem dL_law_602 : decode cL_law 602 = .ok (.aload_n 0, 1) := by decide +kernel
theorem dL_law_603 : decode cL_law 603 = .ok (.iload_n 3, 1) := by decide +kernel
theorem dL_law_604 : decode cL_law 604 = .ok (.iconst 2, 1) := by decide +kernel
theorem dL_law_605 : decode cL_law 605 = .ok (.iadd, 1) := by decide +kernel
theorem dL_law_606 : decode cL_law 606 = .ok (.iaload, 1) := by decide +kernel
theorem dL_law_607 : decode cL_law 607 = .ok (.invokevirtual 72, 3) := by decide +kernel
theorem dL_law_610 : decode cL_law 610 = .ok (.pop, 1) := by decide +kernel
theorem dL_law_611 : decode cL_law 611 = .ok (.aload_n 2, 1) := by decide +kernel
theorem dL_law_612 : decode cL_law 612 = .ok (.aload_n 0, 1) := by decide +kernel
theorem dL_law_613 : decode cL_law 613 = .ok (.iload_n 3, 1) := by decide +kernel
theorem dL_law_614 : decode cL_law 614 = .ok (.iconst 1, 1) := by decide +kernel
theorem dL_law_615 : decode cL_law 615 = .ok (.iadd, 1) := by decide +kernel
theorem dL_law_616 : decode cL_law 616 = .ok (.iaload, 1) := by decide +kernel
theorem dL_law_617 : decode cL_law 617 = .ok (.aload_n 0, 1) := by decide +kernel
theorem dL_law_618 : decode cL_law 618 = .ok (.iload_n 3, 1) := by decide +kernel
theorem dL_law_619 : decode cL_law 619 = .ok (.iconst 2, 1) := by decide +kernel
theorem dL_law_620 : decode cL_law 620 = .ok (.iadd, 1) := by decide +kernel
theorem dL_law_621 : decode cL_law 621 = .ok (.iaload, 1) := by decide +kernel
theorem dL_law_622 : decode cL_law 622 = .ok (.invokevirtual 76, 3) := by decide +kernel
theorem dL_law_625 : decode cL_law 625 = .ok (.pop, 1) := by decide +kernel
theorem dL_law_626 : decode cL_law 626 = .ok (.goto 773, 3) := by decide +kernel
theorem dL_law_629 : decode cL_law 629 = .ok (.aload_n 1, 1) := by decide +kernel
theorem dL_law_630 : decode cL_law 630 = .ok (.aload_n 0, 1) := by decide +kernel
theorem dL_law_631 : decode cL_law 631 = .ok (.iload_n 3, 1) := by decide +kernel
theorem dL_law_632 : decode cL_law 632 = .ok (.iconst 1, 1) := by decide +kernel
theorem dL_law_633 : decode cL_law 633 = .ok (.iadd, 1) := by decide +kernel
theorem dL_law_634 : decode cL_law 634 = .ok (.iaload, 1) := by decide +kernel
theorem dL_law_635 : decode cL_law 635 = .ok (.aload_n 0, 1) := by decide +kernel
theorem dL_law_636 : decode cL_law 636 = .ok (.iload_n 3, 1) := by decide +kernel
theorem dL_law_637 : decode cL_law 637 = .ok (.iconst 2, 1) := by decide +kernel
theorem dL_law_638 : decode cL_law 638 = .ok (.iadd, 1) := by decide +kernel
theorem dL_law_639 : decode cL_law 639 = .ok (.iaload, 1) := by decide +kernel
theorem dL_law_640 : decode cL_law 640 = .ok (.invokevirtual 77, 3) := by decide +kernel
theorem dL_law_643 : decode cL_law 643 = .ok (.pop, 1) := by decide +kernel
theorem dL_law_644 : decode cL_law 644 = .ok (.aload_n 2, 1) := by decide +kernel
theorem dL_law_645 : decode cL_law 645 = .ok (.aload_n 0, 1) := by decide +kernel
theorem dL_law_646 : decode cL_law 646 = .ok (.iload_n 3, 1) := by decide +kernel
theorem dL_law_647 : decode cL_law 647 = .ok (.iconst 1, 1) := by decide +kernel
theorem dL_law_648 : decode cL_law 648 = .ok (.iadd, 1) := by decide +kernel
theorem dL_law_649 : decode cL_law 649 = .ok (.iaload, 1) := by decide +kernel
theorem dL_law_650 : decode cL_law 650 = .ok (.aload_n 0, 1) := by decide +kernel
theorem dL_law_651 : decode cL_law 651 = .ok (.iload_n 3, 1) := by decide +kernel
theorem dL_law_652 : decode cL_law 652 = .ok (.iconst 2, 1) := by decide +kernel
theorem dL_law_653 : decode cL_law 653 = .ok (.iadd, 1) := by decide +kernel
theorem dL_law_654 : decode cL_law 654 = .ok (.iaload, 1) := by decide +kernel
theorem dL_law_655 : decode cL_law 655 = .ok (.invokevirtual 80, 3) := by decide +kernel
theorem dL_law_658 : decode cL_law 658 = .ok (.pop, 1) := by decide +kernel
theorem dL_law_659 : decode cL_law 659 = .ok (.goto 740, 3) := by decide +kernel
theorem dL_law_662 : decode cL_law 662 = .ok (.aload_n 1, 1) := by decide +kernel
theorem dL_law_663 : decode cL_law 663 = .ok (.aload_n 0, 1) := by decide +kernel
theorem dL_law_664 : decode cL_law 664 = .ok (.iload_n 3, 1) := by decide +kernel
theorem dL_law_665 : decode cL_law 665 = .ok (.iconst 1, 1) := by decide +kernel
theorem dL_law_666 : decode cL_law 666 = .ok (.iadd, 1) := by decide +kernel
theorem dL_law_667 : decode cL_law 667 = .ok (.iaload, 1) := by decide +kernel
theorem dL_law_668 : decode cL_law 668 = .ok (.aload_n 0, 1) := by decide +kernel
theorem dL_law_669 : decode cL_law 669 = .ok (.iload_n 3, 1) := by decide +kernel
theorem dL_law_670 : decode cL_law 670 = .ok (.iconst 2, 1) := by decide +kernel
theorem dL_law_671 : decode cL_law 671 = .ok (.iadd, 1) := by decide +kernel
theorem dL_law_672 : decode cL_law 672 = .ok (.iaload, 1) := by decide +kernel
theorem dL_law_673 : decode cL_law 673 = .ok (.aload_n 0, 1) := by decide +kernel
theorem dL_law_674 : decode cL_law 674 = .ok (.iload_n 3, 1) := by decide +kernel
theorem dL_law_675 : decode cL_law 675 = .ok (.iconst 3, 1) := by decide +kernel
theorem dL_law_676 : decode cL_law 676 = .ok (.iadd, 1) := by decide +kernel
theorem dL_law_677 : decode cL_law 677 = .ok (.iaload, 1) := by decide +kernel
theorem dL_law_678 : decode cL_law 678 = .ok (.invokevirtual 81, 3) := by decide +kernel
theorem dL_law_681 : decode cL_law 681 = .ok (.pop, 1) := by decide +kernel
theorem dL_law_682 : decode cL_law 682 = .ok (.aload_n 2, 1) := by decide +kernel
theorem dL_law_683 : decode cL_law 683 = .ok (.aload_n 0, 1) := by decide +kernel
theorem dL_law_684 : decode cL_law 684 = .ok (.iload_n 3, 1) := by decide +kernel
theorem dL_law_685 : decode cL_law 685 = .ok (.iconst 1, 1) := by decide +kernel
theorem dL_law_686 : decode cL_law 686 = .ok (.iadd, 1) := by decide +kernel
theorem dL_law_687 : decode cL_law 687 = .ok (.iaload, 1) := by decide +kernel
theorem dL_law_688 : decode cL_law 688 = .ok (.aload_n 0, 1) := by decide +kernel
theorem dL_law_689 : decode cL_law 689 = .ok (.iload_n 3, 1) := by decide +kernel
theorem dL_law_690 : decode cL_law 690 = .ok (.iconst 2, 1) := by decide +kernel
theorem dL_law_691 : decode cL_law 691 = .ok (.iadd, 1) := by decide +kernel
theorem dL_law_692 : decode cL_law 692 = .ok (.iaload, 1) := by decide +kernel
theorem dL_law_693 : decode cL_law 693 = .ok (.aload_n 0, 1) := by decide +kernel
theorem dL_law_694 : decode cL_law 694 = .ok (.iload_n 3, 1) := by decide +kernel
theorem dL_law_695 : decode cL_law 695 = .ok (.iconst 3, 1) := by decide +kernel
theorem dL_law_696 : decode cL_law 696 = .ok (.iadd, 1) := by decide +kernel
theorem dL_law_697 : decode cL_law 697 = .ok (.iaload, 1) := by decide +kernel
theorem dL_law_698 : decode cL_law 698 = .ok (.invokevirtual 85, 3) := by decide +kernel
theorem dL_law_701 : decode cL_law 701 = .ok (.pop, 1) := by decide +kernel
theorem dL_law_702 : decode cL_law 702 = .ok (.goto 697, 3) := by decide +kernel
theorem dL_law_705 : decode cL_law 705 = .ok (.aload_n 1, 1) := by decide +kernel
theorem dL_law_706 : decode cL_law 706 = .ok (.aload_n 0, 1) := by decide +kernel
theorem dL_law_707 : decode cL_law 707 = .ok (.iload_n 3, 1) := by decide +kernel
theorem dL_law_708 : decode cL_law 708 = .ok (.iconst 1, 1) := by decide +kernel
theorem dL_law_709 : decode cL_law 709 = .ok (.iadd, 1) := by decide +kernel
theorem dL_law_710 : decode cL_law 710 = .ok (.iaload, 1) := by decide +kernel
theorem dL_law_711 : decode cL_law 711 = .ok (.aload_n 0, 1) := by decide +kernel
theorem dL_law_712 : decode cL_law 712 = .ok (.iload_n 3, 1) := by decide +kernel
theorem dL_law_713 : decode cL_law 713 = .ok (.iconst 2, 1) := by decide +kernel
theorem dL_law_714 : decode cL_law 714 = .ok (.iadd, 1) := by decide +kernel
theorem dL_law_715 : decode cL_law 715 = .ok (.iaload, 1) := by decide +kernel
theorem dL_law_716 : decode cL_law 716 = .ok (.aload_n 0, 1) := by decide +kernel
theorem dL_law_717 : decode cL_law 717 = .ok (.iload_n 3, 1) := by decide +kernel
theorem dL_law_718 : decode cL_law 718 = .ok (.iconst 3, 1) := by decide +kernel
theorem dL_law_719 : decode cL_law 719 = .ok (.iadd, 1) := by decide +kernel
theorem dL_law_720 : decode cL_law 720 = .ok (.iaload, 1) := by decide +kernel
theorem dL_law_721 : decode cL_law 721 = .ok (.aload_n 0, 1) := by decide +kernel
theorem dL_law_722 : decode cL_law 722 = .ok (.iload_n 3, 1) := by decide +kernel
theorem dL_law_723 : decode cL_law 723 = .ok (.iconst 4, 1) := by decide +kernel
theorem dL_law_724 : decode cL_law 724 = .ok (.iadd, 1) := by decide +kernel
theorem dL_law_725 : decode cL_law 725 = .ok (.iaload, 1) := by decide +kernel
theorem dL_law_726 : decode cL_law 726 = .ok (.invokevirtual 86, 3) := by decide +kernel
theorem dL_law_729 : decode cL_law 729 = .ok (.pop, 1) := by decide +kernel
theorem dL_law_730 : decode cL_law 730 = .ok (.aload_n 2, 1) := by decide +kernel
theorem dL_law_731 : decode cL_law 731 = .ok (.aload_n 0, 1) := by decide +kernel
theorem dL_law_732 : decode cL_law 732 = .ok (.iload_n 3, 1) := by decide +kernel
theorem dL_law_733 : decode cL_law 733 = .ok (.iconst 1, 1) := by decide +kernel
theorem dL_law_734 : decode cL_law 734 = .ok (.iadd, 1) := by decide +kernel
theorem dL_law_735 : decode cL_law 735 = .ok (.iaload, 1) := by decide +kernel
theorem dL_law_736 : decode cL_law 736 = .ok (.aload_n 0, 1) := by decide +kernel
theorem dL_law_737 : decode cL_law 737 = .ok (.iload_n 3, 1) := by decide +kernel
theorem dL_law_738 : decode cL_law 738 = .ok (.iconst 2, 1) := by decide +kernel
theorem dL_law_739 : decode cL_law 739 = .ok (.iadd, 1) := by decide +kernel
theorem dL_law_740 : decode cL_law 740 = .ok (.iaload, 1) := by decide +kernel
theorem dL_law_741 : decode cL_law 741 = .ok (.aload_n 0, 1) := by decide +kernel
theorem dL_law_742 : decode cL_law 742 = .ok (.iload_n 3, 1) := by decide +kernel
theorem dL_law_743 : decode cL_law 743 = .ok (.iconst 3, 1) := by decide +kernel
theorem dL_law_744 : decode cL_law 744 = .ok (.iadd, 1) := by decide +kernel
theorem dL_law_745 : decode cL_law 745 = .ok (.iaload, 1) := by decide +kernel
theorem dL_law_746 : decode cL_law 746 = .ok (.aload_n 0, 1) := by decide +kernel
theorem dL_law_747 : decode cL_law 747 = .ok (.iload_n 3, 1) := by decide +kernel
theorem dL_law_748 : decode cL_law 748 = .ok (.iconst 4, 1) := by decide +kernel
theorem dL_law_749 : decode cL_law 749 = .ok (.iadd, 1) := by decide +kernel
theorem dL_law_750 : decode cL_law 750 = .ok (.iaload, 1) := by decide +kernel
theorem dL_law_751 : decode cL_law 751 = .ok (.invokevirtual 90, 3) := by decide +kernel
theorem dL_law_754 : decode cL_law 754 = .ok (.pop, 1) := by decide +kernel
theorem dL_law_755 : decode cL_law 755 = .ok (.goto 644, 3) := by decide +kernel
theorem dL_law_758 : decode cL_law 758 = .ok (.aload_n 1, 1) := by decide +kernel
theorem dL_law_759 : decode cL_law 759 = .ok (.aload_n 0, 1) := by decide +kernel
theorem dL_law_760 : decode cL_law 760 = .ok (.iload_n 3, 1) := by decide +kernel
theorem dL_law_761 : decode cL_law 761 = .ok (.iconst 1, 1) := by decide +kernel
theorem dL_law_762 : decode cL_law 762 = .ok (.iadd, 1) := by decide +kernel
theorem dL_law_763 : decode cL_law 763 = .ok (.iaload, 1) := by decide +kernel
theorem dL_law_764 : decode cL_law 764 = .ok (.aload_n 0, 1) := by decide +kernel
theorem dL_law_765 : decode cL_law 765 = .ok (.iload_n 3, 1) := by decide +kernel
theorem dL_law_766 : decode cL_law 766 = .ok (.iconst 2, 1) := by decide +kernel
theorem dL_law_767 : decode cL_law 767 = .ok (.iadd, 1) := by decide +kernel
theorem dL_law_768 : decode cL_law 768 = .ok (.iaload, 1) := by decide +kernel
theorem dL_law_769 : decode cL_law 769 = .ok (.aload_n 0, 1) := by decide +kernel
theorem dL_law_770 : decode cL_law 770 = .ok (.iload_n 3, 1) := by decide +kernel
theorem dL_law_771 : decode cL_law 771 = .ok (.iconst 3, 1) := by decide +kernel
theorem dL_law_772 : decode cL_law 772 = .ok (.iadd, 1) := by decide +kernel
theorem dL_law_773 : decode cL_law 773 = .ok (.iaload, 1) := by decide +kernel
theorem dL_law_774 : decode cL_law 774 = .ok (.aload_n 0, 1) := by decide +kernel
theorem dL_law_775 : decode cL_law 775 = .ok (.iload_n 3, 1) := by decide +kernel
theorem dL_law_776 : decode cL_law 776 = .ok (.iconst 4, 1) := by decide +kernel
theorem dL_law_777 : decode cL_law 777 = .ok (.iadd, 1) := by decide +kernel
theorem dL_law_778 : decode cL_law 778 = .ok (.iaload, 1) := by decide +kernel
theorem dL_law_779 : decode cL_law 779 = .ok (.invokevirtual 91, 3) := by decide +kernel
theorem dL_law_782 : decode cL_law 782 = .ok (.pop, 1) := by decide +kernel
theorem dL_law_783 : decode cL_law 783 = .ok (.aload_n 2, 1) := by decide +kernel
theorem dL_law_784 : decode cL_law 784 = .ok (.aload_n 0, 1) := by decide +kernel
theorem dL_law_785 : decode cL_law 785 = .ok (.iload_n 3, 1) := by decide +kernel
theorem dL_law_786 : decode cL_law 786 = .ok (.iconst 1, 1) := by decide +kernel
theorem dL_law_787 : decode cL_law 787 = .ok (.iadd, 1) := by decide +kernel
theorem dL_law_788 : decode cL_law 788 = .ok (.iaload, 1) := by decide +kernel
theorem dL_law_789 : decode cL_law 789 = .ok (.aload_n 0, 1) := by decide +kernel
theorem dL_law_790 : decode cL_law 790 = .ok (.iload_n 3, 1) := by decide +kernel
theorem dL_law_791 : decode cL_law 791 = .ok (.iconst 2, 1) := by decide +kernel
theorem dL_law_792 : decode cL_law 792 = .ok (.iadd, 1) := by decide +kernel
theorem dL_law_793 : decode cL_law 793 = .ok (.iaload, 1) := by decide +kernel
theorem dL_law_794 : decode cL_law 794 = .ok (.aload_n 0, 1) := by decide +kernel
theorem dL_law_795 : decode cL_law 795 = .ok (.iload_n 3, 1) := by decide +kernel
theorem dL_law_796 : decode cL_law 796 = .ok (.iconst 3, 1) := by decide +kernel
theorem dL_law_797 : decode cL_law 797 = .ok (.iadd, 1) := by decide +kernel
theorem dL_law_798 : decode cL_law 798 = .ok (.iaload, 1) := by decide +kernel
theorem dL_law_799 : decode cL_law 799 = .ok (.aload_n 0, 1) := by decide +kernel
theorem dL_law_800 : decode cL_law 800 = .ok (.iload_n 3, 1) := by decide +kernel
theorem dL_law_801 : decode cL_law 801 = .ok (.iconst 4, 1) := by decide +kernel
theorem dL_law_802 : decode cL_law 802 = .ok (.iadd, 1) := by decide +kernel
theorem dL_law_803 : decode cL_law 803 = .ok (.iaload, 1) := by decide +kernel
theorem dL_law_804 : decode cL_law 804 = .ok (.invokevirtual 94, 3) := by decide +kernel
theorem dL_law_807 : decode cL_law 807 = .ok (.pop, 1) := by decide +kernel
theorem dL_law_808 : decode cL_law 808 = .ok (.goto 591, 3) := by decide +kernel
theorem dL_law_811 : decode cL_law 811 = .ok (.aload_n 1, 1) := by decide +kernel
theorem dL_law_812 : decode cL_law 812 = .ok (.aload_n 0, 1) := by decide +kernel
theorem dL_law_813 : decode cL_law 813 = .ok (.iload_n 3, 1) := by decide +kernel
theorem dL_law_814 : decode cL_law 814 = .ok (.iconst 1, 1) := by decide +kernel
theorem dL_law_815 : decode cL_law 815 = .ok (.iadd, 1) := by decide +kernel
theorem dL_law_816 : decode cL_law 816 = .ok (.iaload, 1) := by decide +kernel
theorem dL_law_817 : decode cL_law 817 = .ok (.aload_n 0, 1) := by decide +kernel
theorem dL_law_818 : decode cL_law 818 = .ok (.iload_n 3, 1) := by decide +kernel
theorem dL_law_819 : decode cL_law 819 = .ok (.iconst 2, 1) := by decide +kernel
theorem dL_law_820 : decode cL_law 820 = .ok (.iadd, 1) := by decide +kernel
theorem dL_law_821 : decode cL_law 821 = .ok (.iaload, 1) := by decide +kernel
theorem dL_law_822 : decode cL_law 822 = .ok (.invokevirtual 95, 3) := by decide +kernel
theorem dL_law_825 : decode cL_law 825 = .ok (.pop, 1) := by decide +kernel
theorem dL_law_826 : decode cL_law 826 = .ok (.aload_n 2, 1) := by decide +kernel
theorem dL_law_827 : decode cL_law 827 = .ok (.aload_n 0, 1) := by decide +kernel
theorem dL_law_828 : decode cL_law 828 = .ok (.iload_n 3, 1) := by decide +kernel
theorem dL_law_829 : decode cL_law 829 = .ok (.iconst 1, 1) := by decide +kernel
theorem dL_law_830 : decode cL_law 830 = .ok (.iadd, 1) := by decide +kernel
theorem dL_law_831 : decode cL_law 831 = .ok (.iaload, 1) := by decide +kernel
theorem dL_law_832 : decode cL_law 832 = .ok (.aload_n 0, 1) := by decide +kernel
theorem dL_law_833 : decode cL_law 833 = .ok (.iload_n 3, 1) := by decide +kernel
theorem dL_law_834 : decode cL_law 834 = .ok (.iconst 2, 1) := by decide +kernel
theorem dL_law_835 : decode cL_law 835 = .ok (.iadd, 1) := by decide +kernel
theorem dL_law_836 : decode cL_law 836 = .ok (.iaload, 1) := by decide +kernel
theorem dL_law_837 : decode cL_law 837 = .ok (.invokevirtual 98, 3) := by decide +kernel
theorem dL_law_840 : decode cL_law 840 = .ok (.pop, 1) := by decide +kernel
theorem dL_law_841 : decode cL_law 841 = .ok (.goto 558, 3) := by decide +kernel
theorem dL_law_844 : decode cL_law 844 = .ok (.aload_n 1, 1) := by decide +kernel
theorem dL_law_845 : decode cL_law 845 = .ok (.aload_n 0, 1) := by decide +kernel
theorem dL_law_846 : decode cL_law 846 = .ok (.iload_n 3, 1) := by decide +kernel
theorem dL_law_847 : decode cL_law 847 = .ok (.iconst 1, 1) := by decide +kernel
theorem dL_law_848 : decode cL_law 848 = .ok (.iadd, 1) := by decide +kernel
theorem dL_law_849 : decode cL_law 849 = .ok (.iaload, 1) := by decide +kernel
theorem dL_law_850 : decode cL_law 850 = .ok (.aload_n 0, 1) := by decide +kernel
theorem dL_law_851 : decode cL_law 851 = .ok (.iload_n 3, 1) := by decide +kernel
theorem dL_law_852 : decode cL_law 852 = .ok (.iconst 2, 1) := by decide +kernel
theorem dL_law_853 : decode cL_law 853 = .ok (.iadd, 1) := by decide +kernel
theorem dL_law_854 : decode cL_law 854 = .ok (.iaload, 1) := by decide +kernel
theorem dL_law_855 : decode cL_law 855 = .ok (.aload_n 0, 1) := by decide +kernel
theorem dL_law_856 : decode cL_law 856 = .ok (.iload_n 3, 1) := by decide +kernel
theorem dL_law_857 : decode cL_law 857 = .ok (.iconst 3, 1) := by decide +kernel
theorem dL_law_858 : decode cL_law 858 = .ok (.iadd, 1) := by decide +kernel
theorem dL_law_859 : decode cL_law 859 = .ok (.iaload, 1) := by decide +kernel
theorem dL_law_860 : decode cL_law 860 = .ok (.aload_n 0, 1) := by decide +kernel
theorem dL_law_861 : decode cL_law 861 = .ok (.iload_n 3, 1) := by decide +kernel
theorem dL_law_862 : decode cL_law 862 = .ok (.iconst 4, 1) := by decide +kernel
theorem dL_law_863 : decode cL_law 863 = .ok (.iadd, 1) := by decide +kernel
theorem dL_law_864 : decode cL_law 864 = .ok (.iaload, 1) := by decide +kernel
theorem dL_law_865 : decode cL_law 865 = .ok (.invokevirtual 99, 3) := by decide +kernel
theorem dL_law_868 : decode cL_law 868 = .ok (.aload_n 2, 1) := by decide +kernel
theorem dL_law_869 : decode cL_law 869 = .ok (.aload_n 0, 1) := by decide +kernel
theorem dL_law_870 : decode cL_law 870 = .ok (.iload_n 3, 1) := by decide +kernel
theorem dL_law_871 : decode cL_law 871 = .ok (.iconst 1, 1) := by decide +kernel
theorem dL_law_872 : decode cL_law 872 = .ok (.iadd, 1) := by decide +kernel
theorem dL_law_873 : decode cL_law 873 = .ok (.iaload, 1) := by decide +kernel
theorem dL_law_874 : decode cL_law 874 = .ok (.aload_n 0, 1) := by decide +kernel
theorem dL_law_875 : decode cL_law 875 = .ok (.iload_n 3, 1) := by decide +kernel
theorem dL_law_876 : decode cL_law 876 = .ok (.iconst 2, 1) := by decide +kernel
theorem dL_law_877 : decode cL_law 877 = .ok (.iadd, 1) := by decide +kernel
theorem dL_law_878 : decode cL_law 878 = .ok (.iaload, 1) := by decide +kernel
theorem dL_law_879 : decode cL_law 879 = .ok (.aload_n 0, 1) := by decide +kernel
theorem dL_law_880 : decode cL_law 880 = .ok (.iload_n 3, 1) := by decide +kernel
theorem dL_law_881 : decode cL_law 881 = .ok (.iconst 3, 1) := by decide +kernel
theorem dL_law_882 : decode cL_law 882 = .ok (.iadd, 1) := by decide +kernel
theorem dL_law_883 : decode cL_law 883 = .ok (.iaload, 1) := by decide +kernel
theorem dL_law_884 : decode cL_law 884 = .ok (.aload_n 0, 1) := by decide +kernel
theorem dL_law_885 : decode cL_law 885 = .ok (.iload_n 3, 1) := by decide +kernel
theorem dL_law_886 : decode cL_law 886 = .ok (.iconst 4, 1) := by decide +kernel
theorem dL_law_887 : decode cL_law 887 = .ok (.iadd, 1) := by decide +kernel
theorem dL_law_888 : decode cL_law 888 = .ok (.iaload, 1) := by decide +kernel
theorem dL_law_889 : decode cL_law 889 = .ok (.invokevirtual 102, 3) := by decide +kernel
theorem dL_law_892 : decode cL_law 892 = .ok (.if_icmp .eq 507, 3) := by decide +kernel
theorem dL_law_895 : decode cL_law 895 = .ok (.iconst 0, 1) := by decide +kernel
theorem dL_law_896 : decode cL_law 896 = .ok (.ireturn, 1) := by decide +kernel
theorem dL_law_897 : decode cL_law 897 = .ok (.aload_n 1, 1) := by decide +kernel
theorem dL_law_898 : decode cL_law 898 = .ok (.aload_n 0, 1) := by decide +kernel
theorem dL_law_899 : decode cL_law 899 = .ok (.iload_n 3, 1) := by decide +kernel
theorem dL_law_900 : decode cL_law 900 = .ok (.iconst 1, 1) := by decide +kernel
theorem dL_law_901 : decode cL_law 901 = .ok (.iadd, 1) := by decide +kernel
theorem dL_law_902 : decode cL_law 902 = .ok (.iaload, 1) := by decide +kernel
theorem dL_law_903 : decode cL_law 903 = .ok (.aload_n 0, 1) := by decide +kernel
theorem dL_law_904 : decode cL_law 904 = .ok (.iload_n 3, 1) := by decide +kernel
theorem dL_law_905 : decode cL_law 905 = .ok (.iconst 2, 1) := by decide +kernel
theorem dL_law_906 : decode cL_law 906 = .ok (.iadd, 1) := by decide +kernel
theorem dL_law_907 : decode cL_law 907 = .ok (.iaload, 1) := by decide +kernel
theorem dL_law_908 : decode cL_law 908 = .ok (.invokevirtual 103, 3) := by decide +kernel
theorem dL_law_911 : decode cL_law 911 = .ok (.pop, 1) := by decide +kernel
theorem dL_law_912 : decode cL_law 912 = .ok (.aload_n 2, 1) := by decide +kernel
theorem dL_law_913 : decode cL_law 913 = .ok (.aload_n 0, 1) := by decide +kernel
theorem dL_law_914 : decode cL_law 914 = .ok (.iload_n 3, 1) := by decide +kernel
theorem dL_law_915 : decode cL_law 915 = .ok (.iconst 1, 1) := by decide +kernel
theorem dL_law_916 : decode cL_law 916 = .ok (.iadd, 1) := by decide +kernel
theorem dL_law_917 : decode cL_law 917 = .ok (.iaload, 1) := by decide +kernel
theorem dL_law_918 : decode cL_law 918 = .ok (.aload_n 0, 1) := by decide +kernel
theorem dL_law_919 : decode cL_law 919 = .ok (.iload_n 3, 1) := by decide +kernel
theorem dL_law_920 : decode cL_law 920 = .ok (.iconst 2, 1) := by decide +kernel
theorem dL_law_921 : decode cL_law 921 = .ok (.iadd, 1) := by decide +kernel
theorem dL_law_922 : decode cL_law 922 = .ok (.iaload, 1) := by decide +kernel
theorem dL_law_923 : decode cL_law 923 = .ok (.invokevirtual 106, 3) := by decide +kernel
theorem dL_law_926 : decode cL_law 926 = .ok (.pop, 1) := by decide +kernel
theorem dL_law_927 : decode cL_law 927 = .ok (.goto 472, 3) := by decide +kernel
theorem dL_law_930 : decode cL_law 930 = .ok (.aload_n 1, 1) := by decide +kernel
theorem dL_law_931 : decode cL_law 931 = .ok (.aload_n 0, 1) := by decide +kernel
theorem dL_law_932 : decode cL_law 932 = .ok (.iload_n 3, 1) := by decide +kernel
theorem dL_law_933 : decode cL_law 933 = .ok (.iconst 1, 1) := by decide +kernel
theorem dL_law_934 : decode cL_law 934 = .ok (.iadd, 1) := by decide +kernel
theorem dL_law_935 : decode cL_law 935 = .ok (.iaload, 1) := by decide +kernel
theorem dL_law_936 : decode cL_law 936 = .ok (.invokevirtual 107, 3) := by decide +kernel
theorem dL_law_939 : decode cL_law 939 = .ok (.pop, 1) := by decide +kernel
theorem dL_law_940 : decode cL_law 940 = .ok (.aload_n 2, 1) := by decide +kernel
theorem dL_law_941 : decode cL_law 941 = .ok (.aload_n 0, 1) := by decide +kernel
theorem dL_law_942 : decode cL_law 942 = .ok (.iload_n 3, 1) := by decide +kernel
theorem dL_law_943 : decode cL_law 943 = .ok (.iconst 1, 1) := by decide +kernel
theorem dL_law_944 : decode cL_law 944 = .ok (.iadd, 1) := by decide +kernel
theorem dL_law_945 : decode cL_law 945 = .ok (.iaload, 1) := by decide +kernel
theorem dL_law_946 : decode cL_law 946 = .ok (.invokevirtual 110, 3) := by decide +kernel
theorem dL_law_949 : decode cL_law 949 = .ok (.pop, 1) := by decide +kernel
theorem dL_law_950 : decode cL_law 950 = .ok (.goto 449, 3) := by decide +kernel
theorem dL_law_953 : decode cL_law 953 = .ok (.aload_n 1, 1) := by decide +kernel
theorem dL_law_954 : decode cL_law 954 = .ok (.aload_n 0, 1) := by decide +kernel
theorem dL_law_955 : decode cL_law 955 = .ok (.iload_n 3, 1) := by decide +kernel
theorem dL_law_956 : decode cL_law 956 = .ok (.iconst 1, 1) := by decide +kernel
theorem dL_law_957 : decode cL_law 957 = .ok (.iadd, 1) := by decide +kernel
theorem dL_law_958 : decode cL_law 958 = .ok (.iaload, 1) := by decide +kernel
theorem dL_law_959 : decode cL_law 959 = .ok (.aload_n 0, 1) := by decide +kernel
theorem dL_law_960 : decode cL_law 960 = .ok (.iload_n 3, 1) := by decide +kernel
theorem dL_law_961 : decode cL_law 961 = .ok (.iconst 2, 1) := by decide +kernel
theorem dL_law_962 : decode cL_law 962 = .ok (.iadd, 1) := by decide +kernel
theorem dL_law_963 : decode cL_law 963 = .ok (.iaload, 1) := by decide +kernel
theorem dL_law_964 : decode cL_law 964 = .ok (.invokevirtual 111, 3) := by decide +kernel
theorem dL_law_967 : decode cL_law 967 = .ok (.pop, 1) := by decide +kernel
theorem dL_law_968 : decode cL_law 968 = .ok (.aload_n 2, 1) := by decide +kernel
theorem dL_law_969 : decode cL_law 969 = .ok (.aload_n 0, 1) := by decide +kernel
theorem dL_law_970 : decode cL_law 970 = .ok (.iload_n 3, 1) := by decide +kernel
theorem dL_law_971 : decode cL_law 971 = .ok (.iconst 1, 1) := by decide +kernel
theorem dL_law_972 : decode cL_law 972 = .ok (.iadd, 1) := by decide +kernel
theorem dL_law_973 : decode cL_law 973 = .ok (.iaload, 1) := by decide +kernel
theorem dL_law_974 : decode cL_law 974 = .ok (.aload_n 0, 1) := by decide +kernel
theorem dL_law_975 : decode cL_law 975 = .ok (.iload_n 3, 1) := by decide +kernel
theorem dL_law_976 : decode cL_law 976 = .ok (.iconst 2, 1) := by decide +kernel
theorem dL_law_977 : decode cL_law 977 = .ok (.iadd, 1) := by decide +kernel
theorem dL_law_978 : decode cL_law 978 = .ok (.iaload, 1) := by decide +kernel
theorem dL_law_979 : decode cL_law 979 = .ok (.invokevirtual 114, 3) := by decide +kernel
theorem dL_law_982 : decode cL_law 982 = .ok (.pop, 1) := by decide +kernel
theorem dL_law_983 : decode cL_law 983 = .ok (.goto 416, 3) := by decide +kernel
theorem dL_law_986 : decode cL_law 986 = .ok (.aload_n 1, 1) := by decide +kernel
theorem dL_law_987 : decode cL_law 987 = .ok (.aload_n 0, 1) := by decide +kernel
theorem dL_law_988 : decode cL_law 988 = .ok (.iload_n 3, 1) := by decide +kernel
theorem dL_law_989 : decode cL_law 989 = .ok (.iconst 1, 1) := by decide +kernel
theorem dL_law_990 : decode cL_law 990 = .ok (.iadd, 1) := by decide +kernel
theorem dL_law_991 : decode cL_law 991 = .ok (.iaload, 1) := by decide +kernel
theorem dL_law_992 : decode cL_law 992 = .ok (.invokevirtual 115, 3) := by decide +kernel
theorem dL_law_995 : decode cL_law 995 = .ok (.pop, 1) := by decide +kernel
theorem dL_law_996 : decode cL_law 996 = .ok (.aload_n 2, 1) := by decide +kernel
theorem dL_law_997 : decode cL_law 997 = .ok (.aload_n 0, 1) := by decide +kernel
theorem dL_law_998 : decode cL_law 998 = .ok (.iload_n 3, 1) := by decide +kernel
theorem dL_law_999 : decode cL_law 999 = .ok (.iconst 1, 1) := by decide +kernel
theorem dL_law_1000 : decode cL_law 1000 = .ok (.iadd, 1) := by decide +kernel
theorem dL_law_1001 : decode cL_law 1001 = .ok (.iaload, 1) := by decide +kernel
theorem dL_law_1002 : decode cL_law 1002 = .ok (.invokevirtual 118, 3) := by decide +kernel
theorem dL_law_1005 : decode cL_law 1005 = .ok (.pop, 1) := by decide +kernel
theorem dL_law_1006 : decode cL_law 1006 = .ok (.goto 393, 3) := by decide +kernel
theorem dL_law_1009 : decode cL_law 1009 = .ok (.aload_n 1, 1) := by decide +kernel
theorem dL_law_1010 : decode cL_law 1010 = .ok (.aload_n 0, 1) := by decide +kernel
theorem dL_law_1011 : decode cL_law 1011 = .ok (.iload_n 3, 1) := by decide +kernel
theorem dL_law_1012 : decode cL_law 1012 = .ok (.iconst 1, 1) := by decide +kernel
theorem dL_law_1013 : decode cL_law 1013 = .ok (.iadd, 1) := by decide +kernel
theorem dL_law_1014 : decode cL_law 1014 = .ok (.iaload, 1) := by decide +kernel
theorem dL_law_1015 : decode cL_law 1015 = .ok (.invokevirtual 119, 3) := by decide +kernel
theorem dL_law_1018 : decode cL_law 1018 = .ok (.pop, 1) := by decide +kernel
theorem dL_law_1019 : decode cL_law 1019 = .ok (.aload_n 2, 1) := by decide +kernel
theorem dL_law_1020 : decode cL_law 1020 = .ok (.aload_n 0, 1) := by decide +kernel
theorem dL_law_1021 : decode cL_law 1021 = .ok (.iload_n 3, 1) := by decide +kernel
theorem dL_law_1022 : decode cL_law 1022 = .ok (.iconst 1, 1) := by decide +kernel
theorem dL_law_1023 : decode cL_law 1023 = .ok (.iadd, 1) := by decide +kernel
theorem dL_law_1024 : decode cL_law 1024 = .ok (.iaload, 1) := by decide +kernel
theorem dL_law_1025 : decode cL_law 1025 = .ok (.invokevirtual 122, 3) := by decide +kernel
theorem dL_law_1028 : decode cL_law 1028 = .ok (.pop, 1) := by decide +kernel
theorem dL_law_1029 : decode cL_law 1029 = .ok (.goto 370, 3) := by decide +kernel
theorem dL_law_1032 : decode cL_law 1032 = .ok (.aload_n 1, 1) := by decide +kernel
theorem dL_law_1033 : decode cL_law 1033 = .ok (.aload_n 0, 1) := by decide +kernel
theorem dL_law_1034 : decode cL_law 1034 = .ok (.iload_n 3, 1) := by decide +kernel
theorem dL_law_1035 : decode cL_law 1035 = .ok (.iconst 1, 1) := by decide +kernel
theorem dL_law_1036 : decode cL_law 1036 = .ok (.iadd, 1) := by decide +kernel
theorem dL_law_1037 : decode cL_law 1037 = .ok (.iaload, 1) := by decide +kernel
theorem dL_law_1038 : decode cL_law 1038 = .ok (.aload_n 0, 1) := by decide +kernel
theorem dL_law_1039 : decode cL_law 1039 = .ok (.iload_n 3, 1) := by decide +kernel
theorem dL_law_1040 : decode cL_law 1040 = .ok (.iconst 2, 1) := by decide +kernel
theorem dL_law_1041 : decode cL_law 1041 = .ok (.iadd, 1) := by decide +kernel
theorem dL_law_1042 : decode cL_law 1042 = .ok (.iaload, 1) := by decide +kernel
theorem dL_law_1043 : decode cL_law 1043 = .ok (.aload_n 0, 1) := by decide +kernel
theorem dL_law_1044 : decode cL_law 1044 = .ok (.iload_n 3, 1) := by decide +kernel
theorem dL_law_1045 : decode cL_law 1045 = .ok (.iconst 3, 1) := by decide +kernel
theorem dL_law_1046 : decode cL_law 1046 = .ok (.iadd, 1) := by decide +kernel
theorem dL_law_1047 : decode cL_law 1047 = .ok (.iaload, 1) := by decide +kernel
theorem dL_law_1048 : decode cL_law 1048 = .ok (.aload_n 0, 1) := by decide +kernel
theorem dL_law_1049 : decode cL_law 1049 = .ok (.iload_n 3, 1) := by decide +kernel
theorem dL_law_1050 : decode cL_law 1050 = .ok (.iconst 4, 1) := by decide +kernel
theorem dL_law_1051 : decode cL_law 1051 = .ok (.iadd, 1) := by decide +kernel
theorem dL_law_1052 : decode cL_law 1052 = .ok (.iaload, 1) := by decide +kernel
theorem dL_law_1053 : decode cL_law 1053 = .ok (.invokevirtual 123, 3) := by decide +kernel
theorem dL_law_1056 : decode cL_law 1056 = .ok (.pop, 1) := by decide +kernel
theorem dL_law_1057 : decode cL_law 1057 = .ok (.aload_n 2, 1) := by decide +kernel
theorem dL_law_1058 : decode cL_law 1058 = .ok (.aload_n 0, 1) := by decide +kernel
theorem dL_law_1059 : decode cL_law 1059 = .ok (.iload_n 3, 1) := by decide +kernel
theorem dL_law_1060 : decode cL_law 1060 = .ok (.iconst 1, 1) := by decide +kernel
theorem dL_law_1061 : decode cL_law 1061 = .ok (.iadd, 1) := by decide +kernel
theorem dL_law_1062 : decode cL_law 1062 = .ok (.iaload, 1) := by decide +kernel
theorem dL_law_1063 : decode cL_law 1063 = .ok (.aload_n 0, 1) := by decide +kernel
theorem dL_law_1064 : decode cL_law 1064 = .ok (.iload_n 3, 1) := by decide +kernel
theorem dL_law_1065 : decode cL_law 1065 = .ok (.iconst 2, 1) := by decide +kernel
theorem dL_law_1066 : decode cL_law 1066 = .ok (.iadd, 1) := by decide +kernel
theorem dL_law_1067 : decode cL_law 1067 = .ok (.iaload, 1) := by decide +kernel
theorem dL_law_1068 : decode cL_law 1068 = .ok (.aload_n 0, 1) := by decide +kernel
theorem dL_law_1069 : decode cL_law 1069 = .ok (.iload_n 3, 1) := by decide +kernel
theorem dL_law_1070 : decode cL_law 1070 = .ok (.iconst 3, 1) := by decide +kernel
theorem dL_law_1071 : decode cL_law 1071 = .ok (.iadd, 1) := by decide +kernel
theorem dL_law_1072 : decode cL_law 1072 = .ok (.iaload, 1) := by decide +kernel
theorem dL_law_1073 : decode cL_law 1073 = .ok (.aload_n 0, 1) := by decide +kernel
theorem dL_law_1074 : decode cL_law 1074 = .ok (.iload_n 3, 1) := by decide +kernel
theorem dL_law_1075 : decode cL_law 1075 = .ok (.iconst 4, 1) := by decide +kernel
theorem dL_law_1076 : decode cL_law 1076 = .ok (.iadd, 1) := by decide +kernel
theorem dL_law_1077 : decode cL_law 1077 = .ok (.iaload, 1) := by decide +kernel
theorem dL_law_1078 : decode cL_law 1078 = .ok (.invokevirtual 126, 3) := by decide +kernel
theorem dL_law_1081 : decode cL_law 1081 = .ok (.pop, 1) := by decide +kernel
theorem dL_law_1082 : decode cL_law 1082 = .ok (.goto 317, 3) := by decide +kernel
theorem dL_law_1085 : decode cL_law 1085 = .ok (.aload_n 1, 1) := by decide +kernel
theorem dL_law_1086 : decode cL_law 1086 = .ok (.aload_n 0, 1) := by decide +kernel
theorem dL_law_1087 : decode cL_law 1087 = .ok (.iload_n 3, 1) := by decide +kernel
theorem dL_law_1088 : decode cL_law 1088 = .ok (.iconst 1, 1) := by decide +kernel
theorem dL_law_1089 : decode cL_law 1089 = .ok (.iadd, 1) := by decide +kernel
theorem dL_law_1090 : decode cL_law 1090 = .ok (.iaload, 1) := by decide +kernel
theorem dL_law_1091 : decode cL_law 1091 = .ok (.aload_n 0, 1) := by decide +kernel
theorem dL_law_1092 : decode cL_law 1092 = .ok (.iload_n 3, 1) := by decide +kernel
theorem dL_law_1093 : decode cL_law 1093 = .ok (.iconst 2, 1) := by decide +kernel
theorem dL_law_1094 : decode cL_law 1094 = .ok (.iadd, 1) := by decide +kernel
theorem dL_law_1095 : decode cL_law 1095 = .ok (.iaload, 1) := by decide +kernel
theorem dL_law_1096 : decode cL_law 1096 = .ok (.aload_n 0, 1) := by decide +kernel
theorem dL_law_1097 : decode cL_law 1097 = .ok (.iload_n 3, 1) := by decide +kernel
theorem dL_law_1098 : decode cL_law 1098 = .ok (.iconst 3, 1) := by decide +kernel
theorem dL_law_1099 : decode cL_law 1099 = .ok (.iadd, 1) := by decide +kernel
theorem dL_law_1100 : decode cL_law 1100 = .ok (.iaload, 1) := by decide +kernel
theorem dL_law_1101 : decode cL_law 1101 = .ok (.invokevirtual 127, 3) := by decide +kernel
theorem dL_law_1104 : decode cL_law 1104 = .ok (.pop, 1) := by decide +kernel
theorem dL_law_1105 : decode cL_law 1105 = .ok (.aload_n 2, 1) := by decide +kernel
theorem dL_law_1106 : decode cL_law 1106 = .ok (.aload_n 0, 1) := by decide +kernel
theorem dL_law_1107 : decode cL_law 1107 = .ok (.iload_n 3, 1) := by decide +kernel
theorem dL_law_1108 : decode cL_law 1108 = .ok (.iconst 1, 1) := by decide +kernel
theorem dL_law_1109 : decode cL_law 1109 = .ok (.iadd, 1) := by decide +kernel
theorem dL_law_1110 : decode cL_law 1110 = .ok (.iaload, 1) := by decide +kernel
theorem dL_law_1111 : decode cL_law 1111 = .ok (.aload_n 0, 1) := by decide +kernel
theorem dL_law_1112 : decode cL_law 1112 = .ok (.iload_n 3, 1) := by decide +kernel
theorem dL_law_1113 : decode cL_law 1113 = .ok (.iconst 2, 1) := by decide +kernel
theorem dL_law_1114 : decode cL_law 1114 = .ok (.iadd, 1) := by decide +kernel
theorem dL_law_1115 : decode cL_law 1115 = .ok (.iaload, 1) := by decide +kernel
theorem dL_law_1116 : decode cL_law 1116 = .ok (.aload_n 0, 1) := by decide +kernel
theorem dL_law_1117 : decode cL_law 1117 = .ok (.iload_n 3, 1) := by decide +kernel
theorem dL_law_1118 : decode cL_law 1118 = .ok (.iconst 3, 1) := by decide +kernel
theorem dL_law_1119 : decode cL_law 1119 = .ok (.iadd, 1) := by decide +kernel
theorem dL_law_1120 : decode cL_law 1120 = .ok (.iaload, 1) := by decide +kernel
theorem dL_law_1121 : decode cL_law 1121 = .ok (.invokevirtual 130, 3) := by decide +kernel
theorem dL_law_1124 : decode cL_law 1124 = .ok (.pop, 1) := by decide +kernel
theorem dL_law_1125 : decode cL_law 1125 = .ok (.goto 274, 3) := by decide +kernel
theorem dL_law_1128 : decode cL_law 1128 = .ok (.aload_n 1, 1) := by decide +kernel
theorem dL_law_1129 : decode cL_law 1129 = .ok (.aload_n 0, 1) := by decide +kernel
theorem dL_law_1130 : decode cL_law 1130 = .ok (.iload_n 3, 1) := by decide +kernel
theorem dL_law_1131 : decode cL_law 1131 = .ok (.iconst 1, 1) := by decide +kernel
theorem dL_law_1132 : decode cL_law 1132 = .ok (.iadd, 1) := by decide +kernel
theorem dL_law_1133 : decode cL_law 1133 = .ok (.iaload, 1) := by decide +kernel
theorem dL_law_1134 : decode cL_law 1134 = .ok (.aload_n 0, 1) := by decide +kernel
theorem dL_law_1135 : decode cL_law 1135 = .ok (.iload_n 3, 1) := by decide +kernel
theorem dL_law_1136 : decode cL_law 1136 = .ok (.iconst 2, 1) := by decide +kernel
theorem dL_law_1137 : decode cL_law 1137 = .ok (.iadd, 1) := by decide +kernel
theorem dL_law_1138 : decode cL_law 1138 = .ok (.iaload, 1) := by decide +kernel
theorem dL_law_1139 : decode cL_law 1139 = .ok (.aload_n 0, 1) := by decide +kernel
theorem dL_law_1140 : decode cL_law 1140 = .ok (.iload_n 3, 1) := by decide +kernel
theorem dL_law_1141 : decode cL_law 1141 = .ok (.iconst 3, 1) := by decide +kernel
theorem dL_law_1142 : decode cL_law 1142 = .ok (.iadd, 1) := by decide +kernel
theorem dL_law_1143 : decode cL_law 1143 = .ok (.iaload, 1) := by decide +kernel
theorem dL_law_1144 : decode cL_law 1144 = .ok (.aload_n 0, 1) := by decide +kernel
theorem dL_law_1145 : decode cL_law 1145 = .ok (.iload_n 3, 1) := by decide +kernel
theorem dL_law_1146 : decode cL_law 1146 = .ok (.iconst 4, 1) := by decide +kernel
theorem dL_law_1147 : decode cL_law 1147 = .ok (.iadd, 1) := by decide +kernel
theorem dL_law_1148 : decode cL_law 1148 = .ok (.iaload, 1) := by decide +kernel
theorem dL_law_1149 : decode cL_law 1149 = .ok (.invokevirtual 131, 3) := by decide +kernel
theorem dL_law_1152 : decode cL_law 1152 = .ok (.pop, 1) := by decide +kernel
theorem dL_law_1153 : decode cL_law 1153 = .ok (.aload_n 2, 1) := by decide +kernel
theorem dL_law_1154 : decode cL_law 1154 = .ok (.aload_n 0, 1) := by decide +kernel
theorem dL_law_1155 : decode cL_law 1155 = .ok (.iload_n 3, 1) := by decide +kernel
theorem dL_law_1156 : decode cL_law 1156 = .ok (.iconst 1, 1) := by decide +kernel
theorem dL_law_1157 : decode cL_law 1157 = .ok (.iadd, 1) := by decide +kernel
theorem dL_law_1158 : decode cL_law 1158 = .ok (.iaload, 1) := by decide +kernel
theorem dL_law_1159 : decode cL_law 1159 = .ok (.aload_n 0, 1) := by decide +kernel
theorem dL_law_1160 : decode cL_law 1160 = .ok (.iload_n 3, 1) := by decide +kernel
theorem dL_law_1161 : decode cL_law 1161 = .ok (.iconst 2, 1) := by decide +kernel
theorem dL_law_1162 : decode cL_law 1162 = .ok (.iadd, 1) := by decide +kernel
theorem dL_law_1163 : decode cL_law 1163 = .ok (.iaload, 1) := by decide +kernel
theorem dL_law_1164 : decode cL_law 1164 = .ok (.aload_n 0, 1) := by decide +kernel
theorem dL_law_1165 : decode cL_law 1165 = .ok (.iload_n 3, 1) := by decide +kernel
theorem dL_law_1166 : decode cL_law 1166 = .ok (.iconst 3, 1) := by decide +kernel
theorem dL_law_1167 : decode cL_law 1167 = .ok (.iadd, 1) := by decide +kernel
theorem dL_law_1168 : decode cL_law 1168 = .ok (.iaload, 1) := by decide +kernel
theorem dL_law_1169 : decode cL_law 1169 = .ok (.aload_n 0, 1) := by decide +kernel
theorem dL_law_1170 : decode cL_law 1170 = .ok (.iload_n 3, 1) := by decide +kernel
theorem dL_law_1171 : decode cL_law 1171 = .ok (.iconst 4, 1) := by decide +kernel
theorem dL_law_1172 : decode cL_law 1172 = .ok (.iadd, 1) := by decide +kernel
theorem dL_law_1173 : decode cL_law 1173 = .ok (.iaload, 1) := by decide +kernel
theorem dL_law_1174 : decode cL_law 1174 = .ok (.invokevirtual 134, 3) := by decide +kernel
theorem dL_law_1177 : decode cL_law 1177 = .ok (.pop, 1) := by decide +kernel
theorem dL_law_1178 : decode cL_law 1178 = .ok (.goto 221, 3) := by decide +kernel
theorem dL_law_1181 : decode cL_law 1181 = .ok (.aload_n 1, 1) := by decide +kernel
theorem dL_law_1182 : decode cL_law 1182 = .ok (.aload_n 0, 1) := by decide +kernel
theorem dL_law_1183 : decode cL_law 1183 = .ok (.iload_n 3, 1) := by decide +kernel
theorem dL_law_1184 : decode cL_law 1184 = .ok (.iconst 1, 1) := by decide +kernel
theorem dL_law_1185 : decode cL_law 1185 = .ok (.iadd, 1) := by decide +kernel
theorem dL_law_1186 : decode cL_law 1186 = .ok (.iaload, 1) := by decide +kernel
theorem dL_law_1187 : decode cL_law 1187 = .ok (.aload_n 0, 1) := by decide +kernel
theorem dL_law_1188 : decode cL_law 1188 = .ok (.iload_n 3, 1) := by decide +kernel
theorem dL_law_1189 : decode cL_law 1189 = .ok (.iconst 2, 1) := by decide +kernel
theorem dL_law_1190 : decode cL_law 1190 = .ok (.iadd, 1) := by decide +kernel
theorem dL_law_1191 : decode cL_law 1191 = .ok (.iaload, 1) := by decide +kernel
theorem dL_law_1192 : decode cL_law 1192 = .ok (.invokevirtual 135, 3) := by decide +kernel
theorem dL_law_1195 : decode cL_law 1195 = .ok (.pop, 1) := by decide +kernel
theorem dL_law_1196 : decode cL_law 1196 = .ok (.aload_n 2, 1) := by decide +kernel
theorem dL_law_1197 : decode cL_law 1197 = .ok (.aload_n 0, 1) := by decide +kernel
theorem dL_law_1198 : decode cL_law 1198 = .ok (.iload_n 3, 1) := by decide +kernel
theorem dL_law_1199 : decode cL_law 1199 = .ok (.iconst 1, 1) := by decide +kernel
theorem dL_law_1200 : decode cL_law 1200 = .ok (.iadd, 1) := by decide +kernel
theorem dL_law_1201 : decode cL_law 1201 = .ok (.iaload, 1) := by decide +kernel
theorem dL_law_1202 : decode cL_law 1202 = .ok (.aload_n 0, 1) := by decide +kernel
theorem dL_law_1203 : decode cL_law 1203 = .ok (.iload_n 3, 1) := by decide +kernel
theorem dL_law_1204 : decode cL_law 1204 = .ok (.iconst 2, 1) := by decide +kernel
theorem dL_law_1205 : decode cL_law 1205 = .ok (.iadd, 1) := by decide +kernel
theorem dL_law_1206 : decode cL_law 1206 = .ok (.iaload, 1) := by decide +kernel
theorem dL_law_1207 : decode cL_law 1207 = .ok (.invokevirtual 138, 3) := by decide +kernel
theorem dL_law_1210 : decode cL_law 1210 = .ok (.pop, 1) := by decide +kernel
theorem dL_law_1211 : decode cL_law 1211 = .ok (.goto 188, 3) := by decide +kernel
theorem dL_law_1214 : decode cL_law 1214 = .ok (.aload_n 1, 1) := by decide +kernel
theorem dL_law_1215 : decode cL_law 1215 = .ok (.aload_n 0, 1) := by decide +kernel
theorem dL_law_1216 : decode cL_law 1216 = .ok (.iload_n 3, 1) := by decide +kernel
theorem dL_law_1217 : decode cL_law 1217 = .ok (.iconst 1, 1) := by decide +kernel
theorem dL_law_1218 : decode cL_law 1218 = .ok (.iadd, 1) := by decide +kernel
theorem dL_law_1219 : decode cL_law 1219 = .ok (.iaload, 1) := by decide +kernel
theorem dL_law_1220 : decode cL_law 1220 = .ok (.aload_n 0, 1) := by decide +kernel
theorem dL_law_1221 : decode cL_law 1221 = .ok (.iload_n 3, 1) := by decide +kernel
theorem dL_law_1222 : decode cL_law 1222 = .ok (.iconst 2, 1) := by decide +kernel
theorem dL_law_1223 : decode cL_law 1223 = .ok (.iadd, 1) := by decide +kernel
theorem dL_law_1224 : decode cL_law 1224 = .ok (.iaload, 1) := by decide +kernel
theorem dL_law_1225 : decode cL_law 1225 = .ok (.invokevirtual 139, 3) := by decide +kernel
theorem dL_law_1228 : decode cL_law 1228 = .ok (.pop, 1) := by decide +kernel
theorem dL_law_1229 : decode cL_law 1229 = .ok (.aload_n 2, 1) := by decide +kernel
theorem dL_law_1230 : decode cL_law 1230 = .ok (.aload_n 0, 1) := by decide +kernel
theorem dL_law_1231 : decode cL_law 1231 = .ok (.iload_n 3, 1) := by decide +kernel
theorem dL_law_1232 : decode cL_law 1232 = .ok (.iconst 1, 1) := by decide +kernel
theorem dL_law_1233 : decode cL_law 1233 = .ok (.iadd, 1) := by decide +kernel
theorem dL_law_1234 : decode cL_law 1234 = .ok (.iaload, 1) := by decide +kernel
theorem dL_law_1235 : decode cL_law 1235 = .ok (.aload_n 0, 1) := by decide +kernel
theorem dL_law_1236 : decode cL_law 1236 = .ok (.iload_n 3, 1) := by decide +kernel
theorem dL_law_1237 : decode cL_law 1237 = .ok (.iconst 2, 1) := by decide +kernel
theorem dL_law_1238 : decode cL_law 1238 = .ok (.iadd, 1) := by decide +kernel
theorem dL_law_1239 : decode cL_law 1239 = .ok (.iaload, 1) := by decide +kernel
theorem dL_law_1240 : decode cL_law 1240 = .ok (.invokevirtual 142, 3) := by decide +kernel
theorem dL_law_1243 : decode cL_law 1243 = .ok (.pop, 1) := by decide +kernel
theorem dL_law_1244 : decode cL_law 1244 = .ok (.goto 155, 3) := by decide +kernel
theorem dL_law_1247 : decode cL_law 1247 = .ok (.aload_n 1, 1) := by decide +kernel
theorem dL_law_1248 : decode cL_law 1248 = .ok (.aload_n 0, 1) := by decide +kernel
theorem dL_law_1249 : decode cL_law 1249 = .ok (.iload_n 3, 1) := by decide +kernel
theorem dL_law_1250 : decode cL_law 1250 = .ok (.iconst 1, 1) := by decide +kernel
theorem dL_law_1251 : decode cL_law 1251 = .ok (.iadd, 1) := by decide +kernel
theorem dL_law_1252 : decode cL_law 1252 = .ok (.iaload, 1) := by decide +kernel
theorem dL_law_1253 : decode cL_law 1253 = .ok (.aload_n 0, 1) := by decide +kernel
theorem dL_law_1254 : decode cL_law 1254 = .ok (.iload_n 3, 1) := by decide +kernel
theorem dL_law_1255 : decode cL_law 1255 = .ok (.iconst 2, 1) := by decide +kernel
theorem dL_law_1256 : decode cL_law 1256 = .ok (.iadd, 1) := by decide +kernel
theorem dL_law_1257 : decode cL_law 1257 = .ok (.iaload, 1) := by decide +kernel
theorem dL_law_1258 : decode cL_law 1258 = .ok (.aload_n 0, 1) := by decide +kernel
theorem dL_law_1259 : decode cL_law 1259 = .ok (.iload_n 3, 1) := by decide +kernel
theorem dL_law_1260 : decode cL_law 1260 = .ok (.iconst 3, 1) := by decide +kernel
theorem dL_law_1261 : decode cL_law 1261 = .ok (.iadd, 1) := by decide +kernel
theorem dL_law_1262 : decode cL_law 1262 = .ok (.iaload, 1) := by decide +kernel
theorem dL_law_1263 : decode cL_law 1263 = .ok (.invokevirtual 143, 3) := by decide +kernel
theorem dL_law_1266 : decode cL_law 1266 = .ok (.pop, 1) := by decide +kernel
theorem dL_law_1267 : decode cL_law 1267 = .ok (.aload_n 2, 1) := by decide +kernel
theorem dL_law_1268 : decode cL_law 1268 = .ok (.aload_n 0, 1) := by decide +kernel
theorem dL_law_1269 : decode cL_law 1269 = .ok (.iload_n 3, 1) := by decide +kernel
theorem dL_law_1270 : decode cL_law 1270 = .ok (.iconst 1, 1) := by decide +kernel
theorem dL_law_1271 : decode cL_law 1271 = .ok (.iadd, 1) := by decide +kernel
theorem dL_law_1272 : decode cL_law 1272 = .ok (.iaload, 1) := by decide +kernel
theorem dL_law_1273 : decode cL_law 1273 = .ok (.aload_n 0, 1) := by decide +kernel
theorem dL_law_1274 : decode cL_law 1274 = .ok (.iload_n 3, 1) := by decide +kernel
theorem dL_law_1275 : decode cL_law 1275 = .ok (.iconst 2, 1) := by decide +kernel
theorem dL_law_1276 : decode cL_law 1276 = .ok (.iadd, 1) := by decide +kernel
theorem dL_law_1277 : decode cL_law 1277 = .ok (.iaload, 1) := by decide +kernel
theorem dL_law_1278 : decode cL_law 1278 = .ok (.aload_n 0, 1) := by decide +kernel
theorem dL_law_1279 : decode cL_law 1279 = .ok (.iload_n 3, 1) := by decide +kernel
theorem dL_law_1280 : decode cL_law 1280 = .ok (.iconst 3, 1) := by decide +kernel
theorem dL_law_1281 : decode cL_law 1281 = .ok (.iadd, 1) := by decide +kernel
theorem dL_law_1282 : decode cL_law 1282 = .ok (.iaload, 1) := by decide +kernel
theorem dL_law_1283 : decode cL_law 1283 = .ok (.invokevirtual 146, 3) := by decide +kernel
theorem dL_law_1286 : decode cL_law 1286 = .ok (.pop, 1) := by decide +kernel
theorem dL_law_1287 : decode cL_law 1287 = .ok (.goto 112, 3) := by decide +kernel
theorem dL_law_1290 : decode cL_law 1290 = .ok (.aload_n 1, 1) := by decide +kernel
theorem dL_law_1291 : decode cL_law 1291 = .ok (.aload_n 0, 1) := by decide +kernel
theorem dL_law_1292 : decode cL_law 1292 = .ok (.iload_n 3, 1) := by decide +kernel
theorem dL_law_1293 : decode cL_law 1293 = .ok (.iconst 1, 1) := by decide +kernel
theorem dL_law_1294 : decode cL_law 1294 = .ok (.iadd, 1) := by decide +kernel
theorem dL_law_1295 : decode cL_law 1295 = .ok (.iaload, 1) := by decide +kernel
theorem dL_law_1296 : decode cL_law 1296 = .ok (.aload_n 0, 1) := by decide +kernel
theorem dL_law_1297 : decode cL_law 1297 = .ok (.iload_n 3, 1) := by decide +kernel
theorem dL_law_1298 : decode cL_law 1298 = .ok (.iconst 2, 1) := by decide +kernel
theorem dL_law_1299 : decode cL_law 1299 = .ok (.iadd, 1) := by decide +kernel
theorem dL_law_1300 : decode cL_law 1300 = .ok (.iaload, 1) := by decide +kernel
theorem dL_law_1301 : decode cL_law 1301 = .ok (.invokevirtual 147, 3) := by decide +kernel
theorem dL_law_1304 : decode cL_law 1304 = .ok (.pop, 1) := by decide +kernel
theorem dL_law_1305 : decode cL_law 1305 = .ok (.aload_n 2, 1) := by decide +kernel
theorem dL_law_1306 : decode cL_law 1306 = .ok (.aload_n 0, 1) := by decide +kernel
theorem dL_law_1307 : decode cL_law 1307 = .ok (.iload_n 3, 1) := by decide +kernel
theorem dL_law_1308 : decode cL_law 1308 = .ok (.iconst 1, 1) := by decide +kernel
theorem dL_law_1309 : decode cL_law 1309 = .ok (.iadd, 1) := by decide +kernel
theorem dL_law_1310 : decode cL_law 1310 = .ok (.iaload, 1) := by decide +kernel
theorem dL_law_1311 : decode cL_law 1311 = .ok (.aload_n 0, 1) := by decide +kernel
theorem dL_law_1312 : decode cL_law 1312 = .ok (.iload_n 3, 1) := by decide +kernel
theorem dL_law_1313 : decode cL_law 1313 = .ok (.iconst 2, 1) := by decide +kernel
theorem dL_law_1314 : decode cL_law 1314 = .ok (.iadd, 1) := by decide +kernel
theorem dL_law_1315 : decode cL_law 1315 = .ok (.iaload, 1) := by decide +kernel
theorem dL_law_1316 : decode cL_law 1316 = .ok (.invokevirtual 150, 3) := by decide +kernel
theorem dL_law_1319 : decode cL_law 1319 = .ok (.pop, 1) := by decide +kernel
theorem dL_law_1320 : decode cL_law 1320 = .ok (.goto 79, 3) := by decide +kernel
theorem dL_law_1323 : decode cL_law 1323 = .ok (.aload_n 1, 1) := by decide +kernel
theorem dL_law_1324 : decode cL_law 1324 = .ok (.aload_n 0, 1) := by decide +kernel
theorem dL_law_1325 : decode cL_law 1325 = .ok (.iload_n 3, 1) := by decide +kernel
theorem dL_law_1326 : decode cL_law 1326 = .ok (.iconst 1, 1) := by decide +kernel
theorem dL_law_1327 : decode cL_law 1327 = .ok (.iadd, 1) := by decide +kernel
theorem dL_law_1328 : decode cL_law 1328 = .ok (.iaload, 1) := by decide +kernel
theorem dL_law_1329 : decode cL_law 1329 = .ok (.aload_n 0, 1) := by decide +kernel
theorem dL_law_1330 : decode cL_law 1330 = .ok (.iload_n 3, 1) := by decide +kernel
theorem dL_law_1331 : decode cL_law 1331 = .ok (.iconst 2, 1) := by decide +kernel
theorem dL_law_1332 : decode cL_law 1332 = .ok (.iadd, 1) := by decide +kernel
theorem dL_law_1333 : decode cL_law 1333 = .ok (.iaload, 1) := by decide +kernel
theorem dL_law_1334 : decode cL_law 1334 = .ok (.aload_n 0, 1) := by decide +kernel
theorem dL_law_1335 : decode cL_law 1335 = .ok (.iload_n 3, 1) := by decide +kernel
theorem dL_law_1336 : decode cL_law 1336 = .ok (.iconst 3, 1) := by decide +kernel
theorem dL_law_1337 : decode cL_law 1337 = .ok (.iadd, 1) := by decide +kernel
theorem dL_law_1338 : decode cL_law 1338 = .ok (.iaload, 1) := by decide +kernel
theorem dL_law_1339 : decode cL_law 1339 = .ok (.invokevirtual 151, 3) := by decide +kernel
theorem dL_law_1342 : decode cL_law 1342 = .ok (.pop, 1) := by decide +kernel
theorem dL_law_1343 : decode cL_law 1343 = .ok (.aload_n 2, 1) := by decide +kernel
theorem dL_law_1344 : decode cL_law 1344 = .ok (.aload_n 0, 1) := by decide +kernel
theorem dL_law_1345 : decode cL_law 1345 = .ok (.iload_n 3, 1) := by decide +kernel
theorem dL_law_1346 : decode cL_law 1346 = .ok (.iconst 1, 1) := by decide +kernel
theorem dL_law_1347 : decode cL_law 1347 = .ok (.iadd, 1) := by decide +kernel
theorem dL_law_1348 : decode cL_law 1348 = .ok (.iaload, 1) := by decide +kernel
theorem dL_law_1349 : decode cL_law 1349 = .ok (.aload_n 0, 1) := by decide +kernel
theorem dL_law_1350 : decode cL_law 1350 = .ok (.iload_n 3, 1) := by decide +kernel
theorem dL_law_1351 : decode cL_law 1351 = .ok (.iconst 2, 1) := by decide +kernel
theorem dL_law_1352 : decode cL_law 1352 = .ok (.iadd, 1) := by decide +kernel
theorem dL_law_1353 : decode cL_law 1353 = .ok (.iaload, 1) := by decide +kernel
theorem dL_law_1354 : decode cL_law 1354 = .ok (.aload_n 0, 1) := by decide +kernel
theorem dL_law_1355 : decode cL_law 1355 = .ok (.iload_n 3, 1) := by decide +kernel
theorem dL_law_1356 : decode cL_law 1356 = .ok (.iconst 3, 1) := by decide +kernel
theorem dL_law_1357 : decode cL_law 1357 = .ok (.iadd, 1) := by decide +kernel
theorem dL_law_1358 : decode cL_law 1358 = .ok (.iaload, 1) := by decide +kernel
theorem dL_law_1359 : decode cL_law 1359 = .ok (.invokevirtual 154, 3) := by decide +kernel
theorem dL_law_1362 : decode cL_law 1362 = .ok (.pop, 1) := by decide +kernel
theorem dL_law_1363 : decode cL_law 1363 = .ok (.goto 36, 3) := by decide +kernel
theorem dL_law_1366 : decode cL_law 1366 = .ok (.aload_n 1, 1) := by decide +kernel
theorem dL_law_1367 : decode cL_law 1367 = .ok (.aload_n 0, 1) := by decide +kernel
theorem dL_law_1368 : decode cL_law 1368 = .ok (.iload_n 3, 1) := by decide +kernel
theorem dL_law_1369 : decode cL_law 1369 = .ok (.iconst 1, 1) := by decide +kernel
theorem dL_law_1370 : decode cL_law 1370 = .ok (.iadd, 1) := by decide +kernel
theorem dL_law_1371 : decode cL_law 1371 = .ok (.iaload, 1) := by decide +kernel
theorem dL_law_1372 : decode cL_law 1372 = .ok (.aload_n 0, 1) := by decide +kernel
theorem dL_law_1373 : decode cL_law 1373 = .ok (.iload_n 3, 1) := by decide +kernel
theorem dL_law_1374 : decode cL_law 1374 = .ok (.iconst 2, 1) := by decide +kernel
theorem dL_law_1375 : decode cL_law 1375 = .ok (.iadd, 1) := by decide +kernel
theorem dL_law_1376 : decode cL_law 1376 = .ok (.iaload, 1) := by decide +kernel
theorem dL_law_1377 : decode cL_law 1377 = .ok (.invokevirtual 155, 3) := by decide +kernel
theorem dL_law_1380 : decode cL_law 1380 = .ok (.pop, 1) := by decide +kernel
theorem dL_law_1381 : decode cL_law 1381 = .ok (.aload_n 2, 1) := by decide +kernel
theorem dL_law_1382 : decode cL_law 1382 = .ok (.aload_n 0, 1) := by decide +kernel
theorem dL_law_1383 : decode cL_law 1383 = .ok (.iload_n 3, 1) := by decide +kernel
theorem dL_law_1384 : decode cL_law 1384 = .ok (.iconst 1, 1) := by decide +kernel
theorem dL_law_1385 : decode cL_law 1385 = .ok (.iadd, 1) := by decide +kernel
theorem dL_law_1386 : decode cL_law 1386 = .ok (.iaload, 1) := by decide +kernel
theorem dL_law_1387 : decode cL_law 1387 = .ok (.aload_n 0, 1) := by decide +kernel
theorem dL_law_1388 : decode cL_law 1388 = .ok (.iload_n 3, 1) := by decide +kernel
theorem dL_law_1389 : decode cL_law 1389 = .ok (.iconst 2, 1) := by decide +kernel
theorem dL_law_1390 : decode cL_law 1390 = .ok (.iadd, 1) := by decide +kernel
theorem dL_law_1391 : decode cL_law 1391 = .ok (.iaload, 1) := by decide +kernel
theorem dL_law_1392 : decode cL_law 1392 = .ok (.invokevirtual 158, 3) := by decide +kernel
theorem dL_law_1395 : decode cL_law 1395 = .ok (.pop, 1) := by decide +kernel
theorem dL_law_1396 : decode cL_law 1396 = .ok (.goto 3, 3) := by decide +kernel
theorem dL_law_1399 : decode cL_law 1399 = .ok (.iinc 3 6, 3) := by decide +kernel
theorem dL_law_1402 : decode cL_law 1402 = .ok (.goto (-1384), 3) := by decide +kernel
theorem dL_law_1405 : decode cL_law 1405 = .ok (.iconst 1, 1) := by decide +kernel
theorem dL_law_1406 : decode cL_law 1406 = .ok (.ireturn, 1) := by decide +kernel
def Wp_law (L : Nat) (xs : Nat → Int32) (s0 : zS) : Prop :=
  ∀ (P18 : Int32 → zS → Prop),
  (∀ (v3 : Int32) (s0 : zS), ((((nI L) - (6 : Int32)) < v3 → (1 : Int32) = 1) ∧ (¬ ((nI L) - (6 : Int32)) < v3 → (vp_in v3 L ∧ ((((xs v3.toNatClampNeg) &&& (63 : Int32)) = 0 → Wp_X8_status  s0 (fun r1 s2 => Wp_X9_status  s2 (fun r3 s4 => P18 (v3 + 6) s4))) ∧ (((xs v3.toNatClampNeg) &&& (63 : Int32)) = 1 → Wp_X8_top  s0 (fun r5 s6 => Wp_X9_top  s6 (fun r7 s8 => P18 (v3 + 6) s8))) ∧ (((xs v3.toNatClampNeg) &&& (63 : Int32)) = 2 → Wp_X8_bottom  s0 (fun r9 s10 => Wp_X9_bottom  s10 (fun r11 s12 => P18 (v3 + 6) s12))) ∧ (((xs v3.toNatClampNeg) &&& (63 : Int32)) = 3 → (vp_in (v3 + (1 : Int32)) L ∧ (vp_in (v3 + (2 : Int32)) L ∧ (vp_in (v3 + (3 : Int32)) L ∧ Wp_X8_tray (xs (v3 + (1 : Int32)).toNatClampNeg) (xs (v3 + (2 : Int32)).toNatClampNeg) (xs (v3 + (3 : Int32)).toNatClampNeg) s0 (fun r13 s14 => (vp_in (v3 + (1 : Int32)) L ∧ (vp_in (v3 + (2 : Int32)) L ∧ (vp_in (v3 + (3 : Int32)) L ∧ Wp_X9_tray (xs (v3 + (1 : Int32)).toNatClampNeg) (xs (v3 + (2 : Int32)).toNatClampNeg) (xs (v3 + (3 : Int32)).toNatClampNeg) s14 (fun r15 s16 => P18 (v3 + 6) s16))))))))) ∧ (((xs v3.toNatClampNeg) &&& (63 : Int32)) = 4 → (vp_in (v3 + (1 : Int32)) L ∧ (vp_in (v3 + (2 : Int32)) L ∧ (vp_in (v3 + (3 : Int32)) L ∧ (vp_in (v3 + (4 : Int32)) L ∧ Wp_X8_write (xs (v3 + (1 : Int32)).toNatClampNeg) (xs (v3 + (2 : Int32)).toNatClampNeg) ((((xs (v3 + (3 : Int32)).toNatClampNeg).toInt64) <<< ((32 : Int32).toInt64 &&& 63)) ||| (((xs (v3 + (4 : Int32)).toNatClampNeg).toInt64) &&& (4294967295 : Int64))) s0 (fun r17 s18 => (vp_in (v3 + (1 : Int32)) L ∧ (vp_in (v3 + (2 : Int32)) L ∧ (vp_in (v3 + (3 : Int32)) L ∧ (vp_in (v3 + (4 : Int32)) L ∧ Wp_X9_write (xs (v3 + (1 : Int32)).toNatClampNeg) (xs (v3 + (2 : Int32)).toNatClampNeg) ((((xs (v3 + (3 : Int32)).toNatClampNeg).toInt64) <<< ((32 : Int32).toInt64 &&& 63)) ||| (((xs (v3 + (4 : Int32)).toNatClampNeg).toInt64) &&& (4294967295 : Int64))) s18 (fun r19 s20 => P18 (v3 + 6) s20))))))))))) ∧ (((xs v3.toNatClampNeg) &&& (63 : Int32)) = 5 → (vp_in (v3 + (1 : Int32)) L ∧ (vp_in (v3 + (2 : Int32)) L ∧ Wp_X8_read (xs (v3 + (1 : Int32)).toNatClampNeg) (xs (v3 + (2 : Int32)).toNatClampNeg) s0 (fun r21 s22 => (vp_in (v3 + (1 : Int32)) L ∧ (vp_in (v3 + (2 : Int32)) L ∧ Wp_X9_read (xs (v3 + (1 : Int32)).toNatClampNeg) (xs (v3 + (2 : Int32)).toNatClampNeg) s22 (fun r23 s24 => P18 (v3 + 6) s24))))))) ∧ (((xs v3.toNatClampNeg) &&& (63 : Int32)) = 6 → (vp_in (v3 + (1 : Int32)) L ∧ (vp_in (v3 + (2 : Int32)) L ∧ (vp_in (v3 + (3 : Int32)) L ∧ (vp_in (v3 + (4 : Int32)) L ∧ (vp_in (v3 + (5 : Int32)) L ∧ Wp_X8_pour (xs (v3 + (1 : Int32)).toNatClampNeg) (xs (v3 + (2 : Int32)).toNatClampNeg) (xs (v3 + (3 : Int32)).toNatClampNeg) (xs (v3 + (4 : Int32)).toNatClampNeg) (xs (v3 + (5 : Int32)).toNatClampNeg) s0 (fun r25 s26 => (vp_in (v3 + (1 : Int32)) L ∧ (vp_in (v3 + (2 : Int32)) L ∧ (vp_in (v3 + (3 : Int32)) L ∧ (vp_in (v3 + (4 : Int32)) L ∧ (vp_in (v3 + (5 : Int32)) L ∧ Wp_X9_pour (xs (v3 + (1 : Int32)).toNatClampNeg) (xs (v3 + (2 : Int32)).toNatClampNeg) (xs (v3 + (3 : Int32)).toNatClampNeg) (xs (v3 + (4 : Int32)).toNatClampNeg) (xs (v3 + (5 : Int32)).toNatClampNeg) s26 (fun r27 s28 => P18 (v3 + 6) s28))))))))))))) ∧ (((xs v3.toNatClampNeg) &&& (63 : Int32)) = 7 → Wp_X8_town  s0 (fun r29 s30 => Wp_X9_town  s30 (fun r31 s32 => P18 (v3 + 6) s32))) ∧ (((xs v3.toNatClampNeg) &&& (63 : Int32)) = 8 → (vp_in (v3 + (1 : Int32)) L ∧ (vp_in (v3 + (2 : Int32)) L ∧ (vp_in (v3 + (3 : Int32)) L ∧ (vp_in (v3 + (4 : Int32)) L ∧ Wp_X8_road (xs (v3 + (1 : Int32)).toNatClampNeg) (xs (v3 + (2 : Int32)).toNatClampNeg) (xs (v3 + (3 : Int32)).toNatClampNeg) (xs (v3 + (4 : Int32)).toNatClampNeg) s0 (fun r33 s34 => (vp_in (v3 + (1 : Int32)) L ∧ (vp_in (v3 + (2 : Int32)) L ∧ (vp_in (v3 + (3 : Int32)) L ∧ (vp_in (v3 + (4 : Int32)) L ∧ Wp_X9_road (xs (v3 + (1 : Int32)).toNatClampNeg) (xs (v3 + (2 : Int32)).toNatClampNeg) (xs (v3 + (3 : Int32)).toNatClampNeg) (xs (v3 + (4 : Int32)).toNatClampNeg) s34 (fun r35 s36 => P18 (v3 + 6) s36))))))))))) ∧ (((xs v3.toNatClampNeg) &&& (63 : Int32)) = 9 → (vp_in (v3 + (1 : Int32)) L ∧ (vp_in (v3 + (2 : Int32)) L ∧ (vp_in (v3 + (3 : Int32)) L ∧ Wp_X8_fare (xs (v3 + (1 : Int32)).toNatClampNeg) (xs (v3 + (2 : Int32)).toNatClampNeg) (xs (v3 + (3 : Int32)).toNatClampNeg) s0 (fun r37 s38 => (vp_in (v3 + (1 : Int32)) L ∧ (vp_in (v3 + (2 : Int32)) L ∧ (vp_in (v3 + (3 : Int32)) L ∧ Wp_X9_fare (xs (v3 + (1 : Int32)).toNatClampNeg) (xs (v3 + (2 : Int32)).toNatClampNeg) (xs (v3 + (3 : Int32)).toNatClampNeg) s38 (fun r39 s40 => P18 (v3 + 6) s40))))))))) ∧ (((xs v3.toNatClampNeg) &&& (63 : Int32)) = 10 → (vp_in (v3 + (1 : Int32)) L ∧ Wp_X8_bird (xs (v3 + (1 : Int32)).toNatClampNeg) s0 (fun r41 s42 => (vp_in (v3 + (1 : Int32)) L ∧ Wp_X9_bird (xs (v3 + (1 : Int32)).toNatClampNeg) s42 (fun r43 s44 => P18 (v3 + 6) s44))))) ∧ (((xs v3.toNatClampNeg) &&& (63 : Int32)) = 11 → (vp_in (v3 + (1 : Int32)) L ∧ (vp_in (v3 + (2 : Int32)) L ∧ Wp_X8_carry (xs (v3 + (1 : Int32)).toNatClampNeg) (xs (v3 + (2 : Int32)).toNatClampNeg) s0 (fun r45 s46 => (vp_in (v3 + (1 : Int32)) L ∧ (vp_in (v3 + (2 : Int32)) L ∧ Wp_X9_carry (xs (v3 + (1 : Int32)).toNatClampNeg) (xs (v3 + (2 : Int32)).toNatClampNeg) s46 (fun r47 s48 => P18 (v3 + 6) s48))))))) ∧ (((xs v3.toNatClampNeg) &&& (63 : Int32)) = 12 → (vp_in (v3 + (1 : Int32)) L ∧ (vp_in (v3 + (2 : Int32)) L ∧ Wp_X8_told (xs (v3 + (1 : Int32)).toNatClampNeg) (xs (v3 + (2 : Int32)).toNatClampNeg) s0 (fun r49 s50 => (vp_in (v3 + (1 : Int32)) L ∧ (vp_in (v3 + (2 : Int32)) L ∧ Wp_X9_told (xs (v3 + (1 : Int32)).toNatClampNeg) (xs (v3 + (2 : Int32)).toNatClampNeg) s50 (fun r51 s52 => P18 (v3 + 6) s52))))))) ∧ (((xs v3.toNatClampNeg) &&& (63 : Int32)) = 13 → (vp_in (v3 + (1 : Int32)) L ∧ (vp_in (v3 + (2 : Int32)) L ∧ Wp_X8_waits (xs (v3 + (1 : Int32)).toNatClampNeg) (xs (v3 + (2 : Int32)).toNatClampNeg) s0 (fun r53 s54 => (vp_in (v3 + (1 : Int32)) L ∧ (vp_in (v3 + (2 : Int32)) L ∧ Wp_X9_waits (xs (v3 + (1 : Int32)).toNatClampNeg) (xs (v3 + (2 : Int32)).toNatClampNeg) s54 (fun r55 s56 => P18 (v3 + 6) s56))))))) ∧ (((xs v3.toNatClampNeg) &&& (63 : Int32)) = 14 → (vp_in (v3 + (1 : Int32)) L ∧ (vp_in (v3 + (2 : Int32)) L ∧ (vp_in (v3 + (3 : Int32)) L ∧ Wp_X8_sure (xs (v3 + (1 : Int32)).toNatClampNeg) (xs (v3 + (2 : Int32)).toNatClampNeg) (xs (v3 + (3 : Int32)).toNatClampNeg) s0 (fun r57 s58 => (vp_in (v3 + (1 : Int32)) L ∧ (vp_in (v3 + (2 : Int32)) L ∧ (vp_in (v3 + (3 : Int32)) L ∧ Wp_X9_sure (xs (v3 + (1 : Int32)).toNatClampNeg) (xs (v3 + (2 : Int32)).toNatClampNeg) (xs (v3 + (3 : Int32)).toNatClampNeg) s58 (fun r59 s60 => P18 (v3 + 6) s60))))))))) ∧ (((xs v3.toNatClampNeg) &&& (63 : Int32)) = 15 → (vp_in (v3 + (1 : Int32)) L ∧ (vp_in (v3 + (2 : Int32)) L ∧ (vp_in (v3 + (3 : Int32)) L ∧ (vp_in (v3 + (4 : Int32)) L ∧ Wp_X8_doubles (xs (v3 + (1 : Int32)).toNatClampNeg) (xs (v3 + (2 : Int32)).toNatClampNeg) (xs (v3 + (3 : Int32)).toNatClampNeg) (xs (v3 + (4 : Int32)).toNatClampNeg) s0 (fun r61 s62 => (vp_in (v3 + (1 : Int32)) L ∧ (vp_in (v3 + (2 : Int32)) L ∧ (vp_in (v3 + (3 : Int32)) L ∧ (vp_in (v3 + (4 : Int32)) L ∧ Wp_X9_doubles (xs (v3 + (1 : Int32)).toNatClampNeg) (xs (v3 + (2 : Int32)).toNatClampNeg) (xs (v3 + (3 : Int32)).toNatClampNeg) (xs (v3 + (4 : Int32)).toNatClampNeg) s62 (fun r63 s64 => P18 (v3 + 6) s64))))))))))) ∧ (((xs v3.toNatClampNeg) &&& (63 : Int32)) = 16 → (vp_in (v3 + (1 : Int32)) L ∧ (vp_in (v3 + (2 : Int32)) L ∧ (vp_in (v3 + (3 : Int32)) L ∧ (vp_in (v3 + (4 : Int32)) L ∧ Wp_X8_relay (xs (v3 + (1 : Int32)).toNatClampNeg) (xs (v3 + (2 : Int32)).toNatClampNeg) (xs (v3 + (3 : Int32)).toNatClampNeg) (xs (v3 + (4 : Int32)).toNatClampNeg) s0 (fun r65 s66 => (vp_in (v3 + (1 : Int32)) L ∧ (vp_in (v3 + (2 : Int32)) L ∧ (vp_in (v3 + (3 : Int32)) L ∧ (vp_in (v3 + (4 : Int32)) L ∧ Wp_X9_relay (xs (v3 + (1 : Int32)).toNatClampNeg) (xs (v3 + (2 : Int32)).toNatClampNeg) (xs (v3 + (3 : Int32)).toNatClampNeg) (xs (v3 + (4 : Int32)).toNatClampNeg) s66 (fun r67 s68 => P18 (v3 + 6) s68))))))))))) ∧ (((xs v3.toNatClampNeg) &&& (63 : Int32)) = 17 → (vp_in (v3 + (1 : Int32)) L ∧ (vp_in (v3 + (2 : Int32)) L ∧ Wp_X8_leg (xs (v3 + (1 : Int32)).toNatClampNeg) (xs (v3 + (2 : Int32)).toNatClampNeg) s0 (fun r69 s70 => (vp_in (v3 + (1 : Int32)) L ∧ (vp_in (v3 + (2 : Int32)) L ∧ Wp_X9_leg (xs (v3 + (1 : Int32)).toNatClampNeg) (xs (v3 + (2 : Int32)).toNatClampNeg) s70 (fun r71 s72 => P18 (v3 + 6) s72))))))) ∧ (((xs v3.toNatClampNeg) &&& (63 : Int32)) = 18 → (vp_in (v3 + (1 : Int32)) L ∧ (vp_in (v3 + (2 : Int32)) L ∧ (vp_in (v3 + (3 : Int32)) L ∧ (vp_in (v3 + (4 : Int32)) L ∧ Wp_X8_want (xs (v3 + (1 : Int32)).toNatClampNeg) (xs (v3 + (2 : Int32)).toNatClampNeg) (xs (v3 + (3 : Int32)).toNatClampNeg) (xs (v3 + (4 : Int32)).toNatClampNeg) s0 (fun r73 s74 => (vp_in (v3 + (1 : Int32)) L ∧ (vp_in (v3 + (2 : Int32)) L ∧ (vp_in (v3 + (3 : Int32)) L ∧ (vp_in (v3 + (4 : Int32)) L ∧ Wp_X9_want (xs (v3 + (1 : Int32)).toNatClampNeg) (xs (v3 + (2 : Int32)).toNatClampNeg) (xs (v3 + (3 : Int32)).toNatClampNeg) (xs (v3 + (4 : Int32)).toNatClampNeg) s74 (fun r75 s76 => ((r73 = r75 → P18 (v3 + 6) s76) ∧ (¬ r73 = r75 → (0 : Int32) = 1))))))))))))) ∧ (((xs v3.toNatClampNeg) &&& (63 : Int32)) = 19 → (vp_in (v3 + (1 : Int32)) L ∧ (vp_in (v3 + (2 : Int32)) L ∧ Wp_X8_lack (xs (v3 + (1 : Int32)).toNatClampNeg) (xs (v3 + (2 : Int32)).toNatClampNeg) s0 (fun r77 s78 => (vp_in (v3 + (1 : Int32)) L ∧ (vp_in (v3 + (2 : Int32)) L ∧ Wp_X9_lack (xs (v3 + (1 : Int32)).toNatClampNeg) (xs (v3 + (2 : Int32)).toNatClampNeg) s78 (fun r79 s80 => P18 (v3 + 6) s80))))))) ∧ (((xs v3.toNatClampNeg) &&& (63 : Int32)) = 20 → (vp_in (v3 + (1 : Int32)) L ∧ Wp_X8_carrying (xs (v3 + (1 : Int32)).toNatClampNeg) s0 (fun r81 s82 => (vp_in (v3 + (1 : Int32)) L ∧ Wp_X9_carrying (xs (v3 + (1 : Int32)).toNatClampNeg) s82 (fun r83 s84 => P18 (v3 + 6) s84))))) ∧ (((xs v3.toNatClampNeg) &&& (63 : Int32)) = 21 → (vp_in (v3 + (1 : Int32)) L ∧ (vp_in (v3 + (2 : Int32)) L ∧ Wp_X8_carried (xs (v3 + (1 : Int32)).toNatClampNeg) (xs (v3 + (2 : Int32)).toNatClampNeg) s0 (fun r85 s86 => (vp_in (v3 + (1 : Int32)) L ∧ (vp_in (v3 + (2 : Int32)) L ∧ Wp_X9_carried (xs (v3 + (1 : Int32)).toNatClampNeg) (xs (v3 + (2 : Int32)).toNatClampNeg) s86 (fun r87 s88 => P18 (v3 + 6) s88))))))) ∧ (((xs v3.toNatClampNeg) &&& (63 : Int32)) = 22 → (vp_in (v3 + (1 : Int32)) L ∧ Wp_X8_fares (xs (v3 + (1 : Int32)).toNatClampNeg) s0 (fun r89 s90 => (vp_in (v3 + (1 : Int32)) L ∧ Wp_X9_fares (xs (v3 + (1 : Int32)).toNatClampNeg) s90 (fun r91 s92 => P18 (v3 + 6) s92))))) ∧ (((xs v3.toNatClampNeg) &&& (63 : Int32)) = 23 → (vp_in (v3 + (1 : Int32)) L ∧ Wp_X8_send (xs (v3 + (1 : Int32)).toNatClampNeg) s0 (fun r93 s94 => (vp_in (v3 + (1 : Int32)) L ∧ Wp_X9_send (xs (v3 + (1 : Int32)).toNatClampNeg) s94 (fun r95 s96 => P18 (v3 + 6) s96))))) ∧ (((xs v3.toNatClampNeg) &&& (63 : Int32)) = 24 → (vp_in (v3 + (1 : Int32)) L ∧ (vp_in (v3 + (2 : Int32)) L ∧ (vp_in (v3 + (3 : Int32)) L ∧ (vp_in (v3 + (4 : Int32)) L ∧ Wp_X8_letter (xs (v3 + (1 : Int32)).toNatClampNeg) (xs (v3 + (2 : Int32)).toNatClampNeg) (xs (v3 + (3 : Int32)).toNatClampNeg) (xs (v3 + (4 : Int32)).toNatClampNeg) s0 (fun r97 s98 => (vp_in (v3 + (1 : Int32)) L ∧ (vp_in (v3 + (2 : Int32)) L ∧ (vp_in (v3 + (3 : Int32)) L ∧ (vp_in (v3 + (4 : Int32)) L ∧ Wp_X9_letter (xs (v3 + (1 : Int32)).toNatClampNeg) (xs (v3 + (2 : Int32)).toNatClampNeg) (xs (v3 + (3 : Int32)).toNatClampNeg) (xs (v3 + (4 : Int32)).toNatClampNeg) s98 (fun r99 s100 => P18 (v3 + 6) s100))))))))))) ∧ (((xs v3.toNatClampNeg) &&& (63 : Int32)) = 25 → (vp_in (v3 + (1 : Int32)) L ∧ (vp_in (v3 + (2 : Int32)) L ∧ (vp_in (v3 + (3 : Int32)) L ∧ Wp_X8_fly (xs (v3 + (1 : Int32)).toNatClampNeg) (xs (v3 + (2 : Int32)).toNatClampNeg) (xs (v3 + (3 : Int32)).toNatClampNeg) s0 (fun r101 s102 => (vp_in (v3 + (1 : Int32)) L ∧ (vp_in (v3 + (2 : Int32)) L ∧ (vp_in (v3 + (3 : Int32)) L ∧ Wp_X9_fly (xs (v3 + (1 : Int32)).toNatClampNeg) (xs (v3 + (2 : Int32)).toNatClampNeg) (xs (v3 + (3 : Int32)).toNatClampNeg) s102 (fun r103 s104 => P18 (v3 + 6) s104))))))))) ∧ (((xs v3.toNatClampNeg) &&& (63 : Int32)) = 26 → (vp_in (v3 + (1 : Int32)) L ∧ (vp_in (v3 + (2 : Int32)) L ∧ (vp_in (v3 + (3 : Int32)) L ∧ (vp_in (v3 + (4 : Int32)) L ∧ Wp_X8_comes (xs (v3 + (1 : Int32)).toNatClampNeg) (xs (v3 + (2 : Int32)).toNatClampNeg) (xs (v3 + (3 : Int32)).toNatClampNeg) (xs (v3 + (4 : Int32)).toNatClampNeg) s0 (fun r105 s106 => (vp_in (v3 + (1 : Int32)) L ∧ (vp_in (v3 + (2 : Int32)) L ∧ (vp_in (v3 + (3 : Int32)) L ∧ (vp_in (v3 + (4 : Int32)) L ∧ Wp_X9_comes (xs (v3 + (1 : Int32)).toNatClampNeg) (xs (v3 + (2 : Int32)).toNatClampNeg) (xs (v3 + (3 : Int32)).toNatClampNeg) (xs (v3 + (4 : Int32)).toNatClampNeg) s106 (fun r107 s108 => P18 (v3 + 6) s108))))))))))) ∧ (((xs v3.toNatClampNeg) &&& (63 : Int32)) = 27 → (vp_in (v3 + (1 : Int32)) L ∧ (vp_in (v3 + (2 : Int32)) L ∧ Wp_X8_lose (xs (v3 + (1 : Int32)).toNatClampNeg) (xs (v3 + (2 : Int32)).toNatClampNeg) s0 (fun r109 s110 => (vp_in (v3 + (1 : Int32)) L ∧ (vp_in (v3 + (2 : Int32)) L ∧ Wp_X9_lose (xs (v3 + (1 : Int32)).toNatClampNeg) (xs (v3 + (2 : Int32)).toNatClampNeg) s110 (fun r111 s112 => P18 (v3 + 6) s112))))))) ∧ (((xs v3.toNatClampNeg) &&& (63 : Int32)) = 28 → (vp_in (v3 + (1 : Int32)) L ∧ (vp_in (v3 + (2 : Int32)) L ∧ Wp_X8_knows (xs (v3 + (1 : Int32)).toNatClampNeg) (xs (v3 + (2 : Int32)).toNatClampNeg) s0 (fun r113 s114 => (vp_in (v3 + (1 : Int32)) L ∧ (vp_in (v3 + (2 : Int32)) L ∧ Wp_X9_knows (xs (v3 + (1 : Int32)).toNatClampNeg) (xs (v3 + (2 : Int32)).toNatClampNeg) s114 (fun r115 s116 => P18 (v3 + 6) s116))))))) ∧ (((xs v3.toNatClampNeg) &&& (63 : Int32)) = 29 → (vp_in (v3 + (1 : Int32)) L ∧ (vp_in (v3 + (2 : Int32)) L ∧ (vp_in (v3 + (3 : Int32)) L ∧ Wp_X8_joined (xs (v3 + (1 : Int32)).toNatClampNeg) (xs (v3 + (2 : Int32)).toNatClampNeg) (xs (v3 + (3 : Int32)).toNatClampNeg) s0 (fun r117 s118 => (vp_in (v3 + (1 : Int32)) L ∧ (vp_in (v3 + (2 : Int32)) L ∧ (vp_in (v3 + (3 : Int32)) L ∧ Wp_X9_joined (xs (v3 + (1 : Int32)).toNatClampNeg) (xs (v3 + (2 : Int32)).toNatClampNeg) (xs (v3 + (3 : Int32)).toNatClampNeg) s118 (fun r119 s120 => P18 (v3 + 6) s120))))))))) ∧ (((xs v3.toNatClampNeg) &&& (63 : Int32)) = 30 → (vp_in (v3 + (1 : Int32)) L ∧ (vp_in (v3 + (2 : Int32)) L ∧ Wp_X8_copies (xs (v3 + (1 : Int32)).toNatClampNeg) (xs (v3 + (2 : Int32)).toNatClampNeg) s0 (fun r121 s122 => (vp_in (v3 + (1 : Int32)) L ∧ (vp_in (v3 + (2 : Int32)) L ∧ Wp_X9_copies (xs (v3 + (1 : Int32)).toNatClampNeg) (xs (v3 + (2 : Int32)).toNatClampNeg) s122 (fun r123 s124 => P18 (v3 + 6) s124))))))) ∧ (((xs v3.toNatClampNeg) &&& (63 : Int32)) = 31 → (vp_in (v3 + (1 : Int32)) L ∧ (vp_in (v3 + (2 : Int32)) L ∧ (vp_in (v3 + (3 : Int32)) L ∧ Wp_X8_reading (xs (v3 + (1 : Int32)).toNatClampNeg) (xs (v3 + (2 : Int32)).toNatClampNeg) (xs (v3 + (3 : Int32)).toNatClampNeg) s0 (fun r125 s126 => (vp_in (v3 + (1 : Int32)) L ∧ (vp_in (v3 + (2 : Int32)) L ∧ (vp_in (v3 + (3 : Int32)) L ∧ Wp_X9_reading (xs (v3 + (1 : Int32)).toNatClampNeg) (xs (v3 + (2 : Int32)).toNatClampNeg) (xs (v3 + (3 : Int32)).toNatClampNeg) s126 (fun r127 s128 => P18 (v3 + 6) s128))))))))) ∧ (((xs v3.toNatClampNeg) &&& (63 : Int32)) = 32 → (vp_in (v3 + (1 : Int32)) L ∧ (vp_in (v3 + (2 : Int32)) L ∧ Wp_X8_right (xs (v3 + (1 : Int32)).toNatClampNeg) (xs (v3 + (2 : Int32)).toNatClampNeg) s0 (fun r129 s130 => (vp_in (v3 + (1 : Int32)) L ∧ (vp_in (v3 + (2 : Int32)) L ∧ Wp_X9_right (xs (v3 + (1 : Int32)).toNatClampNeg) (xs (v3 + (2 : Int32)).toNatClampNeg) s130 (fun r131 s132 => P18 (v3 + 6) s132))))))) ∧ ((¬ ((xs v3.toNatClampNeg) &&& (63 : Int32)) = 0 ∧ ¬ ((xs v3.toNatClampNeg) &&& (63 : Int32)) = 1 ∧ ¬ ((xs v3.toNatClampNeg) &&& (63 : Int32)) = 2 ∧ ¬ ((xs v3.toNatClampNeg) &&& (63 : Int32)) = 3 ∧ ¬ ((xs v3.toNatClampNeg) &&& (63 : Int32)) = 4 ∧ ¬ ((xs v3.toNatClampNeg) &&& (63 : Int32)) = 5 ∧ ¬ ((xs v3.toNatClampNeg) &&& (63 : Int32)) = 6 ∧ ¬ ((xs v3.toNatClampNeg) &&& (63 : Int32)) = 7 ∧ ¬ ((xs v3.toNatClampNeg) &&& (63 : Int32)) = 8 ∧ ¬ ((xs v3.toNatClampNeg) &&& (63 : Int32)) = 9 ∧ ¬ ((xs v3.toNatClampNeg) &&& (63 : Int32)) = 10 ∧ ¬ ((xs v3.toNatClampNeg) &&& (63 : Int32)) = 11 ∧ ¬ ((xs v3.toNatClampNeg) &&& (63 : Int32)) = 12 ∧ ¬ ((xs v3.toNatClampNeg) &&& (63 : Int32)) = 13 ∧ ¬ ((xs v3.toNatClampNeg) &&& (63 : Int32)) = 14 ∧ ¬ ((xs v3.toNatClampNeg) &&& (63 : Int32)) = 15 ∧ ¬ ((xs v3.toNatClampNeg) &&& (63 : Int32)) = 16 ∧ ¬ ((xs v3.toNatClampNeg) &&& (63 : Int32)) = 17 ∧ ¬ ((xs v3.toNatClampNeg) &&& (63 : Int32)) = 18 ∧ ¬ ((xs v3.toNatClampNeg) &&& (63 : Int32)) = 19 ∧ ¬ ((xs v3.toNatClampNeg) &&& (63 : Int32)) = 20 ∧ ¬ ((xs v3.toNatClampNeg) &&& (63 : Int32)) = 21 ∧ ¬ ((xs v3.toNatClampNeg) &&& (63 : Int32)) = 22 ∧ ¬ ((xs v3.toNatClampNeg) &&& (63 : Int32)) = 23 ∧ ¬ ((xs v3.toNatClampNeg) &&& (63 : Int32)) = 24 ∧ ¬ ((xs v3.toNatClampNeg) &&& (63 : Int32)) = 25 ∧ ¬ ((xs v3.toNatClampNeg) &&& (63 : Int32)) = 26 ∧ ¬ ((xs v3.toNatClampNeg) &&& (63 : Int32)) = 27 ∧ ¬ ((xs v3.toNatClampNeg) &&& (63 : Int32)) = 28 ∧ ¬ ((xs v3.toNatClampNeg) &&& (63 : Int32)) = 29 ∧ ¬ ((xs v3.toNatClampNeg) &&& (63 : Int32)) = 30 ∧ ¬ ((xs v3.toNatClampNeg) &&& (63 : Int32)) = 31 ∧ ¬ ((xs v3.toNatClampNeg) &&& (63 : Int32)) = 32) → P18 (v3 + 6) s0))))) → P18 v3 s0) →
  P18 (0 : Int32) s0
set_option maxHeartbeats 8000000 in
set_option maxRecDepth 100000 in
theorem t_law {X : zX} {b L : Nat} {xs : Nat → Int32} (C : zC X code RL 4 20) (S : zSc X b L xs) {s0 : zS} (hw : Wp_law L xs s0) : zV X 16 [(2, .ref ((zXE X).1 54 0)), (1, .ref ((zXE X).1 0 0)), (0, .ref b)] [] s0 := by
  unfold Wp_law at hw
  refine z_use (hw (fun v3 s0 => zV X 18 [(0, .ref b), (1, .ref ((zXE X).1 0 0)), (2, .ref ((zXE X).1 54 0)), (3, .int v3)] [] s0) (fun v3 s0 hw => ?_)) (fun hw => ?_)
  · show zV X 18 _ _ _
    refine z_iload_n C dL_law_18 rfl 3 rfl ?_
    refine z_aload_n C dL_law_19 rfl 0 rfl ?_
    refine z_slen C S dL_law_20 ?_
    refine z_bipush C 6 dL_law_21 (by decide) ?_
    refine z_isub C dL_law_23 ?_
    refine z_icmp_gt C (tgt := 1405) dL_law_24 (by decide) (fun h => ?_) (fun h => ?_)
    · replace hw := hw.1 h
      refine z_iconst C 1 dL_law_1405 (by decide) ?_
      refine lw_zret C S dL_law_1406 ?_
      exact hw
    · replace hw := hw.2 h
      refine z_aload_n C dL_law_27 rfl 0 rfl ?_
      refine z_iload_n C dL_law_28 rfl 3 rfl ?_
      refine z_sld C S hw.1 dL_law_29 ?_
      replace hw := hw.2
      refine z_bipush C 63 dL_law_30 (by decide) ?_
      refine z_iand C dL_law_32 ?_
      by_cases h0 : ((xs v3.toNatClampNeg) &&& (63 : Int32)) = 0
      · replace hw := hw.1 h0
        refine z_tabIn C (tgt := 180) dL_law_33 (by rw [h0]; decide) (by rw [h0]; decide) (by rw [h0]; rfl) (by decide) ?_
        refine z_aload_n C dL_law_180 rfl 1 rfl ?_
        refine z_callV C (by decide) M_X8_status Mv_X8_status kw_m_L_13 ob_X8 (t_X8_status hw) rfl rfl (Nat.le_of_ble_eq_true rfl) dL_law_181 (z_ki (fun r1 s2 hw => ?_))
        refine z_pop C dL_law_184 rfl ?_
        refine z_aload_n C dL_law_185 rfl 2 rfl ?_
        refine z_callV C (by decide) M_X9_status Mv_X9_status kw_m_L_17 ob_X9 (t_X9_status hw) rfl rfl (Nat.le_of_ble_eq_true rfl) dL_law_186 (z_ki (fun r3 s4 hw => ?_))
        refine z_pop C dL_law_189 rfl ?_
        refine z_goto C (tgt := 1399) dL_law_190 (by decide) ?_
        refine z_iinc C (v3 + 6) [(3, .int (v3 + 6)), (0, .ref b), (1, .ref ((zXE X).1 0 0)), (2, .ref ((zXE X).1 54 0))] dL_law_1399 3 rfl rfl (by decide) rfl ?_
        refine z_goto C (tgt := 18) dL_law_1402 (by decide) ?_
        exact z_lv [1, 2, 3, 0] rfl hw
      by_cases h1 : ((xs v3.toNatClampNeg) &&& (63 : Int32)) = 1
      · replace hw := hw.2.1 h1
        refine z_tabIn C (tgt := 193) dL_law_33 (by rw [h1]; decide) (by rw [h1]; decide) (by rw [h1]; rfl) (by decide) ?_
        refine z_aload_n C dL_law_193 rfl 1 rfl ?_
        refine z_callV C (by decide) M_X8_top Mv_X8_top kw_m_L_18 ob_X8 (t_X8_top hw) rfl rfl (Nat.le_of_ble_eq_true rfl) dL_law_194 (z_kl (fun r5 s6 hw => ?_))
        refine z_pop2 C dL_law_197 rfl ?_
        refine z_aload_n C dL_law_198 rfl 2 rfl ?_
        refine z_callV C (by decide) M_X9_top Mv_X9_top kw_m_L_22 ob_X9 (t_X9_top hw) rfl rfl (Nat.le_of_ble_eq_true rfl) dL_law_199 (z_kl (fun r7 s8 hw => ?_))
        refine z_pop2 C dL_law_202 rfl ?_
        refine z_goto C (tgt := 1399) dL_law_203 (by decide) ?_
        refine z_iinc C (v3 + 6) [(3, .int (v3 + 6)), (0, .ref b), (1, .ref ((zXE X).1 0 0)), (2, .ref ((zXE X).1 54 0))] dL_law_1399 3 rfl rfl (by decide) rfl ?_
        refine z_goto C (tgt := 18) dL_law_1402 (by decide) ?_
        exact z_lv [1, 2, 3, 0] rfl hw
      by_cases h2 : ((xs v3.toNatClampNeg) &&& (63 : Int32)) = 2
      · replace hw := hw.2.2.1 h2
        refine z_tabIn C (tgt := 206) dL_law_33 (by rw [h2]; decide) (by rw [h2]; decide) (by rw [h2]; rfl) (by decide) ?_
        refine z_aload_n C dL_law_206 rfl 1 rfl ?_
        refine z_callV C (by decide) M_X8_bottom Mv_X8_bottom kw_m_L_23 ob_X8 (t_X8_bottom hw) rfl rfl (Nat.le_of_ble_eq_true rfl) dL_law_207 (z_kl (fun r9 s10 hw => ?_))
        refine z_pop2 C dL_law_210 rfl ?_
        refine z_aload_n C dL_law_211 rfl 2 rfl ?_
        refine z_callV C (by decide) M_X9_bottom Mv_X9_bottom kw_m_L_26 ob_X9 (t_X9_bottom hw) rfl rfl (Nat.le_of_ble_eq_true rfl) dL_law_212 (z_kl (fun r11 s12 hw => ?_))
        refine z_pop2 C dL_law_215 rfl ?_
        refine z_goto C (tgt := 1399) dL_law_216 (by decide) ?_
        refine z_iinc C (v3 + 6) [(3, .int (v3 + 6)), (0, .ref b), (1, .ref ((zXE X).1 0 0)), (2, .ref ((zXE X).1 54 0))] dL_law_1399 3 rfl rfl (by decide) rfl ?_
        refine z_goto C (tgt := 18) dL_law_1402 (by decide) ?_
        exact z_lv [1, 2, 3, 0] rfl hw
      by_cases h3 : ((xs v3.toNatClampNeg) &&& (63 : Int32)) = 3
      · replace hw := hw.2.2.2.1 h3
        refine z_tabIn C (tgt := 219) dL_law_33 (by rw [h3]; decide) (by rw [h3]; decide) (by rw [h3]; rfl) (by decide) ?_
        refine z_aload_n C dL_law_219 rfl 1 rfl ?_
        refine z_aload_n C dL_law_220 rfl 0 rfl ?_
        refine z_iload_n C dL_law_221 rfl 3 rfl ?_
        refine z_iconst C 1 dL_law_222 (by decide) ?_
        refine z_iadd C dL_law_223 ?_
        refine z_sld C S hw.1 dL_law_224 ?_
        replace hw := hw.2
        refine z_aload_n C dL_law_225 rfl 0 rfl ?_
        refine z_iload_n C dL_law_226 rfl 3 rfl ?_
        refine z_iconst C 2 dL_law_227 (by decide) ?_
        refine z_iadd C dL_law_228 ?_
        refine z_sld C S hw.1 dL_law_229 ?_
        replace hw := hw.2
        refine z_aload_n C dL_law_230 rfl 0 rfl ?_
        refine z_iload_n C dL_law_231 rfl 3 rfl ?_
        refine z_iconst C 3 dL_law_232 (by decide) ?_
        refine z_iadd C dL_law_233 ?_
        refine z_sld C S hw.1 dL_law_234 ?_
        replace hw := hw.2
        refine z_callV C (by decide) M_X8_tray Mv_X8_tray kw_m_L_27 ob_X8 (t_X8_tray hw) rfl rfl (Nat.le_of_ble_eq_true rfl) dL_law_235 (z_kb (fun r13 s14 hr13 hw => ?_))
        refine z_pop C dL_law_238 rfl ?_
        refine z_aload_n C dL_law_239 rfl 2 rfl ?_
        refine z_aload_n C dL_law_240 rfl 0 rfl ?_
        refine z_iload_n C dL_law_241 rfl 3 rfl ?_
        refine z_iconst C 1 dL_law_242 (by decide) ?_
        refine z_iadd C dL_law_243 ?_
        refine z_sld C S hw.1 dL_law_244 ?_
        replace hw := hw.2
        refine z_aload_n C dL_law_245 rfl 0 rfl ?_
        refine z_iload_n C dL_law_246 rfl 3 rfl ?_
        refine z_iconst C 2 dL_law_247 (by decide) ?_
        refine z_iadd C dL_law_248 ?_
        refine z_sld C S hw.1 dL_law_249 ?_
        replace hw := hw.2
        refine z_aload_n C dL_law_250 rfl 0 rfl ?_
        refine z_iload_n C dL_law_251 rfl 3 rfl ?_
        refine z_iconst C 3 dL_law_252 (by decide) ?_
        refine z_iadd C dL_law_253 ?_
        refine z_sld C S hw.1 dL_law_254 ?_
        replace hw := hw.2
        refine z_callV C (by decide) M_X9_tray Mv_X9_tray kw_m_L_31 ob_X9 (t_X9_tray hw) rfl rfl (Nat.le_of_ble_eq_true rfl) dL_law_255 (z_kb (fun r15 s16 hr15 hw => ?_))
        refine z_pop C dL_law_258 rfl ?_
        refine z_goto C (tgt := 1399) dL_law_259 (by decide) ?_
        refine z_iinc C (v3 + 6) [(3, .int (v3 + 6)), (0, .ref b), (1, .ref ((zXE X).1 0 0)), (2, .ref ((zXE X).1 54 0))] dL_law_1399 3 rfl rfl (by decide) rfl ?_
        refine z_goto C (tgt := 18) dL_law_1402 (by decide) ?_
        exact z_lv [1, 2, 3, 0] rfl hw
      by_cases h4 : ((xs v3.toNatClampNeg) &&& (63 : Int32)) = 4
      · replace hw := hw.2.2.2.2.1 h4
        refine z_tabIn C (tgt := 262) dL_law_33 (by rw [h4]; decide) (by rw [h4]; decide) (by rw [h4]; rfl) (by decide) ?_
        refine z_aload_n C dL_law_262 rfl 1 rfl ?_
        refine z_aload_n C dL_law_263 rfl 0 rfl ?_
        refine z_iload_n C dL_law_264 rfl 3 rfl ?_
        refine z_iconst C 1 dL_law_265 (by decide) ?_
        refine z_iadd C dL_law_266 ?_
        refine z_sld C S hw.1 dL_law_267 ?_
        replace hw := hw.2
        refine z_aload_n C dL_law_268 rfl 0 rfl ?_
        refine z_iload_n C dL_law_269 rfl 3 rfl ?_
        refine z_iconst C 2 dL_law_270 (by decide) ?_
        refine z_iadd C dL_law_271 ?_
        refine z_sld C S hw.1 dL_law_272 ?_
        replace hw := hw.2
        refine z_aload_n C dL_law_273 rfl 0 rfl ?_
        refine z_iload_n C dL_law_274 rfl 3 rfl ?_
        refine z_iconst C 3 dL_law_275 (by decide) ?_
        refine z_iadd C dL_law_276 ?_
        refine z_sld C S hw.1 dL_law_277 ?_
        replace hw := hw.2
        refine z_i2l C dL_law_278 ?_
        refine z_bipush C 32 dL_law_279 (by decide) ?_
        refine z_lshl C dL_law_281 ?_
        refine z_aload_n C dL_law_282 rfl 0 rfl ?_
        refine z_iload_n C dL_law_283 rfl 3 rfl ?_
        refine z_iconst C 4 dL_law_284 (by decide) ?_
        refine z_iadd C dL_law_285 ?_
        refine z_sld C S hw.1 dL_law_286 ?_
        replace hw := hw.2
        refine z_i2l C dL_law_287 ?_
        refine z_ldc2 C (v := 4294967295) kw_cl_L_32 dL_law_288 ?_
        refine z_land C dL_law_291 ?_
        refine z_lor C dL_law_292 ?_
        refine z_callV C (by decide) M_X8_write Mv_X8_write kw_m_L_34 ob_X8 (t_X8_write hw) rfl rfl (Nat.le_of_ble_eq_true rfl) dL_law_293 (z_kb (fun r17 s18 hr17 hw => ?_))
        refine z_pop C dL_law_296 rfl ?_
        refine z_aload_n C dL_law_297 rfl 2 rfl ?_
        refine z_aload_n C dL_law_298 rfl 0 rfl ?_
        refine z_iload_n C dL_law_299 rfl 3 rfl ?_
        refine z_iconst C 1 dL_law_300 (by decide) ?_
        refine z_iadd C dL_law_301 ?_
        refine z_sld C S hw.1 dL_law_302 ?_
        replace hw := hw.2
        refine z_aload_n C dL_law_303 rfl 0 rfl ?_
        refine z_iload_n C dL_law_304 rfl 3 rfl ?_
        refine z_iconst C 2 dL_law_305 (by decide) ?_
        refine z_iadd C dL_law_306 ?_
        refine z_sld C S hw.1 dL_law_307 ?_
        replace hw := hw.2
        refine z_aload_n C dL_law_308 rfl 0 rfl ?_
        refine z_iload_n C dL_law_309 rfl 3 rfl ?_
        refine z_iconst C 3 dL_law_310 (by decide) ?_
        refine z_iadd C dL_law_311 ?_
        refine z_sld C S hw.1 dL_law_312 ?_
        replace hw := hw.2
        refine z_i2l C dL_law_313 ?_
        refine z_bipush C 32 dL_law_314 (by decide) ?_
        refine z_lshl C dL_law_316 ?_
        refine z_aload_n C dL_law_317 rfl 0 rfl ?_
        refine z_iload_n C dL_law_318 rfl 3 rfl ?_
        refine z_iconst C 4 dL_law_319 (by decide) ?_
        refine z_iadd C dL_law_320 ?_
        refine z_sld C S hw.1 dL_law_321 ?_
        replace hw := hw.2
        refine z_i2l C dL_law_322 ?_
        refine z_ldc2 C (v := 4294967295) kw_cl_L_32 dL_law_323 ?_
        refine z_land C dL_law_326 ?_
        refine z_lor C dL_law_327 ?_
        refine z_callV C (by decide) M_X9_write Mv_X9_write kw_m_L_38 ob_X9 (t_X9_write hw) rfl rfl (Nat.le_of_ble_eq_true rfl) dL_law_328 (z_kb (fun r19 s20 hr19 hw => ?_))
        refine z_pop C dL_law_331 rfl ?_
        refine z_goto C (tgt := 1399) dL_law_332 (by decide) ?_
        refine z_iinc C (v3 + 6) [(3, .int (v3 + 6)), (0, .ref b), (1, .ref ((zXE X).1 0 0)), (2, .ref ((zXE X).1 54 0))] dL_law_1399 3 rfl rfl (by decide) rfl ?_
        refine z_goto C (tgt := 18) dL_law_1402 (by decide) ?_
        exact z_lv [1, 2, 3, 0] rfl hw
      by_cases h5 : ((xs v3.toNatClampNeg) &&& (63 : Int32)) = 5
      · replace hw := hw.2.2.2.2.2.1 h5
        refine z_tabIn C (tgt := 335) dL_law_33 (by rw [h5]; decide) (by rw [h5]; decide) (by rw [h5]; rfl) (by decide) ?_
        refine z_aload_n C dL_law_335 rfl 1 rfl ?_
        refine z_aload_n C dL_law_336 rfl 0 rfl ?_
        refine z_iload_n C dL_law_337 rfl 3 rfl ?_
        refine z_iconst C 1 dL_law_338 (by decide) ?_
        refine z_iadd C dL_law_339 ?_
        refine z_sld C S hw.1 dL_law_340 ?_
        replace hw := hw.2
        refine z_aload_n C dL_law_341 rfl 0 rfl ?_
        refine z_iload_n C dL_law_342 rfl 3 rfl ?_
        refine z_iconst C 2 dL_law_343 (by decide) ?_
        refine z_iadd C dL_law_344 ?_
        refine z_sld C S hw.1 dL_law_345 ?_
        replace hw := hw.2
        refine z_callV C (by decide) M_X8_read Mv_X8_read kw_m_L_39 ob_X8 (t_X8_read hw) rfl rfl (Nat.le_of_ble_eq_true rfl) dL_law_346 (z_kl (fun r21 s22 hw => ?_))
        refine z_pop2 C dL_law_349 rfl ?_
        refine z_aload_n C dL_law_350 rfl 2 rfl ?_
        refine z_aload_n C dL_law_351 rfl 0 rfl ?_
        refine z_iload_n C dL_law_352 rfl 3 rfl ?_
        refine z_iconst C 1 dL_law_353 (by decide) ?_
        refine z_iadd C dL_law_354 ?_
        refine z_sld C S hw.1 dL_law_355 ?_
        replace hw := hw.2
        refine z_aload_n C dL_law_356 rfl 0 rfl ?_
        refine z_iload_n C dL_law_357 rfl 3 rfl ?_
        refine z_iconst C 2 dL_law_358 (by decide) ?_
        refine z_iadd C dL_law_359 ?_
        refine z_sld C S hw.1 dL_law_360 ?_
        replace hw := hw.2
        refine z_callV C (by decide) M_X9_read Mv_X9_read kw_m_L_43 ob_X9 (t_X9_read hw) rfl rfl (Nat.le_of_ble_eq_true rfl) dL_law_361 (z_kl (fun r23 s24 hw => ?_))
        refine z_pop2 C dL_law_364 rfl ?_
        refine z_goto C (tgt := 1399) dL_law_365 (by decide) ?_
        refine z_iinc C (v3 + 6) [(3, .int (v3 + 6)), (0, .ref b), (1, .ref ((zXE X).1 0 0)), (2, .ref ((zXE X).1 54 0))] dL_law_1399 3 rfl rfl (by decide) rfl ?_
        refine z_goto C (tgt := 18) dL_law_1402 (by decide) ?_
        exact z_lv [1, 2, 3, 0] rfl hw
      by_cases h6 : ((xs v3.toNatClampNeg) &&& (63 : Int32)) = 6
      · replace hw := hw.2.2.2.2.2.2.1 h6
        refine z_tabIn C (tgt := 368) dL_law_33 (by rw [h6]; decide) (by rw [h6]; decide) (by rw [h6]; rfl) (by decide) ?_
        refine z_aload_n C dL_law_368 rfl 1 rfl ?_
        refine z_aload_n C dL_law_369 rfl 0 rfl ?_
        refine z_iload_n C dL_law_370 rfl 3 rfl ?_
        refine z_iconst C 1 dL_law_371 (by decide) ?_
        refine z_iadd C dL_law_372 ?_
        refine z_sld C S hw.1 dL_law_373 ?_
        replace hw := hw.2
        refine z_aload_n C dL_law_374 rfl 0 rfl ?_
        refine z_iload_n C dL_law_375 rfl 3 rfl ?_
        refine z_iconst C 2 dL_law_376 (by decide) ?_
        refine z_iadd C dL_law_377 ?_
        refine z_sld C S hw.1 dL_law_378 ?_
        replace hw := hw.2
        refine z_aload_n C dL_law_379 rfl 0 rfl ?_
        refine z_iload_n C dL_law_380 rfl 3 rfl ?_
        refine z_iconst C 3 dL_law_381 (by decide) ?_
        refine z_iadd C dL_law_382 ?_
        refine z_sld C S hw.1 dL_law_383 ?_
        replace hw := hw.2
        refine z_aload_n C dL_law_384 rfl 0 rfl ?_
        refine z_iload_n C dL_law_385 rfl 3 rfl ?_
        refine z_iconst C 4 dL_law_386 (by decide) ?_
        refine z_iadd C dL_law_387 ?_
        refine z_sld C S hw.1 dL_law_388 ?_
        replace hw := hw.2
        refine z_aload_n C dL_law_389 rfl 0 rfl ?_
        refine z_iload_n C dL_law_390 rfl 3 rfl ?_
        refine z_iconst C 5 dL_law_391 (by decide) ?_
        refine z_iadd C dL_law_392 ?_
        refine z_sld C S hw.1 dL_law_393 ?_
        replace hw := hw.2
        refine z_callV C (by decide) M_X8_pour Mv_X8_pour kw_m_L_44 ob_X8 (t_X8_pour hw) rfl rfl (Nat.le_of_ble_eq_true rfl) dL_law_394 (z_kb (fun r25 s26 hr25 hw => ?_))
        refine z_pop C dL_law_397 rfl ?_
        refine z_aload_n C dL_law_398 rfl 2 rfl ?_
        refine z_aload_n C dL_law_399 rfl 0 rfl ?_
        refine z_iload_n C dL_law_400 rfl 3 rfl ?_
        refine z_iconst C 1 dL_law_401 (by decide) ?_
        refine z_iadd C dL_law_402 ?_
        refine z_sld C S hw.1 dL_law_403 ?_
        replace hw := hw.2
        refine z_aload_n C dL_law_404 rfl 0 rfl ?_
        refine z_iload_n C dL_law_405 rfl 3 rfl ?_
        refine z_iconst C 2 dL_law_406 (by decide) ?_
        refine z_iadd C dL_law_407 ?_
        refine z_sld C S hw.1 dL_law_408 ?_
        replace hw := hw.2
        refine z_aload_n C dL_law_409 rfl 0 rfl ?_
        refine z_iload_n C dL_law_410 rfl 3 rfl ?_
        refine z_iconst C 3 dL_law_411 (by decide) ?_
        refine z_iadd C dL_law_412 ?_
        refine z_sld C S hw.1 dL_law_413 ?_
        replace hw := hw.2
        refine z_aload_n C dL_law_414 rfl 0 rfl ?_
        refine z_iload_n C dL_law_415 rfl 3 rfl ?_
        refine z_iconst C 4 dL_law_416 (by decide) ?_
        refine z_iadd C dL_law_417 ?_
        refine z_sld C S hw.1 dL_law_418 ?_
        replace hw := hw.2
        refine z_aload_n C dL_law_419 rfl 0 rfl ?_
        refine z_iload_n C dL_law_420 rfl 3 rfl ?_
        refine z_iconst C 5 dL_law_421 (by decide) ?_
        refine z_iadd C dL_law_422 ?_
        refine z_sld C S hw.1 dL_law_423 ?_
        replace hw := hw.2
        refine z_callV C (by decide) M_X9_pour Mv_X9_pour kw_m_L_48 ob_X9 (t_X9_pour hw) rfl rfl (Nat.le_of_ble_eq_true rfl) dL_law_424 (z_kb (fun r27 s28 hr27 hw => ?_))
        refine z_pop C dL_law_427 rfl ?_
        refine z_goto C (tgt := 1399) dL_law_428 (by decide) ?_
        refine z_iinc C (v3 + 6) [(3, .int (v3 + 6)), (0, .ref b), (1, .ref ((zXE X).1 0 0)), (2, .ref ((zXE X).1 54 0))] dL_law_1399 3 rfl rfl (by decide) rfl ?_
        refine z_goto C (tgt := 18) dL_law_1402 (by decide) ?_
        exact z_lv [1, 2, 3, 0] rfl hw
      by_cases h7 : ((xs v3.toNatClampNeg) &&& (63 : Int32)) = 7
      · replace hw := hw.2.2.2.2.2.2.2.1 h7
        refine z_tabIn C (tgt := 431) dL_law_33 (by rw [h7]; decide) (by rw [h7]; decide) (by rw [h7]; rfl) (by decide) ?_
        refine z_aload_n C dL_law_431 rfl 1 rfl ?_
        refine z_callV C (by decide) M_X8_town Mv_X8_town kw_m_L_49 ob_X8 (t_X8_town hw) rfl rfl (Nat.le_of_ble_eq_true rfl) dL_law_432 (z_ki (fun r29 s30 hw => ?_))
        refine z_pop C dL_law_435 rfl ?_
        refine z_aload_n C dL_law_436 rfl 2 rfl ?_
        refine z_callV C (by decide) M_X9_town Mv_X9_town kw_m_L_52 ob_X9 (t_X9_town hw) rfl rfl (Nat.le_of_ble_eq_true rfl) dL_law_437 (z_ki (fun r31 s32 hw => ?_))
        refine z_pop C dL_law_440 rfl ?_
        refine z_goto C (tgt := 1399) dL_law_441 (by decide) ?_
        refine z_iinc C (v3 + 6) [(3, .int (v3 + 6)), (0, .ref b), (1, .ref ((zXE X).1 0 0)), (2, .ref ((zXE X).1 54 0))] dL_law_1399 3 rfl rfl (by decide) rfl ?_
        refine z_goto C (tgt := 18) dL_law_1402 (by decide) ?_
        exact z_lv [1, 2, 3, 0] rfl hw
      by_cases h8 : ((xs v3.toNatClampNeg) &&& (63 : Int32)) = 8
      · replace hw := hw.2.2.2.2.2.2.2.2.1 h8
        refine z_tabIn C (tgt := 444) dL_law_33 (by rw [h8]; decide) (by rw [h8]; decide) (by rw [h8]; rfl) (by decide) ?_
        refine z_aload_n C dL_law_444 rfl 1 rfl ?_
        refine z_aload_n C dL_law_445 rfl 0 rfl ?_
        refine z_iload_n C dL_law_446 rfl 3 rfl ?_
        refine z_iconst C 1 dL_law_447 (by decide) ?_
        refine z_iadd C dL_law_448 ?_
        refine z_sld C S hw.1 dL_law_449 ?_
        replace hw := hw.2
        refine z_aload_n C dL_law_450 rfl 0 rfl ?_
        refine z_iload_n C dL_law_451 rfl 3 rfl ?_
        refine z_iconst C 2 dL_law_452 (by decide) ?_
        refine z_iadd C dL_law_453 ?_
        refine z_sld C S hw.1 dL_law_454 ?_
        replace hw := hw.2
        refine z_aload_n C dL_law_455 rfl 0 rfl ?_
        refine z_iload_n C dL_law_456 rfl 3 rfl ?_
        refine z_iconst C 3 dL_law_457 (by decide) ?_
        refine z_iadd C dL_law_458 ?_
        refine z_sld C S hw.1 dL_law_459 ?_
        replace hw := hw.2
        refine z_aload_n C dL_law_460 rfl 0 rfl ?_
        refine z_iload_n C dL_law_461 rfl 3 rfl ?_
        refine z_iconst C 4 dL_law_462 (by decide) ?_
        refine z_iadd C dL_law_463 ?_
        refine z_sld C S hw.1 dL_law_464 ?_
        replace hw := hw.2
        refine z_callV C (by decide) M_X8_road Mv_X8_road kw_m_L_53 ob_X8 (t_X8_road hw) rfl rfl (Nat.le_of_ble_eq_true rfl) dL_law_465 (z_kb (fun r33 s34 hr33 hw => ?_))
        refine z_pop C dL_law_468 rfl ?_
        refine z_aload_n C dL_law_469 rfl 2 rfl ?_
        refine z_aload_n C dL_law_470 rfl 0 rfl ?_
        refine z_iload_n C dL_law_471 rfl 3 rfl ?_
        refine z_iconst C 1 dL_law_472 (by decide) ?_
        refine z_iadd C dL_law_473 ?_
        refine z_sld C S hw.1 dL_law_474 ?_
        replace hw := hw.2
        refine z_aload_n C dL_law_475 rfl 0 rfl ?_
        refine z_iload_n C dL_law_476 rfl 3 rfl ?_
        refine z_iconst C 2 dL_law_477 (by decide) ?_
        refine z_iadd C dL_law_478 ?_
        refine z_sld C S hw.1 dL_law_479 ?_
        replace hw := hw.2
        refine z_aload_n C dL_law_480 rfl 0 rfl ?_
        refine z_iload_n C dL_law_481 rfl 3 rfl ?_
        refine z_iconst C 3 dL_law_482 (by decide) ?_
        refine z_iadd C dL_law_483 ?_
        refine z_sld C S hw.1 dL_law_484 ?_
        replace hw := hw.2
        refine z_aload_n C dL_law_485 rfl 0 rfl ?_
        refine z_iload_n C dL_law_486 rfl 3 rfl ?_
        refine z_iconst C 4 dL_law_487 (by decide) ?_
        refine z_iadd C dL_law_488 ?_
        refine z_sld C S hw.1 dL_law_489 ?_
        replace hw := hw.2
        refine z_callV C (by decide) M_X9_road Mv_X9_road kw_m_L_57 ob_X9 (t_X9_road hw) rfl rfl (Nat.le_of_ble_eq_true rfl) dL_law_490 (z_kb (fun r35 s36 hr35 hw => ?_))
        refine z_pop C dL_law_493 rfl ?_
        refine z_goto C (tgt := 1399) dL_law_494 (by decide) ?_
        refine z_iinc C (v3 + 6) [(3, .int (v3 + 6)), (0, .ref b), (1, .ref ((zXE X).1 0 0)), (2, .ref ((zXE X).1 54 0))] dL_law_1399 3 rfl rfl (by decide) rfl ?_
        refine z_goto C (tgt := 18) dL_law_1402 (by decide) ?_
        exact z_lv [1, 2, 3, 0] rfl hw
      by_cases h9 : ((xs v3.toNatClampNeg) &&& (63 : Int32)) = 9
      · replace hw := hw.2.2.2.2.2.2.2.2.2.1 h9
        refine z_tabIn C (tgt := 497) dL_law_33 (by rw [h9]; decide) (by rw [h9]; decide) (by rw [h9]; rfl) (by decide) ?_
        refine z_aload_n C dL_law_497 rfl 1 rfl ?_
        refine z_aload_n C dL_law_498 rfl 0 rfl ?_
        refine z_iload_n C dL_law_499 rfl 3 rfl ?_
        refine z_iconst C 1 dL_law_500 (by decide) ?_
        refine z_iadd C dL_law_501 ?_
        refine z_sld C S hw.1 dL_law_502 ?_
        replace hw := hw.2
        refine z_aload_n C dL_law_503 rfl 0 rfl ?_
        refine z_iload_n C dL_law_504 rfl 3 rfl ?_
        refine z_iconst C 2 dL_law_505 (by decide) ?_
        refine z_iadd C dL_law_506 ?_
        refine z_sld C S hw.1 dL_law_507 ?_
        replace hw := hw.2
        refine z_aload_n C dL_law_508 rfl 0 rfl ?_
        refine z_iload_n C dL_law_509 rfl 3 rfl ?_
        refine z_iconst C 3 dL_law_510 (by decide) ?_
        refine z_iadd C dL_law_511 ?_
        refine z_sld C S hw.1 dL_law_512 ?_
        replace hw := hw.2
        refine z_callV C (by decide) M_X8_fare Mv_X8_fare kw_m_L_58 ob_X8 (t_X8_fare hw) rfl rfl (Nat.le_of_ble_eq_true rfl) dL_law_513 (z_kb (fun r37 s38 hr37 hw => ?_))
        refine z_pop C dL_law_516 rfl ?_
        refine z_aload_n C dL_law_517 rfl 2 rfl ?_
        refine z_aload_n C dL_law_518 rfl 0 rfl ?_
        refine z_iload_n C dL_law_519 rfl 3 rfl ?_
        refine z_iconst C 1 dL_law_520 (by decide) ?_
        refine z_iadd C dL_law_521 ?_
        refine z_sld C S hw.1 dL_law_522 ?_
        replace hw := hw.2
        refine z_aload_n C dL_law_523 rfl 0 rfl ?_
        refine z_iload_n C dL_law_524 rfl 3 rfl ?_
        refine z_iconst C 2 dL_law_525 (by decide) ?_
        refine z_iadd C dL_law_526 ?_
        refine z_sld C S hw.1 dL_law_527 ?_
        replace hw := hw.2
        refine z_aload_n C dL_law_528 rfl 0 rfl ?_
        refine z_iload_n C dL_law_529 rfl 3 rfl ?_
        refine z_iconst C 3 dL_law_530 (by decide) ?_
        refine z_iadd C dL_law_531 ?_
        refine z_sld C S hw.1 dL_law_532 ?_
        replace hw := hw.2
        refine z_callV C (by decide) M_X9_fare Mv_X9_fare kw_m_L_61 ob_X9 (t_X9_fare hw) rfl rfl (Nat.le_of_ble_eq_true rfl) dL_law_533 (z_kb (fun r39 s40 hr39 hw => ?_))
        refine z_pop C dL_law_536 rfl ?_
        refine z_goto C (tgt := 1399) dL_law_537 (by decide) ?_
        refine z_iinc C (v3 + 6) [(3, .int (v3 + 6)), (0, .ref b), (1, .ref ((zXE X).1 0 0)), (2, .ref ((zXE X).1 54 0))] dL_law_1399 3 rfl rfl (by decide) rfl ?_
        refine z_goto C (tgt := 18) dL_law_1402 (by decide) ?_
        exact z_lv [1, 2, 3, 0] rfl hw
      by_cases h10 : ((xs v3.toNatClampNeg) &&& (63 : Int32)) = 10
      · replace hw := hw.2.2.2.2.2.2.2.2.2.2.1 h10
        refine z_tabIn C (tgt := 540) dL_law_33 (by rw [h10]; decide) (by rw [h10]; decide) (by rw [h10]; rfl) (by decide) ?_
        refine z_aload_n C dL_law_540 rfl 1 rfl ?_
        refine z_aload_n C dL_law_541 rfl 0 rfl ?_
        refine z_iload_n C dL_law_542 rfl 3 rfl ?_
        refine z_iconst C 1 dL_law_543 (by decide) ?_
        refine z_iadd C dL_law_544 ?_
        refine z_sld C S hw.1 dL_law_545 ?_
        replace hw := hw.2
        refine z_callV C (by decide) M_X8_bird Mv_X8_bird kw_m_L_62 ob_X8 (t_X8_bird hw) rfl rfl (Nat.le_of_ble_eq_true rfl) dL_law_546 (z_ki (fun r41 s42 hw => ?_))
        refine z_pop C dL_law_549 rfl ?_
        refine z_aload_n C dL_law_550 rfl 2 rfl ?_
        refine z_aload_n C dL_law_551 rfl 0 rfl ?_
        refine z_iload_n C dL_law_552 rfl 3 rfl ?_
        refine z_iconst C 1 dL_law_553 (by decide) ?_
        refine z_iadd C dL_law_554 ?_
        refine z_sld C S hw.1 dL_law_555 ?_
        replace hw := hw.2
        refine z_callV C (by decide) M_X9_bird Mv_X9_bird kw_m_L_66 ob_X9 (t_X9_bird hw) rfl rfl (Nat.le_of_ble_eq_true rfl) dL_law_556 (z_ki (fun r43 s44 hw => ?_))
        refine z_pop C dL_law_559 rfl ?_
        refine z_goto C (tgt := 1399) dL_law_560 (by decide) ?_
        refine z_iinc C (v3 + 6) [(3, .int (v3 + 6)), (0, .ref b), (1, .ref ((zXE X).1 0 0)), (2, .ref ((zXE X).1 54 0))] dL_law_1399 3 rfl rfl (by decide) rfl ?_
        refine z_goto C (tgt := 18) dL_law_1402 (by decide) ?_
        exact z_lv [1, 2, 3, 0] rfl hw
      by_cases h11 : ((xs v3.toNatClampNeg) &&& (63 : Int32)) = 11
      · replace hw := hw.2.2.2.2.2.2.2.2.2.2.2.1 h11
        refine z_tabIn C (tgt := 563) dL_law_33 (by rw [h11]; decide) (by rw [h11]; decide) (by rw [h11]; rfl) (by decide) ?_
        refine z_aload_n C dL_law_563 rfl 1 rfl ?_
        refine z_aload_n C dL_law_564 rfl 0 rfl ?_
        refine z_iload_n C dL_law_565 rfl 3 rfl ?_
        refine z_iconst C 1 dL_law_566 (by decide) ?_
        refine z_iadd C dL_law_567 ?_
        refine z_sld C S hw.1 dL_law_568 ?_
        replace hw := hw.2
        refine z_aload_n C dL_law_569 rfl 0 rfl ?_
        refine z_iload_n C dL_law_570 rfl 3 rfl ?_
        refine z_iconst C 2 dL_law_571 (by decide) ?_
        refine z_iadd C dL_law_572 ?_
        refine z_sld C S hw.1 dL_law_573 ?_
        replace hw := hw.2
        refine z_callV C (by decide) M_X8_carry Mv_X8_carry kw_m_L_67 ob_X8 (t_X8_carry hw) rfl rfl (Nat.le_of_ble_eq_true rfl) dL_law_574 (z_kb (fun r45 s46 hr45 hw => ?_))
        refine z_pop C dL_law_577 rfl ?_
        refine z_aload_n C dL_law_578 rfl 2 rfl ?_
        refine z_aload_n C dL_law_579 rfl 0 rfl ?_
        refine z_iload_n C dL_law_580 rfl 3 rfl ?_
        refine z_iconst C 1 dL_law_581 (by decide) ?_
        refine z_iadd C dL_law_582 ?_
        refine z_sld C S hw.1 dL_law_583 ?_
        replace hw := hw.2
        refine z_aload_n C dL_law_584 rfl 0 rfl ?_
        refine z_iload_n C dL_law_585 rfl 3 rfl ?_
        refine z_iconst C 2 dL_law_586 (by decide) ?_
        refine z_iadd C dL_law_587 ?_
        refine z_sld C S hw.1 dL_law_588 ?_
        replace hw := hw.2
        refine z_callV C (by decide) M_X9_carry Mv_X9_carry kw_m_L_71 ob_X9 (t_X9_carry hw) rfl rfl (Nat.le_of_ble_eq_true rfl) dL_law_589 (z_kb (fun r47 s48 hr47 hw => ?_))
        refine z_pop C dL_law_592 rfl ?_
        refine z_goto C (tgt := 1399) dL_law_593 (by decide) ?_
        refine z_iinc C (v3 + 6) [(3, .int (v3 + 6)), (0, .ref b), (1, .ref ((zXE X).1 0 0)), (2, .ref ((zXE X).1 54 0))] dL_law_1399 3 rfl rfl (by decide) rfl ?_
        refine z_goto C (tgt := 18) dL_law_1402 (by decide) ?_
        exact z_lv [1, 2, 3, 0] rfl hw
      by_cases h12 : ((xs v3.toNatClampNeg) &&& (63 : Int32)) = 12
      · replace hw := hw.2.2.2.2.2.2.2.2.2.2.2.2.1 h12
        refine z_tabIn C (tgt := 596) dL_law_33 (by rw [h12]; decide) (by rw [h12]; decide) (by rw [h12]; rfl) (by decide) ?_
        refine z_aload_n C dL_law_596 rfl 1 rfl ?_
        refine z_aload_n C dL_law_597 rfl 0 rfl ?_
        refine z_iload_n C dL_law_598 rfl 3 rfl ?_
        refine z_iconst C 1 dL_law_599 (by decide) ?_
        refine z_iadd C dL_law_600 ?_
        refine z_sld C S hw.1 dL_law_601 ?_
        replace hw := hw.2
        refine z_aload_n C dL_law_602 rfl 0 rfl ?_
        refine z_iload_n C dL_law_603 rfl 3 rfl ?_
        refine z_iconst C 2 dL_law_604 (by decide) ?_
        refine z_iadd C dL_law_605 ?_
        refine z_sld C S hw.1 dL_law_606 ?_
        replace hw := hw.2
        refine z_callV C (by decide) M_X8_told Mv_X8_told kw_m_L_72 ob_X8 (t_X8_told hw) rfl rfl (Nat.le_of_ble_eq_true rfl) dL_law_607 (z_ki (fun r49 s50 hw => ?_))
        refine z_pop C dL_law_610 rfl ?_
        refine z_aload_n C dL_law_611 rfl 2 rfl ?_
        refine z_aload_n C dL_law_612 rfl 0 rfl ?_
        refine z_iload_n C dL_law_613 rfl 3 rfl ?_
        refine z_iconst C 1 dL_law_614 (by decide) ?_
        refine z_iadd C dL_law_615 ?_
        refine z_sld C S hw.1 dL_law_616 ?_
        replace hw := hw.2
        refine z_aload_n C dL_law_617 rfl 0 rfl ?_
        refine z_iload_n C dL_law_618 rfl 3 rfl ?_
        refine z_iconst C 2 dL_law_619 (by decide) ?_
        refine z_iadd C dL_law_620 ?_
        refine z_sld C S hw.1 dL_law_621 ?_
        replace hw := hw.2
        refine z_callV C (by decide) M_X9_told Mv_X9_told kw_m_L_76 ob_X9 (t_X9_told hw) rfl rfl (Nat.le_of_ble_eq_true rfl) dL_law_622 (z_ki (fun r51 s52 hw => ?_))
        refine z_pop C dL_law_625 rfl ?_
        refine z_goto C (tgt := 1399) dL_law_626 (by decide) ?_
        refine z_iinc C (v3 + 6) [(3, .int (v3 + 6)), (0, .ref b), (1, .ref ((zXE X).1 0 0)), (2, .ref ((zXE X).1 54 0))] dL_law_1399 3 rfl rfl (by decide) rfl ?_
        refine z_goto C (tgt := 18) dL_law_1402 (by decide) ?_
        exact z_lv [1, 2, 3, 0] rfl hw
      by_cases h13 : ((xs v3.toNatClampNeg) &&& (63 : Int32)) = 13
      · replace hw := hw.2.2.2.2.2.2.2.2.2.2.2.2.2.1 h13
        refine z_tabIn C (tgt := 629) dL_law_33 (by rw [h13]; decide) (by rw [h13]; decide) (by rw [h13]; rfl) (by decide) ?_
        refine z_aload_n C dL_law_629 rfl 1 rfl ?_
        refine z_aload_n C dL_law_630 rfl 0 rfl ?_
        refine z_iload_n C dL_law_631 rfl 3 rfl ?_
        refine z_iconst C 1 dL_law_632 (by decide) ?_
        refine z_iadd C dL_law_633 ?_
        refine z_sld C S hw.1 dL_law_634 ?_
        replace hw := hw.2
        refine z_aload_n C dL_law_635 rfl 0 rfl ?_
        refine z_iload_n C dL_law_636 rfl 3 rfl ?_
        refine z_iconst C 2 dL_law_637 (by decide) ?_
        refine z_iadd C dL_law_638 ?_
        refine z_sld C S hw.1 dL_law_639 ?_
        replace hw := hw.2
        refine z_callV C (by decide) M_X8_waits Mv_X8_waits kw_m_L_77 ob_X8 (t_X8_waits hw) rfl rfl (Nat.le_of_ble_eq_true rfl) dL_law_640 (z_ki (fun r53 s54 hw => ?_))
        refine z_pop C dL_law_643 rfl ?_
        refine z_aload_n C dL_law_644 rfl 2 rfl ?_
        refine z_aload_n C dL_law_645 rfl 0 rfl ?_
        refine z_iload_n C dL_law_646 rfl 3 rfl ?_
        refine z_iconst C 1 dL_law_647 (by decide) ?_
        refine z_iadd C dL_law_648 ?_
        refine z_sld C S hw.1 dL_law_649 ?_
        replace hw := hw.2
        refine z_aload_n C dL_law_650 rfl 0 rfl ?_
        refine z_iload_n C dL_law_651 rfl 3 rfl ?_
        refine z_iconst C 2 dL_law_652 (by decide) ?_
        refine z_iadd C dL_law_653 ?_
        refine z_sld C S hw.1 dL_law_654 ?_
        replace hw := hw.2
        refine z_callV C (by decide) M_X9_waits Mv_X9_waits kw_m_L_80 ob_X9 (t_X9_waits hw) rfl rfl (Nat.le_of_ble_eq_true rfl) dL_law_655 (z_ki (fun r55 s56 hw => ?_))
        refine z_pop C dL_law_658 rfl ?_
        refine z_goto C (tgt := 1399) dL_law_659 (by decide) ?_
        refine z_iinc C (v3 + 6) [(3, .int (v3 + 6)), (0, .ref b), (1, .ref ((zXE X).1 0 0)), (2, .ref ((zXE X).1 54 0))] dL_law_1399 3 rfl rfl (by decide) rfl ?_
        refine z_goto C (tgt := 18) dL_law_1402 (by decide) ?_
        exact z_lv [1, 2, 3, 0] rfl hw
      by_cases h14 : ((xs v3.toNatClampNeg) &&& (63 : Int32)) = 14
      · replace hw := hw.2.2.2.2.2.2.2.2.2.2.2.2.2.2.1 h14
        refine z_tabIn C (tgt := 662) dL_law_33 (by rw [h14]; decide) (by rw [h14]; decide) (by rw [h14]; rfl) (by decide) ?_
        refine z_aload_n C dL_law_662 rfl 1 rfl ?_
        refine z_aload_n C dL_law_663 rfl 0 rfl ?_
        refine z_iload_n C dL_law_664 rfl 3 rfl ?_
        refine z_iconst C 1 dL_law_665 (by decide) ?_
        refine z_iadd C dL_law_666 ?_
        refine z_sld C S hw.1 dL_law_667 ?_
        replace hw := hw.2
        refine z_aload_n C dL_law_668 rfl 0 rfl ?_
        refine z_iload_n C dL_law_669 rfl 3 rfl ?_
        refine z_iconst C 2 dL_law_670 (by decide) ?_
        refine z_iadd C dL_law_671 ?_
        refine z_sld C S hw.1 dL_law_672 ?_
        replace hw := hw.2
        refine z_aload_n C dL_law_673 rfl 0 rfl ?_
        refine z_iload_n C dL_law_674 rfl 3 rfl ?_
        refine z_iconst C 3 dL_law_675 (by decide) ?_
        refine z_iadd C dL_law_676 ?_
        refine z_sld C S hw.1 dL_law_677 ?_
        replace hw := hw.2
        refine z_callV C (by decide) M_X8_sure Mv_X8_sure kw_m_L_81 ob_X8 (t_X8_sure hw) rfl rfl (Nat.le_of_ble_eq_true rfl) dL_law_678 (z_ki (fun r57 s58 hw => ?_))
        refine z_pop C dL_law_681 rfl ?_
        refine z_aload_n C dL_law_682 rfl 2 rfl ?_
        refine z_aload_n C dL_law_683 rfl 0 rfl ?_
        refine z_iload_n C dL_law_684 rfl 3 rfl ?_
        refine z_iconst C 1 dL_law_685 (by decide) ?_
        refine z_iadd C dL_law_686 ?_
        refine z_sld C S hw.1 dL_law_687 ?_
        replace hw := hw.2
        refine z_aload_n C dL_law_688 rfl 0 rfl ?_
        refine z_iload_n C dL_law_689 rfl 3 rfl ?_
        refine z_iconst C 2 dL_law_690 (by decide) ?_
        refine z_iadd C dL_law_691 ?_
        refine z_sld C S hw.1 dL_law_692 ?_
        replace hw := hw.2
        refine z_aload_n C dL_law_693 rfl 0 rfl ?_
        refine z_iload_n C dL_law_694 rfl 3 rfl ?_
        refine z_iconst C 3 dL_law_695 (by decide) ?_
        refine z_iadd C dL_law_696 ?_
        refine z_sld C S hw.1 dL_law_697 ?_
        replace hw := hw.2
        refine z_callV C (by decide) M_X9_sure Mv_X9_sure kw_m_L_85 ob_X9 (t_X9_sure hw) rfl rfl (Nat.le_of_ble_eq_true rfl) dL_law_698 (z_ki (fun r59 s60 hw => ?_))
        refine z_pop C dL_law_701 rfl ?_
        refine z_goto C (tgt := 1399) dL_law_702 (by decide) ?_
        refine z_iinc C (v3 + 6) [(3, .int (v3 + 6)), (0, .ref b), (1, .ref ((zXE X).1 0 0)), (2, .ref ((zXE X).1 54 0))] dL_law_1399 3 rfl rfl (by decide) rfl ?_
        refine z_goto C (tgt := 18) dL_law_1402 (by decide) ?_
        exact z_lv [1, 2, 3, 0] rfl hw
      by_cases h15 : ((xs v3.toNatClampNeg) &&& (63 : Int32)) = 15
      · replace hw := hw.2.2.2.2.2.2.2.2.2.2.2.2.2.2.2.1 h15
        refine z_tabIn C (tgt := 705) dL_law_33 (by rw [h15]; decide) (by rw [h15]; decide) (by rw [h15]; rfl) (by decide) ?_
        refine z_aload_n C dL_law_705 rfl 1 rfl ?_
        refine z_aload_n C dL_law_706 rfl 0 rfl ?_
        refine z_iload_n C dL_law_707 rfl 3 rfl ?_
        refine z_iconst C 1 dL_law_708 (by decide) ?_
        refine z_iadd C dL_law_709 ?_
        refine z_sld C S hw.1 dL_law_710 ?_
        replace hw := hw.2
        refine z_aload_n C dL_law_711 rfl 0 rfl ?_
        refine z_iload_n C dL_law_712 rfl 3 rfl ?_
        refine z_iconst C 2 dL_law_713 (by decide) ?_
        refine z_iadd C dL_law_714 ?_
        refine z_sld C S hw.1 dL_law_715 ?_
        replace hw := hw.2
        refine z_aload_n C dL_law_716 rfl 0 rfl ?_
        refine z_iload_n C dL_law_717 rfl 3 rfl ?_
        refine z_iconst C 3 dL_law_718 (by decide) ?_
        refine z_iadd C dL_law_719 ?_
        refine z_sld C S hw.1 dL_law_720 ?_
        replace hw := hw.2
        refine z_aload_n C dL_law_721 rfl 0 rfl ?_
        refine z_iload_n C dL_law_722 rfl 3 rfl ?_
        refine z_iconst C 4 dL_law_723 (by decide) ?_
        refine z_iadd C dL_law_724 ?_
        refine z_sld C S hw.1 dL_law_725 ?_
        replace hw := hw.2
        refine z_callV C (by decide) M_X8_doubles Mv_X8_doubles kw_m_L_86 ob_X8 (t_X8_doubles hw) rfl rfl (Nat.le_of_ble_eq_true rfl) dL_law_726 (z_ki (fun r61 s62 hw => ?_))
        refine z_pop C dL_law_729 rfl ?_
        refine z_aload_n C dL_law_730 rfl 2 rfl ?_
        refine z_aload_n C dL_law_731 rfl 0 rfl ?_
        refine z_iload_n C dL_law_732 rfl 3 rfl ?_
        refine z_iconst C 1 dL_law_733 (by decide) ?_
        refine z_iadd C dL_law_734 ?_
        refine z_sld C S hw.1 dL_law_735 ?_
        replace hw := hw.2
        refine z_aload_n C dL_law_736 rfl 0 rfl ?_
        refine z_iload_n C dL_law_737 rfl 3 rfl ?_
        refine z_iconst C 2 dL_law_738 (by decide) ?_
        refine z_iadd C dL_law_739 ?_
        refine z_sld C S hw.1 dL_law_740 ?_
        replace hw := hw.2
        refine z_aload_n C dL_law_741 rfl 0 rfl ?_
        refine z_iload_n C dL_law_742 rfl 3 rfl ?_
        refine z_iconst C 3 dL_law_743 (by decide) ?_
        refine z_iadd C dL_law_744 ?_
        refine z_sld C S hw.1 dL_law_745 ?_
        replace hw := hw.2
        refine z_aload_n C dL_law_746 rfl 0 rfl ?_
        refine z_iload_n C dL_law_747 rfl 3 rfl ?_
        refine z_iconst C 4 dL_law_748 (by decide) ?_
        refine z_iadd C dL_law_749 ?_
        refine z_sld C S hw.1 dL_law_750 ?_
        replace hw := hw.2
        refine z_callV C (by decide) M_X9_doubles Mv_X9_doubles kw_m_L_90 ob_X9 (t_X9_doubles hw) rfl rfl (Nat.le_of_ble_eq_true rfl) dL_law_751 (z_ki (fun r63 s64 hw => ?_))
        refine z_pop C dL_law_754 rfl ?_
        refine z_goto C (tgt := 1399) dL_law_755 (by decide) ?_
        refine z_iinc C (v3 + 6) [(3, .int (v3 + 6)), (0, .ref b), (1, .ref ((zXE X).1 0 0)), (2, .ref ((zXE X).1 54 0))] dL_law_1399 3 rfl rfl (by decide) rfl ?_
        refine z_goto C (tgt := 18) dL_law_1402 (by decide) ?_
        exact z_lv [1, 2, 3, 0] rfl hw
      by_cases h16 : ((xs v3.toNatClampNeg) &&& (63 : Int32)) = 16
      · replace hw := hw.2.2.2.2.2.2.2.2.2.2.2.2.2.2.2.2.1 h16
        refine z_tabIn C (tgt := 758) dL_law_33 (by rw [h16]; decide) (by rw [h16]; decide) (by rw [h16]; rfl) (by decide) ?_
        refine z_aload_n C dL_law_758 rfl 1 rfl ?_
        refine z_aload_n C dL_law_759 rfl 0 rfl ?_
        refine z_iload_n C dL_law_760 rfl 3 rfl ?_
        refine z_iconst C 1 dL_law_761 (by decide) ?_
        refine z_iadd C dL_law_762 ?_
        refine z_sld C S hw.1 dL_law_763 ?_
        replace hw := hw.2
        refine z_aload_n C dL_law_764 rfl 0 rfl ?_
        refine z_iload_n C dL_law_765 rfl 3 rfl ?_
        refine z_iconst C 2 dL_law_766 (by decide) ?_
        refine z_iadd C dL_law_767 ?_
        refine z_sld C S hw.1 dL_law_768 ?_
        replace hw := hw.2
        refine z_aload_n C dL_law_769 rfl 0 rfl ?_
        refine z_iload_n C dL_law_770 rfl 3 rfl ?_
        refine z_iconst C 3 dL_law_771 (by decide) ?_
        refine z_iadd C dL_law_772 ?_
        refine z_sld C S hw.1 dL_law_773 ?_
        replace hw := hw.2
        refine z_aload_n C dL_law_774 rfl 0 rfl ?_
        refine z_iload_n C dL_law_775 rfl 3 rfl ?_
        refine z_iconst C 4 dL_law_776 (by decide) ?_
        refine z_iadd C dL_law_777 ?_
        refine z_sld C S hw.1 dL_law_778 ?_
        replace hw := hw.2
        refine z_callV C (by decide) M_X8_relay Mv_X8_relay kw_m_L_91 ob_X8 (t_X8_relay hw) rfl rfl (Nat.le_of_ble_eq_true rfl) dL_law_779 (z_ki (fun r65 s66 hw => ?_))
        refine z_pop C dL_law_782 rfl ?_
        refine z_aload_n C dL_law_783 rfl 2 rfl ?_
        refine z_aload_n C dL_law_784 rfl 0 rfl ?_
        refine z_iload_n C dL_law_785 rfl 3 rfl ?_
        refine z_iconst C 1 dL_law_786 (by decide) ?_
        refine z_iadd C dL_law_787 ?_
        refine z_sld C S hw.1 dL_law_788 ?_
        replace hw := hw.2
        refine z_aload_n C dL_law_789 rfl 0 rfl ?_
        refine z_iload_n C dL_law_790 rfl 3 rfl ?_
        refine z_iconst C 2 dL_law_791 (by decide) ?_
        refine z_iadd C dL_law_792 ?_
        refine z_sld C S hw.1 dL_law_793 ?_
        replace hw := hw.2
        refine z_aload_n C dL_law_794 rfl 0 rfl ?_
        refine z_iload_n C dL_law_795 rfl 3 rfl ?_
        refine z_iconst C 3 dL_law_796 (by decide) ?_
        refine z_iadd C dL_law_797 ?_
        refine z_sld C S hw.1 dL_law_798 ?_
        replace hw := hw.2
        refine z_aload_n C dL_law_799 rfl 0 rfl ?_
        refine z_iload_n C dL_law_800 rfl 3 rfl ?_
        refine z_iconst C 4 dL_law_801 (by decide) ?_
        refine z_iadd C dL_law_802 ?_
        refine z_sld C S hw.1 dL_law_803 ?_
        replace hw := hw.2
        refine z_callV C (by decide) M_X9_relay Mv_X9_relay kw_m_L_94 ob_X9 (t_X9_relay hw) rfl rfl (Nat.le_of_ble_eq_true rfl) dL_law_804 (z_ki (fun r67 s68 hw => ?_))
        refine z_pop C dL_law_807 rfl ?_
        refine z_goto C (tgt := 1399) dL_law_808 (by decide) ?_
        refine z_iinc C (v3 + 6) [(3, .int (v3 + 6)), (0, .ref b), (1, .ref ((zXE X).1 0 0)), (2, .ref ((zXE X).1 54 0))] dL_law_1399 3 rfl rfl (by decide) rfl ?_
        refine z_goto C (tgt := 18) dL_law_1402 (by decide) ?_
        exact z_lv [1, 2, 3, 0] rfl hw
      by_cases h17 : ((xs v3.toNatClampNeg) &&& (63 : Int32)) = 17
      · replace hw := hw.2.2.2.2.2.2.2.2.2.2.2.2.2.2.2.2.2.1 h17
        refine z_tabIn C (tgt := 811) dL_law_33 (by rw [h17]; decide) (by rw [h17]; decide) (by rw [h17]; rfl) (by decide) ?_
        refine z_aload_n C dL_law_811 rfl 1 rfl ?_
        refine z_aload_n C dL_law_812 rfl 0 rfl ?_
        refine z_iload_n C dL_law_813 rfl 3 rfl ?_
        refine z_iconst C 1 dL_law_814 (by decide) ?_
        refine z_iadd C dL_law_815 ?_
        refine z_sld C S hw.1 dL_law_816 ?_
        replace hw := hw.2
        refine z_aload_n C dL_law_817 rfl 0 rfl ?_
        refine z_iload_n C dL_law_818 rfl 3 rfl ?_
        refine z_iconst C 2 dL_law_819 (by decide) ?_
        refine z_iadd C dL_law_820 ?_
        refine z_sld C S hw.1 dL_law_821 ?_
        replace hw := hw.2
        refine z_callV C (by decide) M_X8_leg Mv_X8_leg kw_m_L_95 ob_X8 (t_X8_leg hw) rfl rfl (Nat.le_of_ble_eq_true rfl) dL_law_822 (z_ki (fun r69 s70 hw => ?_))
        refine z_pop C dL_law_825 rfl ?_
        refine z_aload_n C dL_law_826 rfl 2 rfl ?_
        refine z_aload_n C dL_law_827 rfl 0 rfl ?_
        refine z_iload_n C dL_law_828 rfl 3 rfl ?_
        refine z_iconst C 1 dL_law_829 (by decide) ?_
        refine z_iadd C dL_law_830 ?_
        refine z_sld C S hw.1 dL_law_831 ?_
        replace hw := hw.2
        refine z_aload_n C dL_law_832 rfl 0 rfl ?_
        refine z_iload_n C dL_law_833 rfl 3 rfl ?_
        refine z_iconst C 2 dL_law_834 (by decide) ?_
        refine z_iadd C dL_law_835 ?_
        refine z_sld C S hw.1 dL_law_836 ?_
        replace hw := hw.2
        refine z_callV C (by decide) M_X9_leg Mv_X9_leg kw_m_L_98 ob_X9 (t_X9_leg hw) rfl rfl (Nat.le_of_ble_eq_true rfl) dL_law_837 (z_ki (fun r71 s72 hw => ?_))
        refine z_pop C dL_law_840 rfl ?_
        refine z_goto C (tgt := 1399) dL_law_841 (by decide) ?_
        refine z_iinc C (v3 + 6) [(3, .int (v3 + 6)), (0, .ref b), (1, .ref ((zXE X).1 0 0)), (2, .ref ((zXE X).1 54 0))] dL_law_1399 3 rfl rfl (by decide) rfl ?_
        refine z_goto C (tgt := 18) dL_law_1402 (by decide) ?_
        exact z_lv [1, 2, 3, 0] rfl hw
      by_cases h18 : ((xs v3.toNatClampNeg) &&& (63 : Int32)) = 18
      · replace hw := hw.2.2.2.2.2.2.2.2.2.2.2.2.2.2.2.2.2.2.1 h18
        refine z_tabIn C (tgt := 844) dL_law_33 (by rw [h18]; decide) (by rw [h18]; decide) (by rw [h18]; rfl) (by decide) ?_
        refine z_aload_n C dL_law_844 rfl 1 rfl ?_
        refine z_aload_n C dL_law_845 rfl 0 rfl ?_
        refine z_iload_n C dL_law_846 rfl 3 rfl ?_
        refine z_iconst C 1 dL_law_847 (by decide) ?_
        refine z_iadd C dL_law_848 ?_
        refine z_sld C S hw.1 dL_law_849 ?_
        replace hw := hw.2
        refine z_aload_n C dL_law_850 rfl 0 rfl ?_
        refine z_iload_n C dL_law_851 rfl 3 rfl ?_
        refine z_iconst C 2 dL_law_852 (by decide) ?_
        refine z_iadd C dL_law_853 ?_
        refine z_sld C S hw.1 dL_law_854 ?_
        replace hw := hw.2
        refine z_aload_n C dL_law_855 rfl 0 rfl ?_
        refine z_iload_n C dL_law_856 rfl 3 rfl ?_
        refine z_iconst C 3 dL_law_857 (by decide) ?_
        refine z_iadd C dL_law_858 ?_
        refine z_sld C S hw.1 dL_law_859 ?_
        replace hw := hw.2
        refine z_aload_n C dL_law_860 rfl 0 rfl ?_
        refine z_iload_n C dL_law_861 rfl 3 rfl ?_
        refine z_iconst C 4 dL_law_862 (by decide) ?_
        refine z_iadd C dL_law_863 ?_
        refine z_sld C S hw.1 dL_law_864 ?_
        replace hw := hw.2
        refine z_callV C (by decide) M_X8_want Mv_X8_want kw_m_L_99 ob_X8 (t_X8_want hw) rfl rfl (Nat.le_of_ble_eq_true rfl) dL_law_865 (z_kb (fun r73 s74 hr73 hw => ?_))
        refine z_aload_n C dL_law_868 rfl 2 rfl ?_
        refine z_aload_n C dL_law_869 rfl 0 rfl ?_
        refine z_iload_n C dL_law_870 rfl 3 rfl ?_
        refine z_iconst C 1 dL_law_871 (by decide) ?_
        refine z_iadd C dL_law_872 ?_
        refine z_sld C S hw.1 dL_law_873 ?_
        replace hw := hw.2
        refine z_aload_n C dL_law_874 rfl 0 rfl ?_
        refine z_iload_n C dL_law_875 rfl 3 rfl ?_
        refine z_iconst C 2 dL_law_876 (by decide) ?_
        refine z_iadd C dL_law_877 ?_
        refine z_sld C S hw.1 dL_law_878 ?_
        replace hw := hw.2
        refine z_aload_n C dL_law_879 rfl 0 rfl ?_
        refine z_iload_n C dL_law_880 rfl 3 rfl ?_
        refine z_iconst C 3 dL_law_881 (by decide) ?_
        refine z_iadd C dL_law_882 ?_
        refine z_sld C S hw.1 dL_law_883 ?_
        replace hw := hw.2
        refine z_aload_n C dL_law_884 rfl 0 rfl ?_
        refine z_iload_n C dL_law_885 rfl 3 rfl ?_
        refine z_iconst C 4 dL_law_886 (by decide) ?_
        refine z_iadd C dL_law_887 ?_
        refine z_sld C S hw.1 dL_law_888 ?_
        replace hw := hw.2
        refine z_callV C (by decide) M_X9_want Mv_X9_want kw_m_L_102 ob_X9 (t_X9_want hw) rfl rfl (Nat.le_of_ble_eq_true rfl) dL_law_889 (z_kb (fun r75 s76 hr75 hw => ?_))
        refine z_icmp_eq C (tgt := 1399) dL_law_892 (by decide) (fun h => ?_) (fun h => ?_)
        · replace hw := hw.1 h
          refine z_iinc C (v3 + 6) [(3, .int (v3 + 6)), (0, .ref b), (1, .ref ((zXE X).1 0 0)), (2, .ref ((zXE X).1 54 0))] dL_law_1399 3 rfl rfl (by decide) rfl ?_
          refine z_goto C (tgt := 18) dL_law_1402 (by decide) ?_
          exact z_lv [1, 2, 3, 0] rfl hw
        · replace hw := hw.2 h
          refine z_iconst C 0 dL_law_895 (by decide) ?_
          refine lw_zret C S dL_law_896 ?_
          exact hw
      by_cases h19 : ((xs v3.toNatClampNeg) &&& (63 : Int32)) = 19
      · replace hw := hw.2.2.2.2.2.2.2.2.2.2.2.2.2.2.2.2.2.2.2.1 h19
        refine z_tabIn C (tgt := 897) dL_law_33 (by rw [h19]; decide) (by rw [h19]; decide) (by rw [h19]; rfl) (by decide) ?_
        refine z_aload_n C dL_law_897 rfl 1 rfl ?_
        refine z_aload_n C dL_law_898 rfl 0 rfl ?_
        refine z_iload_n C dL_law_899 rfl 3 rfl ?_
        refine z_iconst C 1 dL_law_900 (by decide) ?_
        refine z_iadd C dL_law_901 ?_
        refine z_sld C S hw.1 dL_law_902 ?_
        replace hw := hw.2
        refine z_aload_n C dL_law_903 rfl 0 rfl ?_
        refine z_iload_n C dL_law_904 rfl 3 rfl ?_
        refine z_iconst C 2 dL_law_905 (by decide) ?_
        refine z_iadd C dL_law_906 ?_
        refine z_sld C S hw.1 dL_law_907 ?_
        replace hw := hw.2
        refine z_callV C (by decide) M_X8_lack Mv_X8_lack kw_m_L_103 ob_X8 (t_X8_lack hw) rfl rfl (Nat.le_of_ble_eq_true rfl) dL_law_908 (z_ki (fun r77 s78 hw => ?_))
        refine z_pop C dL_law_911 rfl ?_
        refine z_aload_n C dL_law_912 rfl 2 rfl ?_
        refine z_aload_n C dL_law_913 rfl 0 rfl ?_
        refine z_iload_n C dL_law_914 rfl 3 rfl ?_
        refine z_iconst C 1 dL_law_915 (by decide) ?_
        refine z_iadd C dL_law_916 ?_
        refine z_sld C S hw.1 dL_law_917 ?_
        replace hw := hw.2
        refine z_aload_n C dL_law_918 rfl 0 rfl ?_
        refine z_iload_n C dL_law_919 rfl 3 rfl ?_
        refine z_iconst C 2 dL_law_920 (by decide) ?_
        refine z_iadd C dL_law_921 ?_
        refine z_sld C S hw.1 dL_law_922 ?_
        replace hw := hw.2
        refine z_callV C (by decide) M_X9_lack Mv_X9_lack kw_m_L_106 ob_X9 (t_X9_lack hw) rfl rfl (Nat.le_of_ble_eq_true rfl) dL_law_923 (z_ki (fun r79 s80 hw => ?_))
        refine z_pop C dL_law_926 rfl ?_
        refine z_goto C (tgt := 1399) dL_law_927 (by decide) ?_
        refine z_iinc C (v3 + 6) [(3, .int (v3 + 6)), (0, .ref b), (1, .ref ((zXE X).1 0 0)), (2, .ref ((zXE X).1 54 0))] dL_law_1399 3 rfl rfl (by decide) rfl ?_
        refine z_goto C (tgt := 18) dL_law_1402 (by decide) ?_
        exact z_lv [1, 2, 3, 0] rfl hw
      by_cases h20 : ((xs v3.toNatClampNeg) &&& (63 : Int32)) = 20
      · replace hw := hw.2.2.2.2.2.2.2.2.2.2.2.2.2.2.2.2.2.2.2.2.1 h20
        refine z_tabIn C (tgt := 930) dL_law_33 (by rw [h20]; decide) (by rw [h20]; decide) (by rw [h20]; rfl) (by decide) ?_
        refine z_aload_n C dL_law_930 rfl 1 rfl ?_
        refine z_aload_n C dL_law_931 rfl 0 rfl ?_
        refine z_iload_n C dL_law_932 rfl 3 rfl ?_
        refine z_iconst C 1 dL_law_933 (by decide) ?_
        refine z_iadd C dL_law_934 ?_
        refine z_sld C S hw.1 dL_law_935 ?_
        replace hw := hw.2
        refine z_callV C (by decide) M_X8_carrying Mv_X8_carrying kw_m_L_107 ob_X8 (t_X8_carrying hw) rfl rfl (Nat.le_of_ble_eq_true rfl) dL_law_936 (z_ki (fun r81 s82 hw => ?_))
        refine z_pop C dL_law_939 rfl ?_
        refine z_aload_n C dL_law_940 rfl 2 rfl ?_
        refine z_aload_n C dL_law_941 rfl 0 rfl ?_
        refine z_iload_n C dL_law_942 rfl 3 rfl ?_
        refine z_iconst C 1 dL_law_943 (by decide) ?_
        refine z_iadd C dL_law_944 ?_
        refine z_sld C S hw.1 dL_law_945 ?_
        replace hw := hw.2
        refine z_callV C (by decide) M_X9_carrying Mv_X9_carrying kw_m_L_110 ob_X9 (t_X9_carrying hw) rfl rfl (Nat.le_of_ble_eq_true rfl) dL_law_946 (z_ki (fun r83 s84 hw => ?_))
        refine z_pop C dL_law_949 rfl ?_
        refine z_goto C (tgt := 1399) dL_law_950 (by decide) ?_
        refine z_iinc C (v3 + 6) [(3, .int (v3 + 6)), (0, .ref b), (1, .ref ((zXE X).1 0 0)), (2, .ref ((zXE X).1 54 0))] dL_law_1399 3 rfl rfl (by decide) rfl ?_
        refine z_goto C (tgt := 18) dL_law_1402 (by decide) ?_
        exact z_lv [1, 2, 3, 0] rfl hw
      by_cases h21 : ((xs v3.toNatClampNeg) &&& (63 : Int32)) = 21
      · replace hw := hw.2.2.2.2.2.2.2.2.2.2.2.2.2.2.2.2.2.2.2.2.2.1 h21
        refine z_tabIn C (tgt := 953) dL_law_33 (by rw [h21]; decide) (by rw [h21]; decide) (by rw [h21]; rfl) (by decide) ?_
        refine z_aload_n C dL_law_953 rfl 1 rfl ?_
        refine z_aload_n C dL_law_954 rfl 0 rfl ?_
        refine z_iload_n C dL_law_955 rfl 3 rfl ?_
        refine z_iconst C 1 dL_law_956 (by decide) ?_
        refine z_iadd C dL_law_957 ?_
        refine z_sld C S hw.1 dL_law_958 ?_
        replace hw := hw.2
        refine z_aload_n C dL_law_959 rfl 0 rfl ?_
        refine z_iload_n C dL_law_960 rfl 3 rfl ?_
        refine z_iconst C 2 dL_law_961 (by decide) ?_
        refine z_iadd C dL_law_962 ?_
        refine z_sld C S hw.1 dL_law_963 ?_
        replace hw := hw.2
        refine z_callV C (by decide) M_X8_carried Mv_X8_carried kw_m_L_111 ob_X8 (t_X8_carried hw) rfl rfl (Nat.le_of_ble_eq_true rfl) dL_law_964 (z_ki (fun r85 s86 hw => ?_))
        refine z_pop C dL_law_967 rfl ?_
        refine z_aload_n C dL_law_968 rfl 2 rfl ?_
        refine z_aload_n C dL_law_969 rfl 0 rfl ?_
        refine z_iload_n C dL_law_970 rfl 3 rfl ?_
        refine z_iconst C 1 dL_law_971 (by decide) ?_
        refine z_iadd C dL_law_972 ?_
        refine z_sld C S hw.1 dL_law_973 ?_
        replace hw := hw.2
        refine z_aload_n C dL_law_974 rfl 0 rfl ?_
        refine z_iload_n C dL_law_975 rfl 3 rfl ?_
        refine z_iconst C 2 dL_law_976 (by decide) ?_
        refine z_iadd C dL_law_977 ?_
        refine z_sld C S hw.1 dL_law_978 ?_
        replace hw := hw.2
        refine z_callV C (by decide) M_X9_carried Mv_X9_carried kw_m_L_114 ob_X9 (t_X9_carried hw) rfl rfl (Nat.le_of_ble_eq_true rfl) dL_law_979 (z_ki (fun r87 s88 hw => ?_))
        refine z_pop C dL_law_982 rfl ?_
        refine z_goto C (tgt := 1399) dL_law_983 (by decide) ?_
        refine z_iinc C (v3 + 6) [(3, .int (v3 + 6)), (0, .ref b), (1, .ref ((zXE X).1 0 0)), (2, .ref ((zXE X).1 54 0))] dL_law_1399 3 rfl rfl (by decide) rfl ?_
        refine z_goto C (tgt := 18) dL_law_1402 (by decide) ?_
        exact z_lv [1, 2, 3, 0] rfl hw
      by_cases h22 : ((xs v3.toNatClampNeg) &&& (63 : Int32)) = 22
      · replace hw := hw.2.2.2.2.2.2.2.2.2.2.2.2.2.2.2.2.2.2.2.2.2.2.1 h22
        refine z_tabIn C (tgt := 986) dL_law_33 (by rw [h22]; decide) (by rw [h22]; decide) (by rw [h22]; rfl) (by decide) ?_
        refine z_aload_n C dL_law_986 rfl 1 rfl ?_
        refine z_aload_n C dL_law_987 rfl 0 rfl ?_
        refine z_iload_n C dL_law_988 rfl 3 rfl ?_
        refine z_iconst C 1 dL_law_989 (by decide) ?_
        refine z_iadd C dL_law_990 ?_
        refine z_sld C S hw.1 dL_law_991 ?_
        replace hw := hw.2
        refine z_callV C (by decide) M_X8_fares Mv_X8_fares kw_m_L_115 ob_X8 (t_X8_fares hw) rfl rfl (Nat.le_of_ble_eq_true rfl) dL_law_992 (z_ki (fun r89 s90 hw => ?_))
        refine z_pop C dL_law_995 rfl ?_
        refine z_aload_n C dL_law_996 rfl 2 rfl ?_
        refine z_aload_n C dL_law_997 rfl 0 rfl ?_
        refine z_iload_n C dL_law_998 rfl 3 rfl ?_
        refine z_iconst C 1 dL_law_999 (by decide) ?_
        refine z_iadd C dL_law_1000 ?_
        refine z_sld C S hw.1 dL_law_1001 ?_
        replace hw := hw.2
        refine z_callV C (by decide) M_X9_fares Mv_X9_fares kw_m_L_118 ob_X9 (t_X9_fares hw) rfl rfl (Nat.le_of_ble_eq_true rfl) dL_law_1002 (z_ki (fun r91 s92 hw => ?_))
        refine z_pop C dL_law_1005 rfl ?_
        refine z_goto C (tgt := 1399) dL_law_1006 (by decide) ?_
        refine z_iinc C (v3 + 6) [(3, .int (v3 + 6)), (0, .ref b), (1, .ref ((zXE X).1 0 0)), (2, .ref ((zXE X).1 54 0))] dL_law_1399 3 rfl rfl (by decide) rfl ?_
        refine z_goto C (tgt := 18) dL_law_1402 (by decide) ?_
        exact z_lv [1, 2, 3, 0] rfl hw
      by_cases h23 : ((xs v3.toNatClampNeg) &&& (63 : Int32)) = 23
      · replace hw := hw.2.2.2.2.2.2.2.2.2.2.2.2.2.2.2.2.2.2.2.2.2.2.2.1 h23
        refine z_tabIn C (tgt := 1009) dL_law_33 (by rw [h23]; decide) (by rw [h23]; decide) (by rw [h23]; rfl) (by decide) ?_
        refine z_aload_n C dL_law_1009 rfl 1 rfl ?_
        refine z_aload_n C dL_law_1010 rfl 0 rfl ?_
        refine z_iload_n C dL_law_1011 rfl 3 rfl ?_
        refine z_iconst C 1 dL_law_1012 (by decide) ?_
        refine z_iadd C dL_law_1013 ?_
        refine z_sld C S hw.1 dL_law_1014 ?_
        replace hw := hw.2
        refine z_callV C (by decide) M_X8_send Mv_X8_send kw_m_L_119 ob_X8 (t_X8_send hw) rfl rfl (Nat.le_of_ble_eq_true rfl) dL_law_1015 (z_ki (fun r93 s94 hw => ?_))
        refine z_pop C dL_law_1018 rfl ?_
        refine z_aload_n C dL_law_1019 rfl 2 rfl ?_
        refine z_aload_n C dL_law_1020 rfl 0 rfl ?_
        refine z_iload_n C dL_law_1021 rfl 3 rfl ?_
        refine z_iconst C 1 dL_law_1022 (by decide) ?_
        refine z_iadd C dL_law_1023 ?_
        refine z_sld C S hw.1 dL_law_1024 ?_
        replace hw := hw.2
        refine z_callV C (by decide) M_X9_send Mv_X9_send kw_m_L_122 ob_X9 (t_X9_send hw) rfl rfl (Nat.le_of_ble_eq_true rfl) dL_law_1025 (z_ki (fun r95 s96 hw => ?_))
        refine z_pop C dL_law_1028 rfl ?_
        refine z_goto C (tgt := 1399) dL_law_1029 (by decide) ?_
        refine z_iinc C (v3 + 6) [(3, .int (v3 + 6)), (0, .ref b), (1, .ref ((zXE X).1 0 0)), (2, .ref ((zXE X).1 54 0))] dL_law_1399 3 rfl rfl (by decide) rfl ?_
        refine z_goto C (tgt := 18) dL_law_1402 (by decide) ?_
        exact z_lv [1, 2, 3, 0] rfl hw
      by_cases h24 : ((xs v3.toNatClampNeg) &&& (63 : Int32)) = 24
      · replace hw := hw.2.2.2.2.2.2.2.2.2.2.2.2.2.2.2.2.2.2.2.2.2.2.2.2.1 h24
        refine z_tabIn C (tgt := 1032) dL_law_33 (by rw [h24]; decide) (by rw [h24]; decide) (by rw [h24]; rfl) (by decide) ?_
        refine z_aload_n C dL_law_1032 rfl 1 rfl ?_
        refine z_aload_n C dL_law_1033 rfl 0 rfl ?_
        refine z_iload_n C dL_law_1034 rfl 3 rfl ?_
        refine z_iconst C 1 dL_law_1035 (by decide) ?_
        refine z_iadd C dL_law_1036 ?_
        refine z_sld C S hw.1 dL_law_1037 ?_
        replace hw := hw.2
        refine z_aload_n C dL_law_1038 rfl 0 rfl ?_
        refine z_iload_n C dL_law_1039 rfl 3 rfl ?_
        refine z_iconst C 2 dL_law_1040 (by decide) ?_
        refine z_iadd C dL_law_1041 ?_
        refine z_sld C S hw.1 dL_law_1042 ?_
        replace hw := hw.2
        refine z_aload_n C dL_law_1043 rfl 0 rfl ?_
        refine z_iload_n C dL_law_1044 rfl 3 rfl ?_
        refine z_iconst C 3 dL_law_1045 (by decide) ?_
        refine z_iadd C dL_law_1046 ?_
        refine z_sld C S hw.1 dL_law_1047 ?_
        replace hw := hw.2
        refine z_aload_n C dL_law_1048 rfl 0 rfl ?_
        refine z_iload_n C dL_law_1049 rfl 3 rfl ?_
        refine z_iconst C 4 dL_law_1050 (by decide) ?_
        refine z_iadd C dL_law_1051 ?_
        refine z_sld C S hw.1 dL_law_1052 ?_
        replace hw := hw.2
        refine z_callV C (by decide) M_X8_letter Mv_X8_letter kw_m_L_123 ob_X8 (t_X8_letter hw) rfl rfl (Nat.le_of_ble_eq_true rfl) dL_law_1053 (z_ki (fun r97 s98 hw => ?_))
        refine z_pop C dL_law_1056 rfl ?_
        refine z_aload_n C dL_law_1057 rfl 2 rfl ?_
        refine z_aload_n C dL_law_1058 rfl 0 rfl ?_
        refine z_iload_n C dL_law_1059 rfl 3 rfl ?_
        refine z_iconst C 1 dL_law_1060 (by decide) ?_
        refine z_iadd C dL_law_1061 ?_
        refine z_sld C S hw.1 dL_law_1062 ?_
        replace hw := hw.2
        refine z_aload_n C dL_law_1063 rfl 0 rfl ?_
        refine z_iload_n C dL_law_1064 rfl 3 rfl ?_
        refine z_iconst C 2 dL_law_1065 (by decide) ?_
        refine z_iadd C dL_law_1066 ?_
        refine z_sld C S hw.1 dL_law_1067 ?_
        replace hw := hw.2
        refine z_aload_n C dL_law_1068 rfl 0 rfl ?_
        refine z_iload_n C dL_law_1069 rfl 3 rfl ?_
        refine z_iconst C 3 dL_law_1070 (by decide) ?_
        refine z_iadd C dL_law_1071 ?_
        refine z_sld C S hw.1 dL_law_1072 ?_
        replace hw := hw.2
        refine z_aload_n C dL_law_1073 rfl 0 rfl ?_
        refine z_iload_n C dL_law_1074 rfl 3 rfl ?_
        refine z_iconst C 4 dL_law_1075 (by decide) ?_
        refine z_iadd C dL_law_1076 ?_
        refine z_sld C S hw.1 dL_law_1077 ?_
        replace hw := hw.2
        refine z_callV C (by decide) M_X9_letter Mv_X9_letter kw_m_L_126 ob_X9 (t_X9_letter hw) rfl rfl (Nat.le_of_ble_eq_true rfl) dL_law_1078 (z_ki (fun r99 s100 hw => ?_))
        refine z_pop C dL_law_1081 rfl ?_
        refine z_goto C (tgt := 1399) dL_law_1082 (by decide) ?_
        refine z_iinc C (v3 + 6) [(3, .int (v3 + 6)), (0, .ref b), (1, .ref ((zXE X).1 0 0)), (2, .ref ((zXE X).1 54 0))] dL_law_1399 3 rfl rfl (by decide) rfl ?_
        refine z_goto C (tgt := 18) dL_law_1402 (by decide) ?_
        exact z_lv [1, 2, 3, 0] rfl hw
      by_cases h25 : ((xs v3.toNatClampNeg) &&& (63 : Int32)) = 25
      · replace hw := hw.2.2.2.2.2.2.2.2.2.2.2.2.2.2.2.2.2.2.2.2.2.2.2.2.2.1 h25
        refine z_tabIn C (tgt := 1085) dL_law_33 (by rw [h25]; decide) (by rw [h25]; decide) (by rw [h25]; rfl) (by decide) ?_
        refine z_aload_n C dL_law_1085 rfl 1 rfl ?_
        refine z_aload_n C dL_law_1086 rfl 0 rfl ?_
        refine z_iload_n C dL_law_1087 rfl 3 rfl ?_
        refine z_iconst C 1 dL_law_1088 (by decide) ?_
        refine z_iadd C dL_law_1089 ?_
        refine z_sld C S hw.1 dL_law_1090 ?_
        replace hw := hw.2
        refine z_aload_n C dL_law_1091 rfl 0 rfl ?_
        refine z_iload_n C dL_law_1092 rfl 3 rfl ?_
        refine z_iconst C 2 dL_law_1093 (by decide) ?_
        refine z_iadd C dL_law_1094 ?_
        refine z_sld C S hw.1 dL_law_1095 ?_
        replace hw := hw.2
        refine z_aload_n C dL_law_1096 rfl 0 rfl ?_
        refine z_iload_n C dL_law_1097 rfl 3 rfl ?_
        refine z_iconst C 3 dL_law_1098 (by decide) ?_
        refine z_iadd C dL_law_1099 ?_
        refine z_sld C S hw.1 dL_law_1100 ?_
        replace hw := hw.2
        refine z_callV C (by decide) M_X8_fly Mv_X8_fly kw_m_L_127 ob_X8 (t_X8_fly hw) rfl rfl (Nat.le_of_ble_eq_true rfl) dL_law_1101 (z_kb (fun r101 s102 hr101 hw => ?_))
        refine z_pop C dL_law_1104 rfl ?_
        refine z_aload_n C dL_law_1105 rfl 2 rfl ?_
        refine z_aload_n C dL_law_1106 rfl 0 rfl ?_
        refine z_iload_n C dL_law_1107 rfl 3 rfl ?_
        refine z_iconst C 1 dL_law_1108 (by decide) ?_
        refine z_iadd C dL_law_1109 ?_
        refine z_sld C S hw.1 dL_law_1110 ?_
        replace hw := hw.2
        refine z_aload_n C dL_law_1111 rfl 0 rfl ?_
        refine z_iload_n C dL_law_1112 rfl 3 rfl ?_
        refine z_iconst C 2 dL_law_1113 (by decide) ?_
        refine z_iadd C dL_law_1114 ?_
        refine z_sld C S hw.1 dL_law_1115 ?_
        replace hw := hw.2
        refine z_aload_n C dL_law_1116 rfl 0 rfl ?_
        refine z_iload_n C dL_law_1117 rfl 3 rfl ?_
        refine z_iconst C 3 dL_law_1118 (by decide) ?_
        refine z_iadd C dL_law_1119 ?_
        refine z_sld C S hw.1 dL_law_1120 ?_
        replace hw := hw.2
        refine z_callV C (by decide) M_X9_fly Mv_X9_fly kw_m_L_130 ob_X9 (t_X9_fly hw) rfl rfl (Nat.le_of_ble_eq_true rfl) dL_law_1121 (z_kb (fun r103 s104 hr103 hw => ?_))
        refine z_pop C dL_law_1124 rfl ?_
        refine z_goto C (tgt := 1399) dL_law_1125 (by decide) ?_
        refine z_iinc C (v3 + 6) [(3, .int (v3 + 6)), (0, .ref b), (1, .ref ((zXE X).1 0 0)), (2, .ref ((zXE X).1 54 0))] dL_law_1399 3 rfl rfl (by decide) rfl ?_
        refine z_goto C (tgt := 18) dL_law_1402 (by decide) ?_
        exact z_lv [1, 2, 3, 0] rfl hw
      by_cases h26 : ((xs v3.toNatClampNeg) &&& (63 : Int32)) = 26
      · replace hw := hw.2.2.2.2.2.2.2.2.2.2.2.2.2.2.2.2.2.2.2.2.2.2.2.2.2.2.1 h26
        refine z_tabIn C (tgt := 1128) dL_law_33 (by rw [h26]; decide) (by rw [h26]; decide) (by rw [h26]; rfl) (by decide) ?_
        refine z_aload_n C dL_law_1128 rfl 1 rfl ?_
        refine z_aload_n C dL_law_1129 rfl 0 rfl ?_
        refine z_iload_n C dL_law_1130 rfl 3 rfl ?_
        refine z_iconst C 1 dL_law_1131 (by decide) ?_
        refine z_iadd C dL_law_1132 ?_
        refine z_sld C S hw.1 dL_law_1133 ?_
        replace hw := hw.2
        refine z_aload_n C dL_law_1134 rfl 0 rfl ?_
        refine z_iload_n C dL_law_1135 rfl 3 rfl ?_
        refine z_iconst C 2 dL_law_1136 (by decide) ?_
        refine z_iadd C dL_law_1137 ?_
        refine z_sld C S hw.1 dL_law_1138 ?_
        replace hw := hw.2
        refine z_aload_n C dL_law_1139 rfl 0 rfl ?_
        refine z_iload_n C dL_law_1140 rfl 3 rfl ?_
        refine z_iconst C 3 dL_law_1141 (by decide) ?_
        refine z_iadd C dL_law_1142 ?_
        refine z_sld C S hw.1 dL_law_1143 ?_
        replace hw := hw.2
        refine z_aload_n C dL_law_1144 rfl 0 rfl ?_
        refine z_iload_n C dL_law_1145 rfl 3 rfl ?_
        refine z_iconst C 4 dL_law_1146 (by decide) ?_
        refine z_iadd C dL_law_1147 ?_
        refine z_sld C S hw.1 dL_law_1148 ?_
        replace hw := hw.2
        refine z_callV C (by decide) M_X8_comes Mv_X8_comes kw_m_L_131 ob_X8 (t_X8_comes hw) rfl rfl (Nat.le_of_ble_eq_true rfl) dL_law_1149 (z_ki (fun r105 s106 hw => ?_))
        refine z_pop C dL_law_1152 rfl ?_
        refine z_aload_n C dL_law_1153 rfl 2 rfl ?_
        refine z_aload_n C dL_law_1154 rfl 0 rfl ?_
        refine z_iload_n C dL_law_1155 rfl 3 rfl ?_
        refine z_iconst C 1 dL_law_1156 (by decide) ?_
        refine z_iadd C dL_law_1157 ?_
        refine z_sld C S hw.1 dL_law_1158 ?_
        replace hw := hw.2
        refine z_aload_n C dL_law_1159 rfl 0 rfl ?_
        refine z_iload_n C dL_law_1160 rfl 3 rfl ?_
        refine z_iconst C 2 dL_law_1161 (by decide) ?_
        refine z_iadd C dL_law_1162 ?_
        refine z_sld C S hw.1 dL_law_1163 ?_
        replace hw := hw.2
        refine z_aload_n C dL_law_1164 rfl 0 rfl ?_
        refine z_iload_n C dL_law_1165 rfl 3 rfl ?_
        refine z_iconst C 3 dL_law_1166 (by decide) ?_
        refine z_iadd C dL_law_1167 ?_
        refine z_sld C S hw.1 dL_law_1168 ?_
        replace hw := hw.2
        refine z_aload_n C dL_law_1169 rfl 0 rfl ?_
        refine z_iload_n C dL_law_1170 rfl 3 rfl ?_
        refine z_iconst C 4 dL_law_1171 (by decide) ?_
        refine z_iadd C dL_law_1172 ?_
        refine z_sld C S hw.1 dL_law_1173 ?_
        replace hw := hw.2
        refine z_callV C (by decide) M_X9_comes Mv_X9_comes kw_m_L_134 ob_X9 (t_X9_comes hw) rfl rfl (Nat.le_of_ble_eq_true rfl) dL_law_1174 (z_ki (fun r107 s108 hw => ?_))
        refine z_pop C dL_law_1177 rfl ?_
        refine z_goto C (tgt := 1399) dL_law_1178 (by decide) ?_
        refine z_iinc C (v3 + 6) [(3, .int (v3 + 6)), (0, .ref b), (1, .ref ((zXE X).1 0 0)), (2, .ref ((zXE X).1 54 0))] dL_law_1399 3 rfl rfl (by decide) rfl ?_
        refine z_goto C (tgt := 18) dL_law_1402 (by decide) ?_
        exact z_lv [1, 2, 3, 0] rfl hw
      by_cases h27 : ((xs v3.toNatClampNeg) &&& (63 : Int32)) = 27
      · replace hw := hw.2.2.2.2.2.2.2.2.2.2.2.2.2.2.2.2.2.2.2.2.2.2.2.2.2.2.2.1 h27
        refine z_tabIn C (tgt := 1181) dL_law_33 (by rw [h27]; decide) (by rw [h27]; decide) (by rw [h27]; rfl) (by decide) ?_
        refine z_aload_n C dL_law_1181 rfl 1 rfl ?_
        refine z_aload_n C dL_law_1182 rfl 0 rfl ?_
        refine z_iload_n C dL_law_1183 rfl 3 rfl ?_
        refine z_iconst C 1 dL_law_1184 (by decide) ?_
        refine z_iadd C dL_law_1185 ?_
        refine z_sld C S hw.1 dL_law_1186 ?_
        replace hw := hw.2
        refine z_aload_n C dL_law_1187 rfl 0 rfl ?_
        refine z_iload_n C dL_law_1188 rfl 3 rfl ?_
        refine z_iconst C 2 dL_law_1189 (by decide) ?_
        refine z_iadd C dL_law_1190 ?_
        refine z_sld C S hw.1 dL_law_1191 ?_
        replace hw := hw.2
        refine z_callV C (by decide) M_X8_lose Mv_X8_lose kw_m_L_135 ob_X8 (t_X8_lose hw) rfl rfl (Nat.le_of_ble_eq_true rfl) dL_law_1192 (z_kb (fun r109 s110 hr109 hw => ?_))
        refine z_pop C dL_law_1195 rfl ?_
        refine z_aload_n C dL_law_1196 rfl 2 rfl ?_
        refine z_aload_n C dL_law_1197 rfl 0 rfl ?_
        refine z_iload_n C dL_law_1198 rfl 3 rfl ?_
        refine z_iconst C 1 dL_law_1199 (by decide) ?_
        refine z_iadd C dL_law_1200 ?_
        refine z_sld C S hw.1 dL_law_1201 ?_
        replace hw := hw.2
        refine z_aload_n C dL_law_1202 rfl 0 rfl ?_
        refine z_iload_n C dL_law_1203 rfl 3 rfl ?_
        refine z_iconst C 2 dL_law_1204 (by decide) ?_
        refine z_iadd C dL_law_1205 ?_
        refine z_sld C S hw.1 dL_law_1206 ?_
        replace hw := hw.2
        refine z_callV C (by decide) M_X9_lose Mv_X9_lose kw_m_L_138 ob_X9 (t_X9_lose hw) rfl rfl (Nat.le_of_ble_eq_true rfl) dL_law_1207 (z_kb (fun r111 s112 hr111 hw => ?_))
        refine z_pop C dL_law_1210 rfl ?_
        refine z_goto C (tgt := 1399) dL_law_1211 (by decide) ?_
        refine z_iinc C (v3 + 6) [(3, .int (v3 + 6)), (0, .ref b), (1, .ref ((zXE X).1 0 0)), (2, .ref ((zXE X).1 54 0))] dL_law_1399 3 rfl rfl (by decide) rfl ?_
        refine z_goto C (tgt := 18) dL_law_1402 (by decide) ?_
        exact z_lv [1, 2, 3, 0] rfl hw
      by_cases h28 : ((xs v3.toNatClampNeg) &&& (63 : Int32)) = 28
      · replace hw := hw.2.2.2.2.2.2.2.2.2.2.2.2.2.2.2.2.2.2.2.2.2.2.2.2.2.2.2.2.1 h28
        refine z_tabIn C (tgt := 1214) dL_law_33 (by rw [h28]; decide) (by rw [h28]; decide) (by rw [h28]; rfl) (by decide) ?_
        refine z_aload_n C dL_law_1214 rfl 1 rfl ?_
        refine z_aload_n C dL_law_1215 rfl 0 rfl ?_
        refine z_iload_n C dL_law_1216 rfl 3 rfl ?_
        refine z_iconst C 1 dL_law_1217 (by decide) ?_
        refine z_iadd C dL_law_1218 ?_
        refine z_sld C S hw.1 dL_law_1219 ?_
        replace hw := hw.2
        refine z_aload_n C dL_law_1220 rfl 0 rfl ?_
        refine z_iload_n C dL_law_1221 rfl 3 rfl ?_
        refine z_iconst C 2 dL_law_1222 (by decide) ?_
        refine z_iadd C dL_law_1223 ?_
        refine z_sld C S hw.1 dL_law_1224 ?_
        replace hw := hw.2
        refine z_callV C (by decide) M_X8_knows Mv_X8_knows kw_m_L_139 ob_X8 (t_X8_knows hw) rfl rfl (Nat.le_of_ble_eq_true rfl) dL_law_1225 (z_ki (fun r113 s114 hw => ?_))
        refine z_pop C dL_law_1228 rfl ?_
        refine z_aload_n C dL_law_1229 rfl 2 rfl ?_
        refine z_aload_n C dL_law_1230 rfl 0 rfl ?_
        refine z_iload_n C dL_law_1231 rfl 3 rfl ?_
        refine z_iconst C 1 dL_law_1232 (by decide) ?_
        refine z_iadd C dL_law_1233 ?_
        refine z_sld C S hw.1 dL_law_1234 ?_
        replace hw := hw.2
        refine z_aload_n C dL_law_1235 rfl 0 rfl ?_
        refine z_iload_n C dL_law_1236 rfl 3 rfl ?_
        refine z_iconst C 2 dL_law_1237 (by decide) ?_
        refine z_iadd C dL_law_1238 ?_
        refine z_sld C S hw.1 dL_law_1239 ?_
        replace hw := hw.2
        refine z_callV C (by decide) M_X9_knows Mv_X9_knows kw_m_L_142 ob_X9 (t_X9_knows hw) rfl rfl (Nat.le_of_ble_eq_true rfl) dL_law_1240 (z_ki (fun r115 s116 hw => ?_))
        refine z_pop C dL_law_1243 rfl ?_
        refine z_goto C (tgt := 1399) dL_law_1244 (by decide) ?_
        refine z_iinc C (v3 + 6) [(3, .int (v3 + 6)), (0, .ref b), (1, .ref ((zXE X).1 0 0)), (2, .ref ((zXE X).1 54 0))] dL_law_1399 3 rfl rfl (by decide) rfl ?_
        refine z_goto C (tgt := 18) dL_law_1402 (by decide) ?_
        exact z_lv [1, 2, 3, 0] rfl hw
      by_cases h29 : ((xs v3.toNatClampNeg) &&& (63 : Int32)) = 29
      · replace hw := hw.2.2.2.2.2.2.2.2.2.2.2.2.2.2.2.2.2.2.2.2.2.2.2.2.2.2.2.2.2.1 h29
        refine z_tabIn C (tgt := 1247) dL_law_33 (by rw [h29]; decide) (by rw [h29]; decide) (by rw [h29]; rfl) (by decide) ?_
        refine z_aload_n C dL_law_1247 rfl 1 rfl ?_
        refine z_aload_n C dL_law_1248 rfl 0 rfl ?_
        refine z_iload_n C dL_law_1249 rfl 3 rfl ?_
        refine z_iconst C 1 dL_law_1250 (by decide) ?_
        refine z_iadd C dL_law_1251 ?_
        refine z_sld C S hw.1 dL_law_1252 ?_
        replace hw := hw.2
        refine z_aload_n C dL_law_1253 rfl 0 rfl ?_
        refine z_iload_n C dL_law_1254 rfl 3 rfl ?_
        refine z_iconst C 2 dL_law_1255 (by decide) ?_
        refine z_iadd C dL_law_1256 ?_
        refine z_sld C S hw.1 dL_law_1257 ?_
        replace hw := hw.2
        refine z_aload_n C dL_law_1258 rfl 0 rfl ?_
        refine z_iload_n C dL_law_1259 rfl 3 rfl ?_
        refine z_iconst C 3 dL_law_1260 (by decide) ?_
        refine z_iadd C dL_law_1261 ?_
        refine z_sld C S hw.1 dL_law_1262 ?_
        replace hw := hw.2
        refine z_callV C (by decide) M_X8_joined Mv_X8_joined kw_m_L_143 ob_X8 (t_X8_joined hw) rfl rfl (Nat.le_of_ble_eq_true rfl) dL_law_1263 (z_ki (fun r117 s118 hw => ?_))
        refine z_pop C dL_law_1266 rfl ?_
        refine z_aload_n C dL_law_1267 rfl 2 rfl ?_
        refine z_aload_n C dL_law_1268 rfl 0 rfl ?_
        refine z_iload_n C dL_law_1269 rfl 3 rfl ?_
        refine z_iconst C 1 dL_law_1270 (by decide) ?_
        refine z_iadd C dL_law_1271 ?_
        refine z_sld C S hw.1 dL_law_1272 ?_
        replace hw := hw.2
        refine z_aload_n C dL_law_1273 rfl 0 rfl ?_
        refine z_iload_n C dL_law_1274 rfl 3 rfl ?_
        refine z_iconst C 2 dL_law_1275 (by decide) ?_
        refine z_iadd C dL_law_1276 ?_
        refine z_sld C S hw.1 dL_law_1277 ?_
        replace hw := hw.2
        refine z_aload_n C dL_law_1278 rfl 0 rfl ?_
        refine z_iload_n C dL_law_1279 rfl 3 rfl ?_
        refine z_iconst C 3 dL_law_1280 (by decide) ?_
        refine z_iadd C dL_law_1281 ?_
        refine z_sld C S hw.1 dL_law_1282 ?_
        replace hw := hw.2
        refine z_callV C (by decide) M_X9_joined Mv_X9_joined kw_m_L_146 ob_X9 (t_X9_joined hw) rfl rfl (Nat.le_of_ble_eq_true rfl) dL_law_1283 (z_ki (fun r119 s120 hw => ?_))
        refine z_pop C dL_law_1286 rfl ?_
        refine z_goto C (tgt := 1399) dL_law_1287 (by decide) ?_
        refine z_iinc C (v3 + 6) [(3, .int (v3 + 6)), (0, .ref b), (1, .ref ((zXE X).1 0 0)), (2, .ref ((zXE X).1 54 0))] dL_law_1399 3 rfl rfl (by decide) rfl ?_
        refine z_goto C (tgt := 18) dL_law_1402 (by decide) ?_
        exact z_lv [1, 2, 3, 0] rfl hw
      by_cases h30 : ((xs v3.toNatClampNeg) &&& (63 : Int32)) = 30
      · replace hw := hw.2.2.2.2.2.2.2.2.2.2.2.2.2.2.2.2.2.2.2.2.2.2.2.2.2.2.2.2.2.2.1 h30
        refine z_tabIn C (tgt := 1290) dL_law_33 (by rw [h30]; decide) (by rw [h30]; decide) (by rw [h30]; rfl) (by decide) ?_
        refine z_aload_n C dL_law_1290 rfl 1 rfl ?_
        refine z_aload_n C dL_law_1291 rfl 0 rfl ?_
        refine z_iload_n C dL_law_1292 rfl 3 rfl ?_
        refine z_iconst C 1 dL_law_1293 (by decide) ?_
        refine z_iadd C dL_law_1294 ?_
        refine z_sld C S hw.1 dL_law_1295 ?_
        replace hw := hw.2
        refine z_aload_n C dL_law_1296 rfl 0 rfl ?_
        refine z_iload_n C dL_law_1297 rfl 3 rfl ?_
        refine z_iconst C 2 dL_law_1298 (by decide) ?_
        refine z_iadd C dL_law_1299 ?_
        refine z_sld C S hw.1 dL_law_1300 ?_
        replace hw := hw.2
        refine z_callV C (by decide) M_X8_copies Mv_X8_copies kw_m_L_147 ob_X8 (t_X8_copies hw) rfl rfl (Nat.le_of_ble_eq_true rfl) dL_law_1301 (z_ki (fun r121 s122 hw => ?_))
        refine z_pop C dL_law_1304 rfl ?_
        refine z_aload_n C dL_law_1305 rfl 2 rfl ?_
        refine z_aload_n C dL_law_1306 rfl 0 rfl ?_
        refine z_iload_n C dL_law_1307 rfl 3 rfl ?_
        refine z_iconst C 1 dL_law_1308 (by decide) ?_
        refine z_iadd C dL_law_1309 ?_
        refine z_sld C S hw.1 dL_law_1310 ?_
        replace hw := hw.2
        refine z_aload_n C dL_law_1311 rfl 0 rfl ?_
        refine z_iload_n C dL_law_1312 rfl 3 rfl ?_
        refine z_iconst C 2 dL_law_1313 (by decide) ?_
        refine z_iadd C dL_law_1314 ?_
        refine z_sld C S hw.1 dL_law_1315 ?_
        replace hw := hw.2
        refine z_callV C (by decide) M_X9_copies Mv_X9_copies kw_m_L_150 ob_X9 (t_X9_copies hw) rfl rfl (Nat.le_of_ble_eq_true rfl) dL_law_1316 (z_ki (fun r123 s124 hw => ?_))
        refine z_pop C dL_law_1319 rfl ?_
        refine z_goto C (tgt := 1399) dL_law_1320 (by decide) ?_
        refine z_iinc C (v3 + 6) [(3, .int (v3 + 6)), (0, .ref b), (1, .ref ((zXE X).1 0 0)), (2, .ref ((zXE X).1 54 0))] dL_law_1399 3 rfl rfl (by decide) rfl ?_
        refine z_goto C (tgt := 18) dL_law_1402 (by decide) ?_
        exact z_lv [1, 2, 3, 0] rfl hw
      by_cases h31 : ((xs v3.toNatClampNeg) &&& (63 : Int32)) = 31
      · replace hw := hw.2.2.2.2.2.2.2.2.2.2.2.2.2.2.2.2.2.2.2.2.2.2.2.2.2.2.2.2.2.2.2.1 h31
        refine z_tabIn C (tgt := 1323) dL_law_33 (by rw [h31]; decide) (by rw [h31]; decide) (by rw [h31]; rfl) (by decide) ?_
        refine z_aload_n C dL_law_1323 rfl 1 rfl ?_
        refine z_aload_n C dL_law_1324 rfl 0 rfl ?_
        refine z_iload_n C dL_law_1325 rfl 3 rfl ?_
        refine z_iconst C 1 dL_law_1326 (by decide) ?_
        refine z_iadd C dL_law_1327 ?_
        refine z_sld C S hw.1 dL_law_1328 ?_
        replace hw := hw.2
        refine z_aload_n C dL_law_1329 rfl 0 rfl ?_
        refine z_iload_n C dL_law_1330 rfl 3 rfl ?_
        refine z_iconst C 2 dL_law_1331 (by decide) ?_
        refine z_iadd C dL_law_1332 ?_
        refine z_sld C S hw.1 dL_law_1333 ?_
        replace hw := hw.2
        refine z_aload_n C dL_law_1334 rfl 0 rfl ?_
        refine z_iload_n C dL_law_1335 rfl 3 rfl ?_
        refine z_iconst C 3 dL_law_1336 (by decide) ?_
        refine z_iadd C dL_law_1337 ?_
        refine z_sld C S hw.1 dL_law_1338 ?_
        replace hw := hw.2
        refine z_callV C (by decide) M_X8_reading Mv_X8_reading kw_m_L_151 ob_X8 (t_X8_reading hw) rfl rfl (Nat.le_of_ble_eq_true rfl) dL_law_1339 (z_kb (fun r125 s126 hr125 hw => ?_))
        refine z_pop C dL_law_1342 rfl ?_
        refine z_aload_n C dL_law_1343 rfl 2 rfl ?_
        refine z_aload_n C dL_law_1344 rfl 0 rfl ?_
        refine z_iload_n C dL_law_1345 rfl 3 rfl ?_
        refine z_iconst C 1 dL_law_1346 (by decide) ?_
        refine z_iadd C dL_law_1347 ?_
        refine z_sld C S hw.1 dL_law_1348 ?_
        replace hw := hw.2
        refine z_aload_n C dL_law_1349 rfl 0 rfl ?_
        refine z_iload_n C dL_law_1350 rfl 3 rfl ?_
        refine z_iconst C 2 dL_law_1351 (by decide) ?_
        refine z_iadd C dL_law_1352 ?_
        refine z_sld C S hw.1 dL_law_1353 ?_
        replace hw := hw.2
        refine z_aload_n C dL_law_1354 rfl 0 rfl ?_
        refine z_iload_n C dL_law_1355 rfl 3 rfl ?_
        refine z_iconst C 3 dL_law_1356 (by decide) ?_
        refine z_iadd C dL_law_1357 ?_
        refine z_sld C S hw.1 dL_law_1358 ?_
        replace hw := hw.2
        refine z_callV C (by decide) M_X9_reading Mv_X9_reading kw_m_L_154 ob_X9 (t_X9_reading hw) rfl rfl (Nat.le_of_ble_eq_true rfl) dL_law_1359 (z_kb (fun r127 s128 hr127 hw => ?_))
        refine z_pop C dL_law_1362 rfl ?_
        refine z_goto C (tgt := 1399) dL_law_1363 (by decide) ?_
        refine z_iinc C (v3 + 6) [(3, .int (v3 + 6)), (0, .ref b), (1, .ref ((zXE X).1 0 0)), (2, .ref ((zXE X).1 54 0))] dL_law_1399 3 rfl rfl (by decide) rfl ?_
        refine z_goto C (tgt := 18) dL_law_1402 (by decide) ?_
        exact z_lv [1, 2, 3, 0] rfl hw
      by_cases h32 : ((xs v3.toNatClampNeg) &&& (63 : Int32)) = 32
      · replace hw := hw.2.2.2.2.2.2.2.2.2.2.2.2.2.2.2.2.2.2.2.2.2.2.2.2.2.2.2.2.2.2.2.2.1 h32
        refine z_tabIn C (tgt := 1366) dL_law_33 (by rw [h32]; decide) (by rw [h32]; decide) (by rw [h32]; rfl) (by decide) ?_
        refine z_aload_n C dL_law_1366 rfl 1 rfl ?_
        refine z_aload_n C dL_law_1367 rfl 0 rfl ?_
        refine z_iload_n C dL_law_1368 rfl 3 rfl ?_
        refine z_iconst C 1 dL_law_1369 (by decide) ?_
        refine z_iadd C dL_law_1370 ?_
        refine z_sld C S hw.1 dL_law_1371 ?_
        replace hw := hw.2
        refine z_aload_n C dL_law_1372 rfl 0 rfl ?_
        refine z_iload_n C dL_law_1373 rfl 3 rfl ?_
        refine z_iconst C 2 dL_law_1374 (by decide) ?_
        refine z_iadd C dL_law_1375 ?_
        refine z_sld C S hw.1 dL_law_1376 ?_
        replace hw := hw.2
        refine z_callV C (by decide) M_X8_right Mv_X8_right kw_m_L_155 ob_X8 (t_X8_right hw) rfl rfl (Nat.le_of_ble_eq_true rfl) dL_law_1377 (z_ki (fun r129 s130 hw => ?_))
        refine z_pop C dL_law_1380 rfl ?_
        refine z_aload_n C dL_law_1381 rfl 2 rfl ?_
        refine z_aload_n C dL_law_1382 rfl 0 rfl ?_
        refine z_iload_n C dL_law_1383 rfl 3 rfl ?_
        refine z_iconst C 1 dL_law_1384 (by decide) ?_
        refine z_iadd C dL_law_1385 ?_
        refine z_sld C S hw.1 dL_law_1386 ?_
        replace hw := hw.2
        refine z_aload_n C dL_law_1387 rfl 0 rfl ?_
        refine z_iload_n C dL_law_1388 rfl 3 rfl ?_
        refine z_iconst C 2 dL_law_1389 (by decide) ?_
        refine z_iadd C dL_law_1390 ?_
        refine z_sld C S hw.1 dL_law_1391 ?_
        replace hw := hw.2
        refine z_callV C (by decide) M_X9_right Mv_X9_right kw_m_L_158 ob_X9 (t_X9_right hw) rfl rfl (Nat.le_of_ble_eq_true rfl) dL_law_1392 (z_ki (fun r131 s132 hw => ?_))
        refine z_pop C dL_law_1395 rfl ?_
        refine z_goto C (tgt := 1399) dL_law_1396 (by decide) ?_
        refine z_iinc C (v3 + 6) [(3, .int (v3 + 6)), (0, .ref b), (1, .ref ((zXE X).1 0 0)), (2, .ref ((zXE X).1 54 0))] dL_law_1399 3 rfl rfl (by decide) rfl ?_
        refine z_goto C (tgt := 18) dL_law_1402 (by decide) ?_
        exact z_lv [1, 2, 3, 0] rfl hw
      replace hw := hw.2.2.2.2.2.2.2.2.2.2.2.2.2.2.2.2.2.2.2.2.2.2.2.2.2.2.2.2.2.2.2.2.2 ⟨h0, h1, h2, h3, h4, h5, h6, h7, h8, h9, h10, h11, h12, h13, h14, h15, h16, h17, h18, h19, h20, h21, h22, h23, h24, h25, h26, h27, h28, h29, h30, h31, h32⟩
      refine z_tabOut C (tgt := 1399) dL_law_33 (z_tab_0_33 ⟨h0, h1, h2, h3, h4, h5, h6, h7, h8, h9, h10, h11, h12, h13, h14, h15, h16, h17, h18, h19, h20, h21, h22, h23, h24, h25, h26, h27, h28, h29, h30, h31, h32⟩) (by decide) ?_
      refine z_iinc C (v3 + 6) [(3, .int (v3 + 6)), (0, .ref b), (1, .ref ((zXE X).1 0 0)), (2, .ref ((zXE X).1 54 0))] dL_law_1399 3 rfl rfl (by decide) rfl ?_
      refine z_goto C (tgt := 18) dL_law_1402 (by decide) ?_
      exact z_lv [1, 2, 3, 0] rfl hw
  refine z_iconst C 0 dL_law_16 (by decide) ?_
  refine z_istore_n C [(3, .int (0 : Int32)), (2, .ref ((zXE X).1 54 0)), (1, .ref ((zXE X).1 0 0)), (0, .ref b)] dL_law_17 rfl (by decide) rfl ?_
  exact z_lv [3, 2, 1, 0] rfl hw
