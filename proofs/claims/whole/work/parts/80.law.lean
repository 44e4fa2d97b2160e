/-! THE CLAIM OUT OF ONE WALK OF THE LAW'S BODY. Your part is whole_start (and what it stands on); all else here is the same for every law, but numbers. -/
def R_law : String := "SealedTokensLaw"
def lw_P (b : Addr) (xs : List Int32) (args : Array Value) (s : State) : Prop := args = #[.ref b] ∧ s.IntsAt b xs ∧ xs.length ≤ 4096 ∧ (Jvm.Cond.and given_1 narrow_1).before args s = true
def lw_Q (_ : Array Value) (s : State) (o : Outcome) (t : State) : Prop := o = .returned (some (.int 1)) ∧ Framed s o t [] 600000 7302250
def lw_Z (below : List Frame) (a : Array Value) (s : State) : State → Prop := fun t => ∃ o, t.status = .running ∧ Ended t below o ∧ lw_Q a s o t
/-- the law's own end, with 1 on the stack, nothing written that was there before, its room as the claim has it -/
theorem lw_ret {p : Program} {l : Launch} {e : Env} {s : State} {m : MethodId} {below : List Frame} {meth : Method} {c : Code} {b : Nat} (hx : p.tables.exec = Jvm.exec) (hb : c.code = code) (hr : meth.sig.returnType = ret) (hlocks : meth.locks = false) {pc : Nat} {H : Heap} {ls : Array Slot} (hdg : decode code pc = .ok (.ireturn, 1)) : W p l e room_1 s m #[Value.ref b] below meth c H [] 600000 7302250 (lw_Z below #[Value.ref b] s) (F0 m pc ls [.int 1]) := by
  intro T hT X
  obtain ⟨fs, hret, hrun, hended, hW, hframe⟩ := X.leave (v := some (.int 1)) (hlocks := hlocks) (fun h => by rw [hr] at h; cases h)
  have hmeth' : T.vm.method? m = some meth := X.method'
  refine ⟨T.setFrames fs, ?_, .returned (some (.int 1)), hrun, hended, rfl, ⟨_, rfl⟩, hW, hframe⟩
  jvm_step X.here [X.here.top, hx, hb, hdg, hmeth', hr, ret, narrow_b1]
  (try refine ⟨rfl, ?_⟩); (try refine ⟨rfl, ?_⟩)
  first | (intro acts; rw [hret _ acts rfl rfl rfl]) | rw [hret _ _ rfl rfl rfl]
  exact Steps.refl _
/-- what holds at the law's entry: the machine, the code, the tables' words (any of lw_tbl by 'hts w (by decide +kernel)'), the script of L ints xs at the cell b, what the Statement gives of the start (any of its parts by flat_of_before) -/
def lw_At (p : Program) (s : State) (m : MethodId) (meth : Method) (c : Code) (b L : Nat) (xs : Nat → Int32) : Prop :=
  p.tables.exec = Jvm.exec ∧ c.code = code ∧ meth.sig.returnType = ret ∧ c.maxLocals = 4 ∧ s.vm.findClass R_law = some m.cls ∧ (∀ w ∈ lw_tbl, w.before #[Value.ref b] s = true) ∧ va_X b L xs s s.heap ∧ b < s.heap.size ∧ meth.locks = false ∧ (Jvm.Cond.and given_1 narrow_1).before #[Value.ref b] s = true ∧ meth.name = "law"

/-! the law's own end, over the memory -/
def mQW (x : mXT) : Prop := match x with
  | (_, _, A, _, _, _, _, s, _, args, below, _, _, Q) => ∃ b : Nat, args = #[Value.ref b] ∧ Q = lw_Z below #[Value.ref b] s ∧ A = fun q => s.heap.size ≤ q
section MLAW
variable {G : mG} {x : mXT} {M : mM} {lv : List (Nat × Value)} {sz sl z0 s0 : Nat}
theorem ww_lawret {r : Int32} {M0 : mM} {Z0 S0 : Nat} (pc : Nat) (X : mCX G RL cL_law 4 (some .boolean) "law" room_1 x) (hQ : mQW x) (hZ : Z0 - z0 ≤ 600000) (hS0 : S0 - s0 ≤ 7302250) (d : decode cL_law pc = .ok (.ireturn, 1)) (h : retZA r M sz sl = some ((1 : Int32), M0, Z0, S0)) : WW x (sz, sz - z0, sl - s0) M pc lv [.int r] := by
  have e1 : r = 1 ∧ sz = Z0 ∧ sl = S0 := by
    unfold retZA at h
    split at h
    · cases h
      exact ⟨rfl, rfl, rfl⟩
    · cases h
  obtain ⟨rfl, rfl, rfl⟩ := e1
  obtain ⟨D, G', A, p, l, e, R, s, m, args, below, meth, c, Q⟩ := x
  obtain ⟨hG, hrm, hx, hb, hml, hr, hlk, hnm, hown, hts, hK, hA, hE⟩ := X
  obtain ⟨b, rfl, rfl, rfl⟩ := hQ
  subst hrm
  intro H locs la hz hl hM hS
  refine va_forget (fun q hq => hS.2.2 q hq) ?_
  refine W.widen (k := 600000) (n := 7302250) hZ hS0 ?_
  exact lw_ret hx hb hr hlk d
end MLAW
/-! SealedTokensLaw.law([I)Z -/
theorem dL_law_0 : decode cL_law 0 = .ok (.new 7, 3) := by decide +kernel
theorem dL_law_3 : decode cL_law 3 = .ok (.dup, 1) := by decide +kernel
theorem dL_law_4 : decode cL_law 4 = .ok (.invokespecial 9, 3) := by decide +kernel
theorem dL_law_7 : decode cL_law 7 = .ok (.astore_n 1, 1) := by decide +kernel
theorem dL_law_8 : decode cL_law 8 = .ok (.new 10, 3) := by decide +kernel
theorem dL_law_11 : decode cL_law 11 = .ok (.dup, 1) := by decide +kernel
theorem dL_law_12 : decode cL_law 12 = .ok (.invokespecial 12, 3) := by decide +kernel
theorem dL_law_15 : decode cL_law 15 = .ok (.astore_n 2, 1) := by decide +kernel
theorem dL_law_16 : decode cL_law 16 = .ok (.iconst 0, 1) := by decide +kernel
theorem dL_law_17 : decode cL_law 17 = .ok (.istore_n 3, 1) := by decide +kernel
theorem dL_law_18 : decode cL_law 18 = .ok (.iload_n 3, 1) := by decide +kernel
theorem dL_law_19 : decode cL_law 19 = .ok (.aload_n 0, 1) := by decide +kernel
theorem dL_law_20 : decode cL_law 20 = .ok (.arraylength, 1) := by decide +kernel
theorem dL_law_21 : decode cL_law 21 = .ok (.bipush 8, 2) := by decide +kernel
theorem dL_law_23 : decode cL_law 23 = .ok (.isub, 1) := by decide +kernel
theorem dL_law_24 : decode cL_law 24 = .ok (.if_icmp .gt 1351, 3) := by decide +kernel
theorem dL_law_27 : decode cL_law 27 = .ok (.aload_n 0, 1) := by decide +kernel
theorem dL_law_28 : decode cL_law 28 = .ok (.iload_n 3, 1) := by decide +kernel
theorem dL_law_29 : decode cL_law 29 = .ok (.iaload, 1) := by decide +kernel
theorem dL_law_30 : decode cL_law 30 = .ok (.bipush 63, 2) := by decide +kernel
theorem dL_law_32 : decode cL_law 32 = .ok (.iand, 1) := by decide +kernel
theorem dL_law_33 : decode cL_law 33 = .ok (.tableswitch 1336 0 32 #[147, 210, 233, 256, 279, 322, 345, 368, 391, 424, 447, 470, 503, 526, 549, 572, 605, 648, 707, 740, 773, 836, 899, 942, 975, 1038, 1061, 1084, 1117, 1140, 1203, 1226, 1313], 147) := by decide +kernel
theorem dL_law_180 : decode cL_law 180 = .ok (.aload_n 1, 1) := by decide +kernel
theorem dL_law_181 : decode cL_law 181 = .ok (.aload_n 0, 1) := by decide +kernel
theorem dL_law_182 : decode cL_law 182 = .ok (.iload_n 3, 1) := by decide +kernel
theorem dL_law_183 : decode cL_law 183 = .ok (.iconst 1, 1) := by decide +kernel
theorem dL_law_184 : decode cL_law 184 = .ok (.iadd, 1) := by decide +kernel
theorem dL_law_185 : decode cL_law 185 = .ok (.iaload, 1) := by decide +kernel
theorem dL_law_186 : decode cL_law 186 = .ok (.aload_n 0, 1) := by decide +kernel
theorem dL_law_187 : decode cL_law 187 = .ok (.iload_n 3, 1) := by decide +kernel
theorem dL_law_188 : decode cL_law 188 = .ok (.iconst 2, 1) := by decide +kernel
theorem dL_law_189 : decode cL_law 189 = .ok (.iadd, 1) := by decide +kernel
theorem dL_law_190 : decode cL_law 190 = .ok (.iaload, 1) := by decide +kernel
theorem dL_law_191 : decode cL_law 191 = .ok (.aload_n 0, 1) := by decide +kernel
theorem dL_law_192 : decode cL_law 192 = .ok (.iload_n 3, 1) := by decide +kernel
theorem dL_law_193 : decode cL_law 193 = .ok (.iconst 3, 1) := by decide +kernel
theorem dL_law_194 : decode cL_law 194 = .ok (.iadd, 1) := by decide +kernel
theorem dL_law_195 : decode cL_law 195 = .ok (.iaload, 1) := by decide +kernel
theorem dL_law_196 : decode cL_law 196 = .ok (.aload_n 0, 1) := by decide +kernel
theorem dL_law_197 : decode cL_law 197 = .ok (.iload_n 3, 1) := by decide +kernel
theorem dL_law_198 : decode cL_law 198 = .ok (.iconst 4, 1) := by decide +kernel
theorem dL_law_199 : decode cL_law 199 = .ok (.iadd, 1) := by decide +kernel
theorem dL_law_200 : decode cL_law 200 = .ok (.iaload, 1) := by decide +kernel
theorem dL_law_201 : decode cL_law 201 = .ok (.aload_n 0, 1) := by decide +kernel
theorem dL_law_202 : decode cL_law 202 = .ok (.iload_n 3, 1) := by decide +kernel
theorem dL_law_203 : decode cL_law 203 = .ok (.iconst 5, 1) := by decide +kernel
theorem dL_law_204 : decode cL_law 204 = .ok (.iadd, 1) := by decide +kernel
theorem dL_law_205 : decode cL_law 205 = .ok (.iaload, 1) := by decide +kernel
theorem dL_law_206 : decode cL_law 206 = .ok (.invokevirtual 13, 3) := by decide +kernel
theorem dL_law_209 : decode cL_law 209 = .ok (.aload_n 2, 1) := by decide +kernel
theorem dL_law_210 : decode cL_law 210 = .ok (.aload_n 0, 1) := by decide +kernel
theorem dL_law_211 : decode cL_law 211 = .ok (.iload_n 3, 1) := by decide +kernel
theorem dL_law_212 : decode cL_law 212 = .ok (.iconst 1, 1) := by decide +kernel
theorem dL_law_213 : decode cL_law 213 = .ok (.iadd, 1) := by decide +kernel
theorem dL_law_214 : decode cL_law 214 = .ok (.iaload, 1) := by decide +kernel
theorem dL_law_215 : decode cL_law 215 = .ok (.aload_n 0, 1) := by decide +kernel
theorem dL_law_216 : decode cL_law 216 = .ok (.iload_n 3, 1) := by decide +kernel
theorem dL_law_217 : decode cL_law 217 = .ok (.iconst 2, 1) := by decide +kernel
theorem dL_law_218 : decode cL_law 218 = .ok (.iadd, 1) := by decide +kernel
theorem dL_law_219 : decode cL_law 219 = .ok (.iaload, 1) := by decide +kernel
theorem dL_law_220 : decode cL_law 220 = .ok (.aload_n 0, 1) := by decide +kernel
theorem dL_law_221 : decode cL_law 221 = .ok (.iload_n 3, 1) := by decide +kernel
theorem dL_law_222 : decode cL_law 222 = .ok (.iconst 3, 1) := by decide +kernel
theorem dL_law_223 : decode cL_law 223 = .ok (.iadd, 1) := by decide +kernel
theorem dL_law_224 : decode cL_law 224 = .ok (.iaload, 1) := by decide +kernel
theorem dL_law_225 : decode cL_law 225 = .ok (.aload_n 0, 1) := by decide +kernel
theorem dL_law_226 : decode cL_law 226 = .ok (.iload_n 3, 1) := by decide +kernel
theorem dL_law_227 : decode cL_law 227 = .ok (.iconst 4, 1) := by decide +kernel
theorem dL_law_228 : decode cL_law 228 = .ok (.iadd, 1) := by decide +kernel
theorem dL_law_229 : decode cL_law 229 = .ok (.iaload, 1) := by decide +kernel
theorem dL_law_230 : decode cL_law 230 = .ok (.aload_n 0, 1) := by decide +kernel
theorem dL_law_231 : decode cL_law 231 = .ok (.iload_n 3, 1) := by decide +kernel
theorem dL_law_232 : decode cL_law 232 = .ok (.iconst 5, 1) := by decide +kernel
theorem dL_law_233 : decode cL_law 233 = .ok (.iadd, 1) := by decide +kernel
theorem dL_law_234 : decode cL_law 234 = .ok (.iaload, 1) := by decide +kernel
theorem dL_law_235 : decode cL_law 235 = .ok (.invokevirtual 17, 3) := by decide +kernel
theorem dL_law_238 : decode cL_law 238 = .ok (.if_icmp .eq 1131, 3) := by decide +kernel
theorem dL_law_241 : decode cL_law 241 = .ok (.iconst 0, 1) := by decide +kernel
theorem dL_law_242 : decode cL_law 242 = .ok (.ireturn, 1) := by decide +kernel
theorem dL_law_243 : decode cL_law 243 = .ok (.aload_n 1, 1) := by decide +kernel
theorem dL_law_244 : decode cL_law 244 = .ok (.aload_n 0, 1) := by decide +kernel
theorem dL_law_245 : decode cL_law 245 = .ok (.iload_n 3, 1) := by decide +kernel
theorem dL_law_246 : decode cL_law 246 = .ok (.iconst 1, 1) := by decide +kernel
theorem dL_law_247 : decode cL_law 247 = .ok (.iadd, 1) := by decide +kernel
theorem dL_law_248 : decode cL_law 248 = .ok (.iaload, 1) := by decide +kernel
theorem dL_law_249 : decode cL_law 249 = .ok (.invokevirtual 18, 3) := by decide +kernel
theorem dL_law_252 : decode cL_law 252 = .ok (.aload_n 2, 1) := by decide +kernel
theorem dL_law_253 : decode cL_law 253 = .ok (.aload_n 0, 1) := by decide +kernel
theorem dL_law_254 : decode cL_law 254 = .ok (.iload_n 3, 1) := by decide +kernel
theorem dL_law_255 : decode cL_law 255 = .ok (.iconst 1, 1) := by decide +kernel
theorem dL_law_256 : decode cL_law 256 = .ok (.iadd, 1) := by decide +kernel
theorem dL_law_257 : decode cL_law 257 = .ok (.iaload, 1) := by decide +kernel
theorem dL_law_258 : decode cL_law 258 = .ok (.invokevirtual 22, 3) := by decide +kernel
theorem dL_law_261 : decode cL_law 261 = .ok (.if_icmp .eq 1108, 3) := by decide +kernel
theorem dL_law_264 : decode cL_law 264 = .ok (.iconst 0, 1) := by decide +kernel
theorem dL_law_265 : decode cL_law 265 = .ok (.ireturn, 1) := by decide +kernel
theorem dL_law_266 : decode cL_law 266 = .ok (.aload_n 1, 1) := by decide +kernel
theorem dL_law_267 : decode cL_law 267 = .ok (.aload_n 0, 1) := by decide +kernel
theorem dL_law_268 : decode cL_law 268 = .ok (.iload_n 3, 1) := by decide +kernel
theorem dL_law_269 : decode cL_law 269 = .ok (.iconst 1, 1) := by decide +kernel
theorem dL_law_270 : decode cL_law 270 = .ok (.iadd, 1) := by decide +kernel
theorem dL_law_271 : decode cL_law 271 = .ok (.iaload, 1) := by decide +kernel
theorem dL_law_272 : decode cL_law 272 = .ok (.invokevirtual 23, 3) := by decide +kernel
theorem dL_law_275 : decode cL_law 275 = .ok (.aload_n 2, 1) := by decide +kernel
theorem dL_law_276 : decode cL_law 276 = .ok (.aload_n 0, 1) := by decide +kernel
theorem dL_law_277 : decode cL_law 277 = .ok (.iload_n 3, 1) := by decide +kernel
theorem dL_law_278 : decode cL_law 278 = .ok (.iconst 1, 1) := by decide +kernel
theorem dL_law_279 : decode cL_law 279 = .ok (.iadd, 1) := by decide +kernel
theorem dL_law_280 : decode cL_law 280 = .ok (.iaload, 1) := by decide +kernel
theorem dL_law_281 : decode cL_law 281 = .ok (.invokevirtual 26, 3) := by decide +kernel
theorem dL_law_284 : decode cL_law 284 = .ok (.if_icmp .eq 1085, 3) := by decide +kernel
theorem dL_law_287 : decode cL_law 287 = .ok (.iconst 0, 1) := by decide +kernel
theorem dL_law_288 : decode cL_law 288 = .ok (.ireturn, 1) := by decide +kernel
theorem dL_law_289 : decode cL_law 289 = .ok (.aload_n 1, 1) := by decide +kernel
theorem dL_law_290 : decode cL_law 290 = .ok (.aload_n 0, 1) := by decide +kernel
theorem dL_law_291 : decode cL_law 291 = .ok (.iload_n 3, 1) := by decide +kernel
theorem dL_law_292 : decode cL_law 292 = .ok (.iconst 1, 1) := by decide +kernel
theorem dL_law_293 : decode cL_law 293 = .ok (.iadd, 1) := by decide +kernel
theorem dL_law_294 : decode cL_law 294 = .ok (.iaload, 1) := by decide +kernel
theorem dL_law_295 : decode cL_law 295 = .ok (.invokevirtual 27, 3) := by decide +kernel
theorem dL_law_298 : decode cL_law 298 = .ok (.aload_n 2, 1) := by decide +kernel
theorem dL_law_299 : decode cL_law 299 = .ok (.aload_n 0, 1) := by decide +kernel
theorem dL_law_300 : decode cL_law 300 = .ok (.iload_n 3, 1) := by decide +kernel
theorem dL_law_301 : decode cL_law 301 = .ok (.iconst 1, 1) := by decide +kernel
theorem dL_law_302 : decode cL_law 302 = .ok (.iadd, 1) := by decide +kernel
theorem dL_law_303 : decode cL_law 303 = .ok (.iaload, 1) := by decide +kernel
theorem dL_law_304 : decode cL_law 304 = .ok (.invokevirtual 30, 3) := by decide +kernel
theorem dL_law_307 : decode cL_law 307 = .ok (.if_icmp .eq 1062, 3) := by decide +kernel
theorem dL_law_310 : decode cL_law 310 = .ok (.iconst 0, 1) := by decide +kernel
theorem dL_law_311 : decode cL_law 311 = .ok (.ireturn, 1) := by decide +kernel
theorem dL_law_312 : decode cL_law 312 = .ok (.aload_n 1, 1) := by decide +kernel
theorem dL_law_313 : decode cL_law 313 = .ok (.aload_n 0, 1) := by decide +kernel
theorem dL_law_314 : decode cL_law 314 = .ok (.iload_n 3, 1) := by decide +kernel
theorem dL_law_315 : decode cL_law 315 = .ok (.iconst 1, 1) := by decide +kernel
theorem dL_law_316 : decode cL_law 316 = .ok (.iadd, 1) := by decide +kernel
theorem dL_law_317 : decode cL_law 317 = .ok (.iaload, 1) := by decide +kernel
theorem dL_law_318 : decode cL_law 318 = .ok (.aload_n 0, 1) := by decide +kernel
theorem dL_law_319 : decode cL_law 319 = .ok (.iload_n 3, 1) := by decide +kernel
theorem dL_law_320 : decode cL_law 320 = .ok (.iconst 2, 1) := by decide +kernel
theorem dL_law_321 : decode cL_law 321 = .ok (.iadd, 1) := by decide +kernel
theorem dL_law_322 : decode cL_law 322 = .ok (.iaload, 1) := by decide +kernel
theorem dL_law_323 : decode cL_law 323 = .ok (.aload_n 0, 1) := by decide +kernel
theorem dL_law_324 : decode cL_law 324 = .ok (.iload_n 3, 1) := by decide +kernel
theorem dL_law_325 : decode cL_law 325 = .ok (.iconst 3, 1) := by decide +kernel
theorem dL_law_326 : decode cL_law 326 = .ok (.iadd, 1) := by decide +kernel
theorem dL_law_327 : decode cL_law 327 = .ok (.iaload, 1) := by decide +kernel
theorem dL_law_328 : decode cL_law 328 = .ok (.invokevirtual 31, 3) := by decide +kernel
theorem dL_law_331 : decode cL_law 331 = .ok (.aload_n 2, 1) := by decide +kernel
theorem dL_law_332 : decode cL_law 332 = .ok (.aload_n 0, 1) := by decide +kernel
theorem dL_law_333 : decode cL_law 333 = .ok (.iload_n 3, 1) := by decide +kernel
theorem dL_law_334 : decode cL_law 334 = .ok (.iconst 1, 1) := by decide +kernel
theorem dL_law_335 : decode cL_law 335 = .ok (.iadd, 1) := by decide +kernel
theorem dL_law_336 : decode cL_law 336 = .ok (.iaload, 1) := by decide +kernel
theorem dL_law_337 : decode cL_law 337 = .ok (.aload_n 0, 1) := by decide +kernel
theorem dL_law_338 : decode cL_law 338 = .ok (.iload_n 3, 1) := by decide +kernel
theorem dL_law_339 : decode cL_law 339 = .ok (.iconst 2, 1) := by decide +kernel
theorem dL_law_340 : decode cL_law 340 = .ok (.iadd, 1) := by decide +kernel
theorem dL_law_341 : decode cL_law 341 = .ok (.iaload, 1) := by decide +kernel
theorem dL_law_342 : decode cL_law 342 = .ok (.aload_n 0, 1) := by decide +kernel
theorem dL_law_343 : decode cL_law 343 = .ok (.iload_n 3, 1) := by decide +kernel
theorem dL_law_344 : decode cL_law 344 = .ok (.iconst 3, 1) := by decide +kernel
theorem dL_law_345 : decode cL_law 345 = .ok (.iadd, 1) := by decide +kernel
theorem dL_law_346 : decode cL_law 346 = .ok (.iaload, 1) := by decide +kernel
theorem dL_law_347 : decode cL_law 347 = .ok (.invokevirtual 35, 3) := by decide +kernel
theorem dL_law_350 : decode cL_law 350 = .ok (.if_icmp .eq 1019, 3) := by decide +kernel
theorem dL_law_353 : decode cL_law 353 = .ok (.iconst 0, 1) := by decide +kernel
theorem dL_law_354 : decode cL_law 354 = .ok (.ireturn, 1) := by decide +kernel
theorem dL_law_355 : decode cL_law 355 = .ok (.aload_n 1, 1) := by decide +kernel
theorem dL_law_356 : decode cL_law 356 = .ok (.aload_n 0, 1) := by decide +kernel
theorem dL_law_357 : decode cL_law 357 = .ok (.iload_n 3, 1) := by decide +kernel
theorem dL_law_358 : decode cL_law 358 = .ok (.iconst 1, 1) := by decide +kernel
theorem dL_law_359 : decode cL_law 359 = .ok (.iadd, 1) := by decide +kernel
theorem dL_law_360 : decode cL_law 360 = .ok (.iaload, 1) := by decide +kernel
theorem dL_law_361 : decode cL_law 361 = .ok (.invokevirtual 36, 3) := by decide +kernel
theorem dL_law_364 : decode cL_law 364 = .ok (.aload_n 2, 1) := by decide +kernel
theorem dL_law_365 : decode cL_law 365 = .ok (.aload_n 0, 1) := by decide +kernel
theorem dL_law_366 : decode cL_law 366 = .ok (.iload_n 3, 1) := by decide +kernel
theorem dL_law_367 : decode cL_law 367 = .ok (.iconst 1, 1) := by decide +kernel
theorem dL_law_368 : decode cL_law 368 = .ok (.iadd, 1) := by decide +kernel
theorem dL_law_369 : decode cL_law 369 = .ok (.iaload, 1) := by decide +kernel
theorem dL_law_370 : decode cL_law 370 = .ok (.invokevirtual 39, 3) := by decide +kernel
theorem dL_law_373 : decode cL_law 373 = .ok (.if_icmp .eq 996, 3) := by decide +kernel
theorem dL_law_376 : decode cL_law 376 = .ok (.iconst 0, 1) := by decide +kernel
theorem dL_law_377 : decode cL_law 377 = .ok (.ireturn, 1) := by decide +kernel
theorem dL_law_378 : decode cL_law 378 = .ok (.aload_n 1, 1) := by decide +kernel
theorem dL_law_379 : decode cL_law 379 = .ok (.aload_n 0, 1) := by decide +kernel
theorem dL_law_380 : decode cL_law 380 = .ok (.iload_n 3, 1) := by decide +kernel
theorem dL_law_381 : decode cL_law 381 = .ok (.iconst 1, 1) := by decide +kernel
theorem dL_law_382 : decode cL_law 382 = .ok (.iadd, 1) := by decide +kernel
theorem dL_law_383 : decode cL_law 383 = .ok (.iaload, 1) := by decide +kernel
theorem dL_law_384 : decode cL_law 384 = .ok (.invokevirtual 40, 3) := by decide +kernel
theorem dL_law_387 : decode cL_law 387 = .ok (.aload_n 2, 1) := by decide +kernel
theorem dL_law_388 : decode cL_law 388 = .ok (.aload_n 0, 1) := by decide +kernel
theorem dL_law_389 : decode cL_law 389 = .ok (.iload_n 3, 1) := by decide +kernel
theorem dL_law_390 : decode cL_law 390 = .ok (.iconst 1, 1) := by decide +kernel
theorem dL_law_391 : decode cL_law 391 = .ok (.iadd, 1) := by decide +kernel
theorem dL_law_392 : decode cL_law 392 = .ok (.iaload, 1) := by decide +kernel
theorem dL_law_393 : decode cL_law 393 = .ok (.invokevirtual 43, 3) := by decide +kernel
theorem dL_law_396 : decode cL_law 396 = .ok (.if_icmp .eq 973, 3) := by decide +kernel
theorem dL_law_399 : decode cL_law 399 = .ok (.iconst 0, 1) := by decide +kernel
theorem dL_law_400 : decode cL_law 400 = .ok (.ireturn, 1) := by decide +kernel
theorem dL_law_401 : decode cL_law 401 = .ok (.aload_n 1, 1) := by decide +kernel
theorem dL_law_402 : decode cL_law 402 = .ok (.aload_n 0, 1) := by decide +kernel
theorem dL_law_403 : decode cL_law 403 = .ok (.iload_n 3, 1) := by decide +kernel
theorem dL_law_404 : decode cL_law 404 = .ok (.iconst 1, 1) := by decide +kernel
theorem dL_law_405 : decode cL_law 405 = .ok (.iadd, 1) := by decide +kernel
theorem dL_law_406 : decode cL_law 406 = .ok (.iaload, 1) := by decide +kernel
theorem dL_law_407 : decode cL_law 407 = .ok (.invokevirtual 44, 3) := by decide +kernel
theorem dL_law_410 : decode cL_law 410 = .ok (.aload_n 2, 1) := by decide +kernel
theorem dL_law_411 : decode cL_law 411 = .ok (.aload_n 0, 1) := by decide +kernel
theorem dL_law_412 : decode cL_law 412 = .ok (.iload_n 3, 1) := by decide +kernel
theorem dL_law_413 : decode cL_law 413 = .ok (.iconst 1, 1) := by decide +kernel
theorem dL_law_414 : decode cL_law 414 = .ok (.iadd, 1) := by decide +kernel
theorem dL_law_415 : decode cL_law 415 = .ok (.iaload, 1) := by decide +kernel
theorem dL_law_416 : decode cL_law 416 = .ok (.invokevirtual 47, 3) := by decide +kernel
theorem dL_law_419 : decode cL_law 419 = .ok (.if_icmp .eq 950, 3) := by decide +kernel
theorem dL_law_422 : decode cL_law 422 = .ok (.iconst 0, 1) := by decide +kernel
theorem dL_law_423 : decode cL_law 423 = .ok (.ireturn, 1) := by decide +kernel
theorem dL_law_424 : decode cL_law 424 = .ok (.aload_n 1, 1) := by decide +kernel
theorem dL_law_425 : decode cL_law 425 = .ok (.aload_n 0, 1) := by decide +kernel
theorem dL_law_426 : decode cL_law 426 = .ok (.iload_n 3, 1) := by decide +kernel
theorem dL_law_427 : decode cL_law 427 = .ok (.iconst 1, 1) := by decide +kernel
theorem dL_law_428 : decode cL_law 428 = .ok (.iadd, 1) := by decide +kernel
theorem dL_law_429 : decode cL_law 429 = .ok (.iaload, 1) := by decide +kernel
theorem dL_law_430 : decode cL_law 430 = .ok (.aload_n 0, 1) := by decide +kernel
theorem dL_law_431 : decode cL_law 431 = .ok (.iload_n 3, 1) := by decide +kernel
theorem dL_law_432 : decode cL_law 432 = .ok (.iconst 2, 1) := by decide +kernel
theorem dL_law_433 : decode cL_law 433 = .ok (.iadd, 1) := by decide +kernel
theorem dL_law_434 : decode cL_law 434 = .ok (.iaload, 1) := by decide +kernel
theorem dL_law_435 : decode cL_law 435 = .ok (.invokevirtual 48, 3) := by decide +kernel
theorem dL_law_438 : decode cL_law 438 = .ok (.aload_n 2, 1) := by decide +kernel
theorem dL_law_439 : decode cL_law 439 = .ok (.aload_n 0, 1) := by decide +kernel
theorem dL_law_440 : decode cL_law 440 = .ok (.iload_n 3, 1) := by decide +kernel
theorem dL_law_441 : decode cL_law 441 = .ok (.iconst 1, 1) := by decide +kernel
theorem dL_law_442 : decode cL_law 442 = .ok (.iadd, 1) := by decide +kernel
theorem dL_law_443 : decode cL_law 443 = .ok (.iaload, 1) := by decide +kernel
theorem dL_law_444 : decode cL_law 444 = .ok (.aload_n 0, 1) := by decide +kernel
theorem dL_law_445 : decode cL_law 445 = .ok (.iload_n 3, 1) := by decide +kernel
theorem dL_law_446 : decode cL_law 446 = .ok (.iconst 2, 1) := by decide +kernel
theorem dL_law_447 : decode cL_law 447 = .ok (.iadd, 1) := by decide +kernel
theorem dL_law_448 : decode cL_law 448 = .ok (.iaload, 1) := by decide +kernel
theorem dL_law_449 : decode cL_law 449 = .ok (.invokevirtual 52, 3) := by decide +kernel
theorem dL_law_452 : decode cL_law 452 = .ok (.if_icmp .eq 917, 3) := by decide +kernel
theorem dL_law_455 : decode cL_law 455 = .ok (.iconst 0, 1) := by decide +kernel
theorem dL_law_456 : decode cL_law 456 = .ok (.ireturn, 1) := by decide +kernel
theorem dL_law_457 : decode cL_law 457 = .ok (.aload_n 1, 1) := by decide +kernel
theorem dL_law_458 : decode cL_law 458 = .ok (.aload_n 0, 1) := by decide +kernel
theorem dL_law_459 : decode cL_law 459 = .ok (.iload_n 3, 1) := by decide +kernel
theorem dL_law_460 : decode cL_law 460 = .ok (.iconst 1, 1) := by decide +kernel
theorem dL_law_461 : decode cL_law 461 = .ok (.iadd, 1) := by decide +kernel
theorem dL_law_462 : decode cL_law 462 = .ok (.iaload, 1) := by decide +kernel
theorem dL_law_463 : decode cL_law 463 = .ok (.invokevirtual 53, 3) := by decide +kernel
theorem dL_law_466 : decode cL_law 466 = .ok (.aload_n 2, 1) := by decide +kernel
theorem dL_law_467 : decode cL_law 467 = .ok (.aload_n 0, 1) := by decide +kernel
theorem dL_law_468 : decode cL_law 468 = .ok (.iload_n 3, 1) := by decide +kernel
theorem dL_law_469 : decode cL_law 469 = .ok (.iconst 1, 1) := by decide +kernel
theorem dL_law_470 : decode cL_law 470 = .ok (.iadd, 1) := by decide +kernel
theorem dL_law_471 : decode cL_law 471 = .ok (.iaload, 1) := by decide +kernel
theorem dL_law_472 : decode cL_law 472 = .ok (.invokevirtual 56, 3) := by decide +kernel
theorem dL_law_475 : decode cL_law 475 = .ok (.if_icmp .eq 894, 3) := by decide +kernel
theorem dL_law_478 : decode cL_law 478 = .ok (.iconst 0, 1) := by decide +kernel
theorem dL_law_479 : decode cL_law 479 = .ok (.ireturn, 1) := by decide +kernel
theorem dL_law_480 : decode cL_law 480 = .ok (.aload_n 1, 1) := by decide +kernel
theorem dL_law_481 : decode cL_law 481 = .ok (.aload_n 0, 1) := by decide +kernel
theorem dL_law_482 : decode cL_law 482 = .ok (.iload_n 3, 1) := by decide +kernel
theorem dL_law_483 : decode cL_law 483 = .ok (.iconst 1, 1) := by decide +kernel
theorem dL_law_484 : decode cL_law 484 = .ok (.iadd, 1) := by decide +kernel
theorem dL_law_485 : decode cL_law 485 = .ok (.iaload, 1) := by decide +kernel
theorem dL_law_486 : decode cL_law 486 = .ok (.invokevirtual 57, 3) := by decide +kernel
theorem dL_law_489 : decode cL_law 489 = .ok (.aload_n 2, 1) := by decide +kernel
theorem dL_law_490 : decode cL_law 490 = .ok (.aload_n 0, 1) := by decide +kernel
theorem dL_law_491 : decode cL_law 491 = .ok (.iload_n 3, 1) := by decide +kernel
theorem dL_law_492 : decode cL_law 492 = .ok (.iconst 1, 1) := by decide +kernel
theorem dL_law_493 : decode cL_law 493 = .ok (.iadd, 1) := by decide +kernel
theorem dL_law_494 : decode cL_law 494 = .ok (.iaload, 1) := by decide +kernel
theorem dL_law_495 : decode cL_law 495 = .ok (.invokevirtual 60, 3) := by decide +kernel
theorem dL_law_498 : decode cL_law 498 = .ok (.if_icmp .eq 871, 3) := by decide +kernel
theorem dL_law_501 : decode cL_law 501 = .ok (.iconst 0, 1) := by decide +kernel
theorem dL_law_502 : decode cL_law 502 = .ok (.ireturn, 1) := by decide +kernel
theorem dL_law_503 : decode cL_law 503 = .ok (.aload_n 1, 1) := by decide +kernel
theorem dL_law_504 : decode cL_law 504 = .ok (.aload_n 0, 1) := by decide +kernel
theorem dL_law_505 : decode cL_law 505 = .ok (.iload_n 3, 1) := by decide +kernel
theorem dL_law_506 : decode cL_law 506 = .ok (.iconst 1, 1) := by decide +kernel
theorem dL_law_507 : decode cL_law 507 = .ok (.iadd, 1) := by decide +kernel
theorem dL_law_508 : decode cL_law 508 = .ok (.iaload, 1) := by decide +kernel
theorem dL_law_509 : decode cL_law 509 = .ok (.aload_n 0, 1) := by decide +kernel
theorem dL_law_510 : decode cL_law 510 = .ok (.iload_n 3, 1) := by decide +kernel
theorem dL_law_511 : decode cL_law 511 = .ok (.iconst 2, 1) := by decide +kernel
theorem dL_law_512 : decode cL_law 512 = .ok (.iadd, 1) := by decide +kernel
theorem dL_law_513 : decode cL_law 513 = .ok (.iaload, 1) := by decide +kernel
theorem dL_law_514 : decode cL_law 514 = .ok (.invokevirtual 61, 3) := by decide +kernel
theorem dL_law_517 : decode cL_law 517 = .ok (.aload_n 2, 1) := by decide +kernel
theorem dL_law_518 : decode cL_law 518 = .ok (.aload_n 0, 1) := by decide +kernel
theorem dL_law_519 : decode cL_law 519 = .ok (.iload_n 3, 1) := by decide +kernel
theorem dL_law_520 : decode cL_law 520 = .ok (.iconst 1, 1) := by decide +kernel
theorem dL_law_521 : decode cL_law 521 = .ok (.iadd, 1) := by decide +kernel
theorem dL_law_522 : decode cL_law 522 = .ok (.iaload, 1) := by decide +kernel
theorem dL_law_523 : decode cL_law 523 = .ok (.aload_n 0, 1) := by decide +kernel
theorem dL_law_524 : decode cL_law 524 = .ok (.iload_n 3, 1) := by decide +kernel
theorem dL_law_525 : decode cL_law 525 = .ok (.iconst 2, 1) := by decide +kernel
theorem dL_law_526 : decode cL_law 526 = .ok (.iadd, 1) := by decide +kernel
theorem dL_law_527 : decode cL_law 527 = .ok (.iaload, 1) := by decide +kernel
theorem dL_law_528 : decode cL_law 528 = .ok (.invokevirtual 64, 3) := by decide +kernel
theorem dL_law_531 : decode cL_law 531 = .ok (.if_icmp .eq 838, 3) := by decide +kernel
theorem dL_law_534 : decode cL_law 534 = .ok (.iconst 0, 1) := by decide +kernel
theorem dL_law_535 : decode cL_law 535 = .ok (.ireturn, 1) := by decide +kernel
theorem dL_law_536 : decode cL_law 536 = .ok (.aload_n 1, 1) := by decide +kernel
theorem dL_law_537 : decode cL_law 537 = .ok (.aload_n 0, 1) := by decide +kernel
theorem dL_law_538 : decode cL_law 538 = .ok (.iload_n 3, 1) := by decide +kernel
theorem dL_law_539 : decode cL_law 539 = .ok (.iconst 1, 1) := by decide +kernel
theorem dL_law_540 : decode cL_law 540 = .ok (.iadd, 1) := by decide +kernel
theorem dL_law_541 : decode cL_law 541 = .ok (.iaload, 1) := by decide +kernel
theorem dL_law_542 : decode cL_law 542 = .ok (.invokevirtual 65, 3) := by decide +kernel
theorem dL_law_545 : decode cL_law 545 = .ok (.aload_n 2, 1) := by decide +kernel
theorem dL_law_546 : decode cL_law 546 = .ok (.aload_n 0, 1) := by decide +kernel
theorem dL_law_547 : decode cL_law 547 = .ok (.iload_n 3, 1) := by decide +kernel
theorem dL_law_548 : decode cL_law 548 = .ok (.iconst 1, 1) := by decide +kernel
theorem dL_law_549 : decode cL_law 549 = .ok (.iadd, 1) := by decide +kernel
theorem dL_law_550 : decode cL_law 550 = .ok (.iaload, 1) := by decide +kernel
theorem dL_law_551 : decode cL_law 551 = .ok (.invokevirtual 68, 3) := by decide +kernel
theorem dL_law_554 : decode cL_law 554 = .ok (.if_icmp .eq 815, 3) := by decide +kernel
theorem dL_law_557 : decode cL_law 557 = .ok (.iconst 0, 1) := by decide +kernel
theorem dL_law_558 : decode cL_law 558 = .ok (.ireturn, 1) := by decide +kernel
theorem dL_law_559 : decode cL_law 559 = .ok (.aload_n 1, 1) := by decide +kernel
theorem dL_law_560 : decode cL_law 560 = .ok (.aload_n 0, 1) := by decide +kernel
theorem dL_law_561 : decode cL_law 561 = .ok (.iload_n 3, 1) := by decide +kernel
theorem dL_law_562 : decode cL_law 562 = .ok (.iconst 1, 1) := by decide +kernel
theorem dL_law_563 : decode cL_law 563 = .ok (.iadd, 1) := by decide +kernel
theorem dL_law_564 : decode cL_law 564 = .ok (.iaload, 1) := by decide +kernel
theorem dL_law_565 : decode cL_law 565 = .ok (.invokevirtual 69, 3) := by decide +kernel
theorem dL_law_568 : decode cL_law 568 = .ok (.aload_n 2, 1) := by decide +kernel
theorem dL_law_569 : decode cL_law 569 = .ok (.aload_n 0, 1) := by decide +kernel
theorem dL_law_570 : decode cL_law 570 = .ok (.iload_n 3, 1) := by decide +kernel
theorem dL_law_571 : decode cL_law 571 = .ok (.iconst 1, 1) := by decide +kernel
theorem dL_law_572 : decode cL_law 572 = .ok (.iadd, 1) := by decide +kernel
theorem dL_law_573 : decode cL_law 573 = .ok (.iaload, 1) := by decide +kernel
theorem dL_law_574 : decode cL_law 574 = .ok (.invokevirtual 72, 3) := by decide +kernel
theorem dL_law_577 : decode cL_law 577 = .ok (.if_icmp .eq 792, 3) := by decide +kernel
theorem dL_law_580 : decode cL_law 580 = .ok (.iconst 0, 1) := by decide +kernel
theorem dL_law_581 : decode cL_law 581 = .ok (.ireturn, 1) := by decide +kernel
theorem dL_law_582 : decode cL_law 582 = .ok (.aload_n 1, 1) := by decide +kernel
theorem dL_law_583 : decode cL_law 583 = .ok (.aload_n 0, 1) := by decide +kernel
theorem dL_law_584 : decode cL_law 584 = .ok (.iload_n 3, 1) := by decide +kernel
theorem dL_law_585 : decode cL_law 585 = .ok (.iconst 1, 1) := by decide +kernel
theorem dL_law_586 : decode cL_law 586 = .ok (.iadd, 1) := by decide +kernel
theorem dL_law_587 : decode cL_law 587 = .ok (.iaload, 1) := by decide +kernel
theorem dL_law_588 : decode cL_law 588 = .ok (.invokevirtual 73, 3) := by decide +kernel
theorem dL_law_591 : decode cL_law 591 = .ok (.aload_n 2, 1) := by decide +kernel
theorem dL_law_592 : decode cL_law 592 = .ok (.aload_n 0, 1) := by decide +kernel
theorem dL_law_593 : decode cL_law 593 = .ok (.iload_n 3, 1) := by decide +kernel
theorem dL_law_594 : decode cL_law 594 = .ok (.iconst 1, 1) := by decide +kernel
theorem dL_law_595 : decode cL_law 595 = .ok (.iadd, 1) := by decide +kernel
theorem dL_law_596 : decode cL_law 596 = .ok (.iaload, 1) := by decide +kernel
theorem dL_law_597 : decode cL_law 597 = .ok (.invokevirtual 76, 3) := by decide +kernel
theorem dL_law_600 : decode cL_law 600 = .ok (.if_icmp .eq 769, 3) := by decide +kernel
theorem dL_law_603 : decode cL_law 603 = .ok (.iconst 0, 1) := by decide +kernel
theorem dL_law_604 : decode cL_law 604 = .ok (.ireturn, 1) := by decide +kernel
theorem dL_law_605 : decode cL_law 605 = .ok (.aload_n 1, 1) := by decide +kernel
theorem dL_law_606 : decode cL_law 606 = .ok (.aload_n 0, 1) := by decide +kernel
theorem dL_law_607 : decode cL_law 607 = .ok (.iload_n 3, 1) := by decide +kernel
theorem dL_law_608 : decode cL_law 608 = .ok (.iconst 1, 1) := by decide +kernel
theorem dL_law_609 : decode cL_law 609 = .ok (.iadd, 1) := by decide +kernel
theorem dL_law_610 : decode cL_law 610 = .ok (.iaload, 1) := by decide +kernel
theorem dL_law_611 : decode cL_law 611 = .ok (.aload_n 0, 1) := by decide +kernel
theorem dL_law_612 : decode cL_law 612 = .ok (.iload_n 3, 1) := by decide +kernel
theorem dL_law_613 : decode cL_law 613 = .ok (.iconst 2, 1) := by decide +kernel
theorem dL_law_614 : decode cL_law 614 = .ok (.iadd, 1) := by decide +kernel
theorem dL_law_615 : decode cL_law 615 = .ok (.iaload, 1) := by decide +kernel
theorem dL_law_616 : decode cL_law 616 = .ok (.invokevirtual 77, 3) := by decide +kernel
theorem dL_law_619 : decode cL_law 619 = .ok (.aload_n 2, 1) := by decide +kernel
theorem dL_law_620 : decode cL_law 620 = .ok (.aload_n 0, 1) := by decide +kernel
theorem dL_law_621 : decode cL_law 621 = .ok (.iload_n 3, 1) := by decide +kernel
theorem dL_law_622 : decode cL_law 622 = .ok (.iconst 1, 1) := by decide +kernel
theorem dL_law_623 : decode cL_law 623 = .ok (.iadd, 1) := by decide +kernel
theorem dL_law_624 : decode cL_law 624 = .ok (.iaload, 1) := by decide +kernel
theorem dL_law_625 : decode cL_law 625 = .ok (.aload_n 0, 1) := by decide +kernel
theorem dL_law_626 : decode cL_law 626 = .ok (.iload_n 3, 1) := by decide +kernel
theorem dL_law_627 : decode cL_law 627 = .ok (.iconst 2, 1) := by decide +kernel
theorem dL_law_628 : decode cL_law 628 = .ok (.iadd, 1) := by decide +kernel
theorem dL_law_629 : decode cL_law 629 = .ok (.iaload, 1) := by decide +kernel
theorem dL_law_630 : decode cL_law 630 = .ok (.invokevirtual 80, 3) := by decide +kernel
theorem dL_law_633 : decode cL_law 633 = .ok (.if_icmp .eq 736, 3) := by decide +kernel
theorem dL_law_636 : decode cL_law 636 = .ok (.iconst 0, 1) := by decide +kernel
theorem dL_law_637 : decode cL_law 637 = .ok (.ireturn, 1) := by decide +kernel
theorem dL_law_638 : decode cL_law 638 = .ok (.aload_n 1, 1) := by decide +kernel
theorem dL_law_639 : decode cL_law 639 = .ok (.aload_n 0, 1) := by decide +kernel
theorem dL_law_640 : decode cL_law 640 = .ok (.iload_n 3, 1) := by decide +kernel
theorem dL_law_641 : decode cL_law 641 = .ok (.iconst 1, 1) := by decide +kernel
theorem dL_law_642 : decode cL_law 642 = .ok (.iadd, 1) := by decide +kernel
theorem dL_law_643 : decode cL_law 643 = .ok (.iaload, 1) := by decide +kernel
theorem dL_law_644 : decode cL_law 644 = .ok (.aload_n 0, 1) := by decide +kernel
theorem dL_law_645 : decode cL_law 645 = .ok (.iload_n 3, 1) := by decide +kernel
theorem dL_law_646 : decode cL_law 646 = .ok (.iconst 2, 1) := by decide +kernel
theorem dL_law_647 : decode cL_law 647 = .ok (.iadd, 1) := by decide +kernel
theorem dL_law_648 : decode cL_law 648 = .ok (.iaload, 1) := by decide +kernel
theorem dL_law_649 : decode cL_law 649 = .ok (.aload_n 0, 1) := by decide +kernel
theorem dL_law_650 : decode cL_law 650 = .ok (.iload_n 3, 1) := by decide +kernel
theorem dL_law_651 : decode cL_law 651 = .ok (.iconst 3, 1) := by decide +kernel
theorem dL_law_652 : decode cL_law 652 = .ok (.iadd, 1) := by decide +kernel
theorem dL_law_653 : decode cL_law 653 = .ok (.iaload, 1) := by decide +kernel
theorem dL_law_654 : decode cL_law 654 = .ok (.invokevirtual 81, 3) := by decide +kernel
theorem dL_law_657 : decode cL_law 657 = .ok (.aload_n 2, 1) := by decide +kernel
theorem dL_law_658 : decode cL_law 658 = .ok (.aload_n 0, 1) := by decide +kernel
theorem dL_law_659 : decode cL_law 659 = .ok (.iload_n 3, 1) := by decide +kernel
theorem dL_law_660 : decode cL_law 660 = .ok (.iconst 1, 1) := by decide +kernel
theorem dL_law_661 : decode cL_law 661 = .ok (.iadd, 1) := by decide +kernel
theorem dL_law_662 : decode cL_law 662 = .ok (.iaload, 1) := by decide +kernel
theorem dL_law_663 : decode cL_law 663 = .ok (.aload_n 0, 1) := by decide +kernel
theorem dL_law_664 : decode cL_law 664 = .ok (.iload_n 3, 1) := by decide +kernel
theorem dL_law_665 : decode cL_law 665 = .ok (.iconst 2, 1) := by decide +kernel
theorem dL_law_666 : decode cL_law 666 = .ok (.iadd, 1) := by decide +kernel
theorem dL_law_667 : decode cL_law 667 = .ok (.iaload, 1) := by decide +kernel
theorem dL_law_668 : decode cL_law 668 = .ok (.aload_n 0, 1) := by decide +kernel
theorem dL_law_669 : decode cL_law 669 = .ok (.iload_n 3, 1) := by decide +kernel
theorem dL_law_670 : decode cL_law 670 = .ok (.iconst 3, 1) := by decide +kernel
theorem dL_law_671 : decode cL_law 671 = .ok (.iadd, 1) := by decide +kernel
theorem dL_law_672 : decode cL_law 672 = .ok (.iaload, 1) := by decide +kernel
theorem dL_law_673 : decode cL_law 673 = .ok (.invokevirtual 84, 3) := by decide +kernel
theorem dL_law_676 : decode cL_law 676 = .ok (.if_icmp .eq 693, 3) := by decide +kernel
theorem dL_law_679 : decode cL_law 679 = .ok (.iconst 0, 1) := by decide +kernel
theorem dL_law_680 : decode cL_law 680 = .ok (.ireturn, 1) := by decide +kernel
theorem dL_law_681 : decode cL_law 681 = .ok (.aload_n 1, 1) := by decide +kernel
theorem dL_law_682 : decode cL_law 682 = .ok (.aload_n 0, 1) := by decide +kernel
theorem dL_law_683 : decode cL_law 683 = .ok (.iload_n 3, 1) := by decide +kernel
theorem dL_law_684 : decode cL_law 684 = .ok (.iconst 1, 1) := by decide +kernel
theorem dL_law_685 : decode cL_law 685 = .ok (.iadd, 1) := by decide +kernel
theorem dL_law_686 : decode cL_law 686 = .ok (.iaload, 1) := by decide +kernel
theorem dL_law_687 : decode cL_law 687 = .ok (.aload_n 0, 1) := by decide +kernel
theorem dL_law_688 : decode cL_law 688 = .ok (.iload_n 3, 1) := by decide +kernel
theorem dL_law_689 : decode cL_law 689 = .ok (.iconst 2, 1) := by decide +kernel
theorem dL_law_690 : decode cL_law 690 = .ok (.iadd, 1) := by decide +kernel
theorem dL_law_691 : decode cL_law 691 = .ok (.iaload, 1) := by decide +kernel
theorem dL_law_692 : decode cL_law 692 = .ok (.aload_n 0, 1) := by decide +kernel
theorem dL_law_693 : decode cL_law 693 = .ok (.iload_n 3, 1) := by decide +kernel
theorem dL_law_694 : decode cL_law 694 = .ok (.iconst 3, 1) := by decide +kernel
theorem dL_law_695 : decode cL_law 695 = .ok (.iadd, 1) := by decide +kernel
theorem dL_law_696 : decode cL_law 696 = .ok (.iaload, 1) := by decide +kernel
theorem dL_law_697 : decode cL_law 697 = .ok (.ifCond .eq 7, 3) := by decide +kernel
theorem dL_law_700 : decode cL_law 700 = .ok (.iconst 1, 1) := by decide +kernel
theorem dL_law_701 : decode cL_law 701 = .ok (.goto 4, 3) := by decide +kernel
theorem dL_law_704 : decode cL_law 704 = .ok (.iconst 0, 1) := by decide +kernel
theorem dL_law_705 : decode cL_law 705 = .ok (.invokevirtual 85, 3) := by decide +kernel
theorem dL_law_708 : decode cL_law 708 = .ok (.aload_n 2, 1) := by decide +kernel
theorem dL_law_709 : decode cL_law 709 = .ok (.aload_n 0, 1) := by decide +kernel
theorem dL_law_710 : decode cL_law 710 = .ok (.iload_n 3, 1) := by decide +kernel
theorem dL_law_711 : decode cL_law 711 = .ok (.iconst 1, 1) := by decide +kernel
theorem dL_law_712 : decode cL_law 712 = .ok (.iadd, 1) := by decide +kernel
theorem dL_law_713 : decode cL_law 713 = .ok (.iaload, 1) := by decide +kernel
theorem dL_law_714 : decode cL_law 714 = .ok (.aload_n 0, 1) := by decide +kernel
theorem dL_law_715 : decode cL_law 715 = .ok (.iload_n 3, 1) := by decide +kernel
theorem dL_law_716 : decode cL_law 716 = .ok (.iconst 2, 1) := by decide +kernel
theorem dL_law_717 : decode cL_law 717 = .ok (.iadd, 1) := by decide +kernel
theorem dL_law_718 : decode cL_law 718 = .ok (.iaload, 1) := by decide +kernel
theorem dL_law_719 : decode cL_law 719 = .ok (.aload_n 0, 1) := by decide +kernel
theorem dL_law_720 : decode cL_law 720 = .ok (.iload_n 3, 1) := by decide +kernel
theorem dL_law_721 : decode cL_law 721 = .ok (.iconst 3, 1) := by decide +kernel
theorem dL_law_722 : decode cL_law 722 = .ok (.iadd, 1) := by decide +kernel
theorem dL_law_723 : decode cL_law 723 = .ok (.iaload, 1) := by decide +kernel
theorem dL_law_724 : decode cL_law 724 = .ok (.ifCond .eq 7, 3) := by decide +kernel
theorem dL_law_727 : decode cL_law 727 = .ok (.iconst 1, 1) := by decide +kernel
theorem dL_law_728 : decode cL_law 728 = .ok (.goto 4, 3) := by decide +kernel
theorem dL_law_731 : decode cL_law 731 = .ok (.iconst 0, 1) := by decide +kernel
theorem dL_law_732 : decode cL_law 732 = .ok (.invokevirtual 89, 3) := by decide +kernel
theorem dL_law_735 : decode cL_law 735 = .ok (.if_icmp .eq 634, 3) := by decide +kernel
theorem dL_law_738 : decode cL_law 738 = .ok (.iconst 0, 1) := by decide +kernel
theorem dL_law_739 : decode cL_law 739 = .ok (.ireturn, 1) := by decide +kernel
theorem dL_law_740 : decode cL_law 740 = .ok (.aload_n 1, 1) := by decide +kernel
theorem dL_law_741 : decode cL_law 741 = .ok (.aload_n 0, 1) := by decide +kernel
theorem dL_law_742 : decode cL_law 742 = .ok (.iload_n 3, 1) := by decide +kernel
theorem dL_law_743 : decode cL_law 743 = .ok (.iconst 1, 1) := by decide +kernel
theorem dL_law_744 : decode cL_law 744 = .ok (.iadd, 1) := by decide +kernel
theorem dL_law_745 : decode cL_law 745 = .ok (.iaload, 1) := by decide +kernel
theorem dL_law_746 : decode cL_law 746 = .ok (.aload_n 0, 1) := by decide +kernel
theorem dL_law_747 : decode cL_law 747 = .ok (.iload_n 3, 1) := by decide +kernel
theorem dL_law_748 : decode cL_law 748 = .ok (.iconst 2, 1) := by decide +kernel
theorem dL_law_749 : decode cL_law 749 = .ok (.iadd, 1) := by decide +kernel
theorem dL_law_750 : decode cL_law 750 = .ok (.iaload, 1) := by decide +kernel
theorem dL_law_751 : decode cL_law 751 = .ok (.invokevirtual 90, 3) := by decide +kernel
theorem dL_law_754 : decode cL_law 754 = .ok (.aload_n 2, 1) := by decide +kernel
theorem dL_law_755 : decode cL_law 755 = .ok (.aload_n 0, 1) := by decide +kernel
theorem dL_law_756 : decode cL_law 756 = .ok (.iload_n 3, 1) := by decide +kernel
theorem dL_law_757 : decode cL_law 757 = .ok (.iconst 1, 1) := by decide +kernel
theorem dL_law_758 : decode cL_law 758 = .ok (.iadd, 1) := by decide +kernel
theorem dL_law_759 : decode cL_law 759 = .ok (.iaload, 1) := by decide +kernel
theorem dL_law_760 : decode cL_law 760 = .ok (.aload_n 0, 1) := by decide +kernel
theorem dL_law_761 : decode cL_law 761 = .ok (.iload_n 3, 1) := by decide +kernel
theorem dL_law_762 : decode cL_law 762 = .ok (.iconst 2, 1) := by decide +kernel
theorem dL_law_763 : decode cL_law 763 = .ok (.iadd, 1) := by decide +kernel
theorem dL_law_764 : decode cL_law 764 = .ok (.iaload, 1) := by decide +kernel
theorem dL_law_765 : decode cL_law 765 = .ok (.invokevirtual 93, 3) := by decide +kernel
theorem dL_law_768 : decode cL_law 768 = .ok (.if_icmp .eq 601, 3) := by decide +kernel
theorem dL_law_771 : decode cL_law 771 = .ok (.iconst 0, 1) := by decide +kernel
theorem dL_law_772 : decode cL_law 772 = .ok (.ireturn, 1) := by decide +kernel
theorem dL_law_773 : decode cL_law 773 = .ok (.aload_n 1, 1) := by decide +kernel
theorem dL_law_774 : decode cL_law 774 = .ok (.aload_n 0, 1) := by decide +kernel
theorem dL_law_775 : decode cL_law 775 = .ok (.iload_n 3, 1) := by decide +kernel
theorem dL_law_776 : decode cL_law 776 = .ok (.iconst 1, 1) := by decide +kernel
theorem dL_law_777 : decode cL_law 777 = .ok (.iadd, 1) := by decide +kernel
theorem dL_law_778 : decode cL_law 778 = .ok (.iaload, 1) := by decide +kernel
theorem dL_law_779 : decode cL_law 779 = .ok (.aload_n 0, 1) := by decide +kernel
theorem dL_law_780 : decode cL_law 780 = .ok (.iload_n 3, 1) := by decide +kernel
theorem dL_law_781 : decode cL_law 781 = .ok (.iconst 2, 1) := by decide +kernel
theorem dL_law_782 : decode cL_law 782 = .ok (.iadd, 1) := by decide +kernel
theorem dL_law_783 : decode cL_law 783 = .ok (.iaload, 1) := by decide +kernel
theorem dL_law_784 : decode cL_law 784 = .ok (.invokevirtual 94, 3) := by decide +kernel
theorem dL_law_787 : decode cL_law 787 = .ok (.aload_n 2, 1) := by decide +kernel
theorem dL_law_788 : decode cL_law 788 = .ok (.aload_n 0, 1) := by decide +kernel
theorem dL_law_789 : decode cL_law 789 = .ok (.iload_n 3, 1) := by decide +kernel
theorem dL_law_790 : decode cL_law 790 = .ok (.iconst 1, 1) := by decide +kernel
theorem dL_law_791 : decode cL_law 791 = .ok (.iadd, 1) := by decide +kernel
theorem dL_law_792 : decode cL_law 792 = .ok (.iaload, 1) := by decide +kernel
theorem dL_law_793 : decode cL_law 793 = .ok (.aload_n 0, 1) := by decide +kernel
theorem dL_law_794 : decode cL_law 794 = .ok (.iload_n 3, 1) := by decide +kernel
theorem dL_law_795 : decode cL_law 795 = .ok (.iconst 2, 1) := by decide +kernel
theorem dL_law_796 : decode cL_law 796 = .ok (.iadd, 1) := by decide +kernel
theorem dL_law_797 : decode cL_law 797 = .ok (.iaload, 1) := by decide +kernel
theorem dL_law_798 : decode cL_law 798 = .ok (.invokevirtual 97, 3) := by decide +kernel
theorem dL_law_801 : decode cL_law 801 = .ok (.if_icmp .eq 568, 3) := by decide +kernel
theorem dL_law_804 : decode cL_law 804 = .ok (.iconst 0, 1) := by decide +kernel
theorem dL_law_805 : decode cL_law 805 = .ok (.ireturn, 1) := by decide +kernel
theorem dL_law_806 : decode cL_law 806 = .ok (.aload_n 1, 1) := by decide +kernel
theorem dL_law_807 : decode cL_law 807 = .ok (.aload_n 0, 1) := by decide +kernel
theorem dL_law_808 : decode cL_law 808 = .ok (.iload_n 3, 1) := by decide +kernel
theorem dL_law_809 : decode cL_law 809 = .ok (.iconst 1, 1) := by decide +kernel
theorem dL_law_810 : decode cL_law 810 = .ok (.iadd, 1) := by decide +kernel
theorem dL_law_811 : decode cL_law 811 = .ok (.iaload, 1) := by decide +kernel
theorem dL_law_812 : decode cL_law 812 = .ok (.aload_n 0, 1) := by decide +kernel
theorem dL_law_813 : decode cL_law 813 = .ok (.iload_n 3, 1) := by decide +kernel
theorem dL_law_814 : decode cL_law 814 = .ok (.iconst 2, 1) := by decide +kernel
theorem dL_law_815 : decode cL_law 815 = .ok (.iadd, 1) := by decide +kernel
theorem dL_law_816 : decode cL_law 816 = .ok (.iaload, 1) := by decide +kernel
theorem dL_law_817 : decode cL_law 817 = .ok (.aload_n 0, 1) := by decide +kernel
theorem dL_law_818 : decode cL_law 818 = .ok (.iload_n 3, 1) := by decide +kernel
theorem dL_law_819 : decode cL_law 819 = .ok (.iconst 3, 1) := by decide +kernel
theorem dL_law_820 : decode cL_law 820 = .ok (.iadd, 1) := by decide +kernel
theorem dL_law_821 : decode cL_law 821 = .ok (.iaload, 1) := by decide +kernel
theorem dL_law_822 : decode cL_law 822 = .ok (.aload_n 0, 1) := by decide +kernel
theorem dL_law_823 : decode cL_law 823 = .ok (.iload_n 3, 1) := by decide +kernel
theorem dL_law_824 : decode cL_law 824 = .ok (.iconst 4, 1) := by decide +kernel
theorem dL_law_825 : decode cL_law 825 = .ok (.iadd, 1) := by decide +kernel
theorem dL_law_826 : decode cL_law 826 = .ok (.iaload, 1) := by decide +kernel
theorem dL_law_827 : decode cL_law 827 = .ok (.aload_n 0, 1) := by decide +kernel
theorem dL_law_828 : decode cL_law 828 = .ok (.iload_n 3, 1) := by decide +kernel
theorem dL_law_829 : decode cL_law 829 = .ok (.iconst 5, 1) := by decide +kernel
theorem dL_law_830 : decode cL_law 830 = .ok (.iadd, 1) := by decide +kernel
theorem dL_law_831 : decode cL_law 831 = .ok (.iaload, 1) := by decide +kernel
theorem dL_law_832 : decode cL_law 832 = .ok (.invokevirtual 98, 3) := by decide +kernel
theorem dL_law_835 : decode cL_law 835 = .ok (.aload_n 2, 1) := by decide +kernel
theorem dL_law_836 : decode cL_law 836 = .ok (.aload_n 0, 1) := by decide +kernel
theorem dL_law_837 : decode cL_law 837 = .ok (.iload_n 3, 1) := by decide +kernel
theorem dL_law_838 : decode cL_law 838 = .ok (.iconst 1, 1) := by decide +kernel
theorem dL_law_839 : decode cL_law 839 = .ok (.iadd, 1) := by decide +kernel
theorem dL_law_840 : decode cL_law 840 = .ok (.iaload, 1) := by decide +kernel
theorem dL_law_841 : decode cL_law 841 = .ok (.aload_n 0, 1) := by decide +kernel
theorem dL_law_842 : decode cL_law 842 = .ok (.iload_n 3, 1) := by decide +kernel
theorem dL_law_843 : decode cL_law 843 = .ok (.iconst 2, 1) := by decide +kernel
theorem dL_law_844 : decode cL_law 844 = .ok (.iadd, 1) := by decide +kernel
theorem dL_law_845 : decode cL_law 845 = .ok (.iaload, 1) := by decide +kernel
theorem dL_law_846 : decode cL_law 846 = .ok (.aload_n 0, 1) := by decide +kernel
theorem dL_law_847 : decode cL_law 847 = .ok (.iload_n 3, 1) := by decide +kernel
theorem dL_law_848 : decode cL_law 848 = .ok (.iconst 3, 1) := by decide +kernel
theorem dL_law_849 : decode cL_law 849 = .ok (.iadd, 1) := by decide +kernel
theorem dL_law_850 : decode cL_law 850 = .ok (.iaload, 1) := by decide +kernel
theorem dL_law_851 : decode cL_law 851 = .ok (.aload_n 0, 1) := by decide +kernel
theorem dL_law_852 : decode cL_law 852 = .ok (.iload_n 3, 1) := by decide +kernel
theorem dL_law_853 : decode cL_law 853 = .ok (.iconst 4, 1) := by decide +kernel
theorem dL_law_854 : decode cL_law 854 = .ok (.iadd, 1) := by decide +kernel
theorem dL_law_855 : decode cL_law 855 = .ok (.iaload, 1) := by decide +kernel
theorem dL_law_856 : decode cL_law 856 = .ok (.aload_n 0, 1) := by decide +kernel
theorem dL_law_857 : decode cL_law 857 = .ok (.iload_n 3, 1) := by decide +kernel
theorem dL_law_858 : decode cL_law 858 = .ok (.iconst 5, 1) := by decide +kernel
theorem dL_law_859 : decode cL_law 859 = .ok (.iadd, 1) := by decide +kernel
theorem dL_law_860 : decode cL_law 860 = .ok (.iaload, 1) := by decide +kernel
theorem dL_law_861 : decode cL_law 861 = .ok (.invokevirtual 101, 3) := by decide +kernel
theorem dL_law_864 : decode cL_law 864 = .ok (.if_icmp .eq 505, 3) := by decide +kernel
theorem dL_law_867 : decode cL_law 867 = .ok (.iconst 0, 1) := by decide +kernel
theorem dL_law_868 : decode cL_law 868 = .ok (.ireturn, 1) := by decide +kernel
theorem dL_law_869 : decode cL_law 869 = .ok (.aload_n 1, 1) := by decide +kernel
theorem dL_law_870 : decode cL_law 870 = .ok (.aload_n 0, 1) := by decide +kernel
theorem dL_law_871 : decode cL_law 871 = .ok (.iload_n 3, 1) := by decide +kernel
theorem dL_law_872 : decode cL_law 872 = .ok (.iconst 1, 1) := by decide +kernel
theorem dL_law_873 : decode cL_law 873 = .ok (.iadd, 1) := by decide +kernel
theorem dL_law_874 : decode cL_law 874 = .ok (.iaload, 1) := by decide +kernel
theorem dL_law_875 : decode cL_law 875 = .ok (.aload_n 0, 1) := by decide +kernel
theorem dL_law_876 : decode cL_law 876 = .ok (.iload_n 3, 1) := by decide +kernel
theorem dL_law_877 : decode cL_law 877 = .ok (.iconst 2, 1) := by decide +kernel
theorem dL_law_878 : decode cL_law 878 = .ok (.iadd, 1) := by decide +kernel
theorem dL_law_879 : decode cL_law 879 = .ok (.iaload, 1) := by decide +kernel
theorem dL_law_880 : decode cL_law 880 = .ok (.aload_n 0, 1) := by decide +kernel
theorem dL_law_881 : decode cL_law 881 = .ok (.iload_n 3, 1) := by decide +kernel
theorem dL_law_882 : decode cL_law 882 = .ok (.iconst 3, 1) := by decide +kernel
theorem dL_law_883 : decode cL_law 883 = .ok (.iadd, 1) := by decide +kernel
theorem dL_law_884 : decode cL_law 884 = .ok (.iaload, 1) := by decide +kernel
theorem dL_law_885 : decode cL_law 885 = .ok (.aload_n 0, 1) := by decide +kernel
theorem dL_law_886 : decode cL_law 886 = .ok (.iload_n 3, 1) := by decide +kernel
theorem dL_law_887 : decode cL_law 887 = .ok (.iconst 4, 1) := by decide +kernel
theorem dL_law_888 : decode cL_law 888 = .ok (.iadd, 1) := by decide +kernel
theorem dL_law_889 : decode cL_law 889 = .ok (.iaload, 1) := by decide +kernel
theorem dL_law_890 : decode cL_law 890 = .ok (.aload_n 0, 1) := by decide +kernel
theorem dL_law_891 : decode cL_law 891 = .ok (.iload_n 3, 1) := by decide +kernel
theorem dL_law_892 : decode cL_law 892 = .ok (.iconst 5, 1) := by decide +kernel
theorem dL_law_893 : decode cL_law 893 = .ok (.iadd, 1) := by decide +kernel
theorem dL_law_894 : decode cL_law 894 = .ok (.iaload, 1) := by decide +kernel
theorem dL_law_895 : decode cL_law 895 = .ok (.invokevirtual 102, 3) := by decide +kernel
theorem dL_law_898 : decode cL_law 898 = .ok (.aload_n 2, 1) := by decide +kernel
theorem dL_law_899 : decode cL_law 899 = .ok (.aload_n 0, 1) := by decide +kernel
theorem dL_law_900 : decode cL_law 900 = .ok (.iload_n 3, 1) := by decide +kernel
theorem dL_law_901 : decode cL_law 901 = .ok (.iconst 1, 1) := by decide +kernel
theorem dL_law_902 : decode cL_law 902 = .ok (.iadd, 1) := by decide +kernel
theorem dL_law_903 : decode cL_law 903 = .ok (.iaload, 1) := by decide +kernel
theorem dL_law_904 : decode cL_law 904 = .ok (.aload_n 0, 1) := by decide +kernel
theorem dL_law_905 : decode cL_law 905 = .ok (.iload_n 3, 1) := by decide +kernel
theorem dL_law_906 : decode cL_law 906 = .ok (.iconst 2, 1) := by decide +kernel
theorem dL_law_907 : decode cL_law 907 = .ok (.iadd, 1) := by decide +kernel
theorem dL_law_908 : decode cL_law 908 = .ok (.iaload, 1) := by decide +kernel
theorem dL_law_909 : decode cL_law 909 = .ok (.aload_n 0, 1) := by decide +kernel
theorem dL_law_910 : decode cL_law 910 = .ok (.iload_n 3, 1) := by decide +kernel
theorem dL_law_911 : decode cL_law 911 = .ok (.iconst 3, 1) := by decide +kernel
theorem dL_law_912 : decode cL_law 912 = .ok (.iadd, 1) := by decide +kernel
theorem dL_law_913 : decode cL_law 913 = .ok (.iaload, 1) := by decide +kernel
theorem dL_law_914 : decode cL_law 914 = .ok (.aload_n 0, 1) := by decide +kernel
theorem dL_law_915 : decode cL_law 915 = .ok (.iload_n 3, 1) := by decide +kernel
theorem dL_law_916 : decode cL_law 916 = .ok (.iconst 4, 1) := by decide +kernel
theorem dL_law_917 : decode cL_law 917 = .ok (.iadd, 1) := by decide +kernel
theorem dL_law_918 : decode cL_law 918 = .ok (.iaload, 1) := by decide +kernel
theorem dL_law_919 : decode cL_law 919 = .ok (.aload_n 0, 1) := by decide +kernel
theorem dL_law_920 : decode cL_law 920 = .ok (.iload_n 3, 1) := by decide +kernel
theorem dL_law_921 : decode cL_law 921 = .ok (.iconst 5, 1) := by decide +kernel
theorem dL_law_922 : decode cL_law 922 = .ok (.iadd, 1) := by decide +kernel
theorem dL_law_923 : decode cL_law 923 = .ok (.iaload, 1) := by decide +kernel
theorem dL_law_924 : decode cL_law 924 = .ok (.invokevirtual 105, 3) := by decide +kernel
theorem dL_law_927 : decode cL_law 927 = .ok (.if_icmp .eq 442, 3) := by decide +kernel
theorem dL_law_930 : decode cL_law 930 = .ok (.iconst 0, 1) := by decide +kernel
theorem dL_law_931 : decode cL_law 931 = .ok (.ireturn, 1) := by decide +kernel
theorem dL_law_932 : decode cL_law 932 = .ok (.aload_n 1, 1) := by decide +kernel
theorem dL_law_933 : decode cL_law 933 = .ok (.aload_n 0, 1) := by decide +kernel
theorem dL_law_934 : decode cL_law 934 = .ok (.iload_n 3, 1) := by decide +kernel
theorem dL_law_935 : decode cL_law 935 = .ok (.iconst 1, 1) := by decide +kernel
theorem dL_law_936 : decode cL_law 936 = .ok (.iadd, 1) := by decide +kernel
theorem dL_law_937 : decode cL_law 937 = .ok (.iaload, 1) := by decide +kernel
theorem dL_law_938 : decode cL_law 938 = .ok (.aload_n 0, 1) := by decide +kernel
theorem dL_law_939 : decode cL_law 939 = .ok (.iload_n 3, 1) := by decide +kernel
theorem dL_law_940 : decode cL_law 940 = .ok (.iconst 2, 1) := by decide +kernel
theorem dL_law_941 : decode cL_law 941 = .ok (.iadd, 1) := by decide +kernel
theorem dL_law_942 : decode cL_law 942 = .ok (.iaload, 1) := by decide +kernel
theorem dL_law_943 : decode cL_law 943 = .ok (.aload_n 0, 1) := by decide +kernel
theorem dL_law_944 : decode cL_law 944 = .ok (.iload_n 3, 1) := by decide +kernel
theorem dL_law_945 : decode cL_law 945 = .ok (.iconst 3, 1) := by decide +kernel
theorem dL_law_946 : decode cL_law 946 = .ok (.iadd, 1) := by decide +kernel
theorem dL_law_947 : decode cL_law 947 = .ok (.iaload, 1) := by decide +kernel
theorem dL_law_948 : decode cL_law 948 = .ok (.invokevirtual 106, 3) := by decide +kernel
theorem dL_law_951 : decode cL_law 951 = .ok (.aload_n 2, 1) := by decide +kernel
theorem dL_law_952 : decode cL_law 952 = .ok (.aload_n 0, 1) := by decide +kernel
theorem dL_law_953 : decode cL_law 953 = .ok (.iload_n 3, 1) := by decide +kernel
theorem dL_law_954 : decode cL_law 954 = .ok (.iconst 1, 1) := by decide +kernel
theorem dL_law_955 : decode cL_law 955 = .ok (.iadd, 1) := by decide +kernel
theorem dL_law_956 : decode cL_law 956 = .ok (.iaload, 1) := by decide +kernel
theorem dL_law_957 : decode cL_law 957 = .ok (.aload_n 0, 1) := by decide +kernel
theorem dL_law_958 : decode cL_law 958 = .ok (.iload_n 3, 1) := by decide +kernel
theorem dL_law_959 : decode cL_law 959 = .ok (.iconst 2, 1) := by decide +kernel
theorem dL_law_960 : decode cL_law 960 = .ok (.iadd, 1) := by decide +kernel
theorem dL_law_961 : decode cL_law 961 = .ok (.iaload, 1) := by decide +kernel
theorem dL_law_962 : decode cL_law 962 = .ok (.aload_n 0, 1) := by decide +kernel
theorem dL_law_963 : decode cL_law 963 = .ok (.iload_n 3, 1) := by decide +kernel
theorem dL_law_964 : decode cL_law 964 = .ok (.iconst 3, 1) := by decide +kernel
theorem dL_law_965 : decode cL_law 965 = .ok (.iadd, 1) := by decide +kernel
theorem dL_law_966 : decode cL_law 966 = .ok (.iaload, 1) := by decide +kernel
theorem dL_law_967 : decode cL_law 967 = .ok (.invokevirtual 109, 3) := by decide +kernel
theorem dL_law_970 : decode cL_law 970 = .ok (.if_icmp .eq 399, 3) := by decide +kernel
theorem dL_law_973 : decode cL_law 973 = .ok (.iconst 0, 1) := by decide +kernel
theorem dL_law_974 : decode cL_law 974 = .ok (.ireturn, 1) := by decide +kernel
theorem dL_law_975 : decode cL_law 975 = .ok (.aload_n 1, 1) := by decide +kernel
theorem dL_law_976 : decode cL_law 976 = .ok (.aload_n 0, 1) := by decide +kernel
theorem dL_law_977 : decode cL_law 977 = .ok (.iload_n 3, 1) := by decide +kernel
theorem dL_law_978 : decode cL_law 978 = .ok (.iconst 1, 1) := by decide +kernel
theorem dL_law_979 : decode cL_law 979 = .ok (.iadd, 1) := by decide +kernel
theorem dL_law_980 : decode cL_law 980 = .ok (.iaload, 1) := by decide +kernel
theorem dL_law_981 : decode cL_law 981 = .ok (.aload_n 0, 1) := by decide +kernel
theorem dL_law_982 : decode cL_law 982 = .ok (.iload_n 3, 1) := by decide +kernel
theorem dL_law_983 : decode cL_law 983 = .ok (.iconst 2, 1) := by decide +kernel
theorem dL_law_984 : decode cL_law 984 = .ok (.iadd, 1) := by decide +kernel
theorem dL_law_985 : decode cL_law 985 = .ok (.iaload, 1) := by decide +kernel
theorem dL_law_986 : decode cL_law 986 = .ok (.invokevirtual 110, 3) := by decide +kernel
theorem dL_law_989 : decode cL_law 989 = .ok (.aload_n 2, 1) := by decide +kernel
theorem dL_law_990 : decode cL_law 990 = .ok (.aload_n 0, 1) := by decide +kernel
theorem dL_law_991 : decode cL_law 991 = .ok (.iload_n 3, 1) := by decide +kernel
theorem dL_law_992 : decode cL_law 992 = .ok (.iconst 1, 1) := by decide +kernel
theorem dL_law_993 : decode cL_law 993 = .ok (.iadd, 1) := by decide +kernel
theorem dL_law_994 : decode cL_law 994 = .ok (.iaload, 1) := by decide +kernel
theorem dL_law_995 : decode cL_law 995 = .ok (.aload_n 0, 1) := by decide +kernel
theorem dL_law_996 : decode cL_law 996 = .ok (.iload_n 3, 1) := by decide +kernel
theorem dL_law_997 : decode cL_law 997 = .ok (.iconst 2, 1) := by decide +kernel
theorem dL_law_998 : decode cL_law 998 = .ok (.iadd, 1) := by decide +kernel
theorem dL_law_999 : decode cL_law 999 = .ok (.iaload, 1) := by decide +kernel
theorem dL_law_1000 : decode cL_law 1000 = .ok (.invokevirtual 113, 3) := by decide +kernel
theorem dL_law_1003 : decode cL_law 1003 = .ok (.if_icmp .eq 366, 3) := by decide +kernel
theorem dL_law_1006 : decode cL_law 1006 = .ok (.iconst 0, 1) := by decide +kernel
theorem dL_law_1007 : decode cL_law 1007 = .ok (.ireturn, 1) := by decide +kernel
theorem dL_law_1008 : decode cL_law 1008 = .ok (.aload_n 1, 1) := by decide +kernel
theorem dL_law_1009 : decode cL_law 1009 = .ok (.aload_n 0, 1) := by decide +kernel
theorem dL_law_1010 : decode cL_law 1010 = .ok (.iload_n 3, 1) := by decide +kernel
theorem dL_law_1011 : decode cL_law 1011 = .ok (.iconst 1, 1) := by decide +kernel
theorem dL_law_1012 : decode cL_law 1012 = .ok (.iadd, 1) := by decide +kernel
theorem dL_law_1013 : decode cL_law 1013 = .ok (.iaload, 1) := by decide +kernel
theorem dL_law_1014 : decode cL_law 1014 = .ok (.aload_n 0, 1) := by decide +kernel
theorem dL_law_1015 : decode cL_law 1015 = .ok (.iload_n 3, 1) := by decide +kernel
theorem dL_law_1016 : decode cL_law 1016 = .ok (.iconst 2, 1) := by decide +kernel
theorem dL_law_1017 : decode cL_law 1017 = .ok (.iadd, 1) := by decide +kernel
theorem dL_law_1018 : decode cL_law 1018 = .ok (.iaload, 1) := by decide +kernel
theorem dL_law_1019 : decode cL_law 1019 = .ok (.aload_n 0, 1) := by decide +kernel
theorem dL_law_1020 : decode cL_law 1020 = .ok (.iload_n 3, 1) := by decide +kernel
theorem dL_law_1021 : decode cL_law 1021 = .ok (.iconst 3, 1) := by decide +kernel
theorem dL_law_1022 : decode cL_law 1022 = .ok (.iadd, 1) := by decide +kernel
theorem dL_law_1023 : decode cL_law 1023 = .ok (.iaload, 1) := by decide +kernel
theorem dL_law_1024 : decode cL_law 1024 = .ok (.aload_n 0, 1) := by decide +kernel
theorem dL_law_1025 : decode cL_law 1025 = .ok (.iload_n 3, 1) := by decide +kernel
theorem dL_law_1026 : decode cL_law 1026 = .ok (.iconst 4, 1) := by decide +kernel
theorem dL_law_1027 : decode cL_law 1027 = .ok (.iadd, 1) := by decide +kernel
theorem dL_law_1028 : decode cL_law 1028 = .ok (.iaload, 1) := by decide +kernel
theorem dL_law_1029 : decode cL_law 1029 = .ok (.aload_n 0, 1) := by decide +kernel
theorem dL_law_1030 : decode cL_law 1030 = .ok (.iload_n 3, 1) := by decide +kernel
theorem dL_law_1031 : decode cL_law 1031 = .ok (.iconst 5, 1) := by decide +kernel
theorem dL_law_1032 : decode cL_law 1032 = .ok (.iadd, 1) := by decide +kernel
theorem dL_law_1033 : decode cL_law 1033 = .ok (.iaload, 1) := by decide +kernel
theorem dL_law_1034 : decode cL_law 1034 = .ok (.invokevirtual 114, 3) := by decide +kernel
theorem dL_law_1037 : decode cL_law 1037 = .ok (.aload_n 2, 1) := by decide +kernel
theorem dL_law_1038 : decode cL_law 1038 = .ok (.aload_n 0, 1) := by decide +kernel
theorem dL_law_1039 : decode cL_law 1039 = .ok (.iload_n 3, 1) := by decide +kernel
theorem dL_law_1040 : decode cL_law 1040 = .ok (.iconst 1, 1) := by decide +kernel
theorem dL_law_1041 : decode cL_law 1041 = .ok (.iadd, 1) := by decide +kernel
theorem dL_law_1042 : decode cL_law 1042 = .ok (.iaload, 1) := by decide +kernel
theorem dL_law_1043 : decode cL_law 1043 = .ok (.aload_n 0, 1) := by decide +kernel
theorem dL_law_1044 : decode cL_law 1044 = .ok (.iload_n 3, 1) := by decide +kernel
theorem dL_law_1045 : decode cL_law 1045 = .ok (.iconst 2, 1) := by decide +kernel
theorem dL_law_1046 : decode cL_law 1046 = .ok (.iadd, 1) := by decide +kernel
theorem dL_law_1047 : decode cL_law 1047 = .ok (.iaload, 1) := by decide +kernel
theorem dL_law_1048 : decode cL_law 1048 = .ok (.aload_n 0, 1) := by decide +kernel
theorem dL_law_1049 : decode cL_law 1049 = .ok (.iload_n 3, 1) := by decide +kernel
theorem dL_law_1050 : decode cL_law 1050 = .ok (.iconst 3, 1) := by decide +kernel
theorem dL_law_1051 : decode cL_law 1051 = .ok (.iadd, 1) := by decide +kernel
theorem dL_law_1052 : decode cL_law 1052 = .ok (.iaload, 1) := by decide +kernel
theorem dL_law_1053 : decode cL_law 1053 = .ok (.aload_n 0, 1) := by decide +kernel
theorem dL_law_1054 : decode cL_law 1054 = .ok (.iload_n 3, 1) := by decide +kernel
theorem dL_law_1055 : decode cL_law 1055 = .ok (.iconst 4, 1) := by decide +kernel
theorem dL_law_1056 : decode cL_law 1056 = .ok (.iadd, 1) := by decide +kernel
theorem dL_law_1057 : decode cL_law 1057 = .ok (.iaload, 1) := by decide +kernel
theorem dL_law_1058 : decode cL_law 1058 = .ok (.aload_n 0, 1) := by decide +kernel
theorem dL_law_1059 : decode cL_law 1059 = .ok (.iload_n 3, 1) := by decide +kernel
theorem dL_law_1060 : decode cL_law 1060 = .ok (.iconst 5, 1) := by decide +kernel
theorem dL_law_1061 : decode cL_law 1061 = .ok (.iadd, 1) := by decide +kernel
theorem dL_law_1062 : decode cL_law 1062 = .ok (.iaload, 1) := by decide +kernel
theorem dL_law_1063 : decode cL_law 1063 = .ok (.invokevirtual 117, 3) := by decide +kernel
theorem dL_law_1066 : decode cL_law 1066 = .ok (.if_icmp .eq 303, 3) := by decide +kernel
theorem dL_law_1069 : decode cL_law 1069 = .ok (.iconst 0, 1) := by decide +kernel
theorem dL_law_1070 : decode cL_law 1070 = .ok (.ireturn, 1) := by decide +kernel
theorem dL_law_1071 : decode cL_law 1071 = .ok (.aload_n 1, 1) := by decide +kernel
theorem dL_law_1072 : decode cL_law 1072 = .ok (.aload_n 0, 1) := by decide +kernel
theorem dL_law_1073 : decode cL_law 1073 = .ok (.iload_n 3, 1) := by decide +kernel
theorem dL_law_1074 : decode cL_law 1074 = .ok (.iconst 1, 1) := by decide +kernel
theorem dL_law_1075 : decode cL_law 1075 = .ok (.iadd, 1) := by decide +kernel
theorem dL_law_1076 : decode cL_law 1076 = .ok (.iaload, 1) := by decide +kernel
theorem dL_law_1077 : decode cL_law 1077 = .ok (.invokevirtual 118, 3) := by decide +kernel
theorem dL_law_1080 : decode cL_law 1080 = .ok (.aload_n 2, 1) := by decide +kernel
theorem dL_law_1081 : decode cL_law 1081 = .ok (.aload_n 0, 1) := by decide +kernel
theorem dL_law_1082 : decode cL_law 1082 = .ok (.iload_n 3, 1) := by decide +kernel
theorem dL_law_1083 : decode cL_law 1083 = .ok (.iconst 1, 1) := by decide +kernel
theorem dL_law_1084 : decode cL_law 1084 = .ok (.iadd, 1) := by decide +kernel
theorem dL_law_1085 : decode cL_law 1085 = .ok (.iaload, 1) := by decide +kernel
theorem dL_law_1086 : decode cL_law 1086 = .ok (.invokevirtual 121, 3) := by decide +kernel
theorem dL_law_1089 : decode cL_law 1089 = .ok (.if_icmp .eq 280, 3) := by decide +kernel
theorem dL_law_1092 : decode cL_law 1092 = .ok (.iconst 0, 1) := by decide +kernel
theorem dL_law_1093 : decode cL_law 1093 = .ok (.ireturn, 1) := by decide +kernel
theorem dL_law_1094 : decode cL_law 1094 = .ok (.aload_n 1, 1) := by decide +kernel
theorem dL_law_1095 : decode cL_law 1095 = .ok (.aload_n 0, 1) := by decide +kernel
theorem dL_law_1096 : decode cL_law 1096 = .ok (.iload_n 3, 1) := by decide +kernel
theorem dL_law_1097 : decode cL_law 1097 = .ok (.iconst 1, 1) := by decide +kernel
theorem dL_law_1098 : decode cL_law 1098 = .ok (.iadd, 1) := by decide +kernel
theorem dL_law_1099 : decode cL_law 1099 = .ok (.iaload, 1) := by decide +kernel
theorem dL_law_1100 : decode cL_law 1100 = .ok (.invokevirtual 122, 3) := by decide +kernel
theorem dL_law_1103 : decode cL_law 1103 = .ok (.aload_n 2, 1) := by decide +kernel
theorem dL_law_1104 : decode cL_law 1104 = .ok (.aload_n 0, 1) := by decide +kernel
theorem dL_law_1105 : decode cL_law 1105 = .ok (.iload_n 3, 1) := by decide +kernel
theorem dL_law_1106 : decode cL_law 1106 = .ok (.iconst 1, 1) := by decide +kernel
theorem dL_law_1107 : decode cL_law 1107 = .ok (.iadd, 1) := by decide +kernel
theorem dL_law_1108 : decode cL_law 1108 = .ok (.iaload, 1) := by decide +kernel
theorem dL_law_1109 : decode cL_law 1109 = .ok (.invokevirtual 125, 3) := by decide +kernel
theorem dL_law_1112 : decode cL_law 1112 = .ok (.if_icmp .eq 257, 3) := by decide +kernel
theorem dL_law_1115 : decode cL_law 1115 = .ok (.iconst 0, 1) := by decide +kernel
theorem dL_law_1116 : decode cL_law 1116 = .ok (.ireturn, 1) := by decide +kernel
theorem dL_law_1117 : decode cL_law 1117 = .ok (.aload_n 1, 1) := by decide +kernel
theorem dL_law_1118 : decode cL_law 1118 = .ok (.aload_n 0, 1) := by decide +kernel
theorem dL_law_1119 : decode cL_law 1119 = .ok (.iload_n 3, 1) := by decide +kernel
theorem dL_law_1120 : decode cL_law 1120 = .ok (.iconst 1, 1) := by decide +kernel
theorem dL_law_1121 : decode cL_law 1121 = .ok (.iadd, 1) := by decide +kernel
theorem dL_law_1122 : decode cL_law 1122 = .ok (.iaload, 1) := by decide +kernel
theorem dL_law_1123 : decode cL_law 1123 = .ok (.aload_n 0, 1) := by decide +kernel
theorem dL_law_1124 : decode cL_law 1124 = .ok (.iload_n 3, 1) := by decide +kernel
theorem dL_law_1125 : decode cL_law 1125 = .ok (.iconst 2, 1) := by decide +kernel
theorem dL_law_1126 : decode cL_law 1126 = .ok (.iadd, 1) := by decide +kernel
theorem dL_law_1127 : decode cL_law 1127 = .ok (.iaload, 1) := by decide +kernel
theorem dL_law_1128 : decode cL_law 1128 = .ok (.invokevirtual 126, 3) := by decide +kernel
theorem dL_law_1131 : decode cL_law 1131 = .ok (.aload_n 2, 1) := by decide +kernel
theorem dL_law_1132 : decode cL_law 1132 = .ok (.aload_n 0, 1) := by decide +kernel
theorem dL_law_1133 : decode cL_law 1133 = .ok (.iload_n 3, 1) := by decide +kernel
theorem dL_law_1134 : decode cL_law 1134 = .ok (.iconst 1, 1) := by decide +kernel
theorem dL_law_1135 : decode cL_law 1135 = .ok (.iadd, 1) := by decide +kernel
theorem dL_law_1136 : decode cL_law 1136 = .ok (.iaload, 1) := by decide +kernel
theorem dL_law_1137 : decode cL_law 1137 = .ok (.aload_n 0, 1) := by decide +kernel
theorem dL_law_1138 : decode cL_law 1138 = .ok (.iload_n 3, 1) := by decide +kernel
theorem dL_law_1139 : decode cL_law 1139 = .ok (.iconst 2, 1) := by decide +kernel
theorem dL_law_1140 : decode cL_law 1140 = .ok (.iadd, 1) := by decide +kernel
theorem dL_law_1141 : decode cL_law 1141 = .ok (.iaload, 1) := by decide +kernel
theorem dL_law_1142 : decode cL_law 1142 = .ok (.invokevirtual 129, 3) := by decide +kernel
theorem dL_law_1145 : decode cL_law 1145 = .ok (.if_icmp .eq 224, 3) := by decide +kernel
theorem dL_law_1148 : decode cL_law 1148 = .ok (.iconst 0, 1) := by decide +kernel
theorem dL_law_1149 : decode cL_law 1149 = .ok (.ireturn, 1) := by decide +kernel
theorem dL_law_1150 : decode cL_law 1150 = .ok (.aload_n 1, 1) := by decide +kernel
theorem dL_law_1151 : decode cL_law 1151 = .ok (.aload_n 0, 1) := by decide +kernel
theorem dL_law_1152 : decode cL_law 1152 = .ok (.iload_n 3, 1) := by decide +kernel
theorem dL_law_1153 : decode cL_law 1153 = .ok (.iconst 1, 1) := by decide +kernel
theorem dL_law_1154 : decode cL_law 1154 = .ok (.iadd, 1) := by decide +kernel
theorem dL_law_1155 : decode cL_law 1155 = .ok (.iaload, 1) := by decide +kernel
theorem dL_law_1156 : decode cL_law 1156 = .ok (.invokevirtual 130, 3) := by decide +kernel
theorem dL_law_1159 : decode cL_law 1159 = .ok (.aload_n 2, 1) := by decide +kernel
theorem dL_law_1160 : decode cL_law 1160 = .ok (.aload_n 0, 1) := by decide +kernel
theorem dL_law_1161 : decode cL_law 1161 = .ok (.iload_n 3, 1) := by decide +kernel
theorem dL_law_1162 : decode cL_law 1162 = .ok (.iconst 1, 1) := by decide +kernel
theorem dL_law_1163 : decode cL_law 1163 = .ok (.iadd, 1) := by decide +kernel
theorem dL_law_1164 : decode cL_law 1164 = .ok (.iaload, 1) := by decide +kernel
theorem dL_law_1165 : decode cL_law 1165 = .ok (.invokevirtual 133, 3) := by decide +kernel
theorem dL_law_1168 : decode cL_law 1168 = .ok (.if_icmp .eq 201, 3) := by decide +kernel
theorem dL_law_1171 : decode cL_law 1171 = .ok (.iconst 0, 1) := by decide +kernel
theorem dL_law_1172 : decode cL_law 1172 = .ok (.ireturn, 1) := by decide +kernel
theorem dL_law_1173 : decode cL_law 1173 = .ok (.aload_n 1, 1) := by decide +kernel
theorem dL_law_1174 : decode cL_law 1174 = .ok (.aload_n 0, 1) := by decide +kernel
theorem dL_law_1175 : decode cL_law 1175 = .ok (.iload_n 3, 1) := by decide +kernel
theorem dL_law_1176 : decode cL_law 1176 = .ok (.iconst 1, 1) := by decide +kernel
theorem dL_law_1177 : decode cL_law 1177 = .ok (.iadd, 1) := by decide +kernel
theorem dL_law_1178 : decode cL_law 1178 = .ok (.iaload, 1) := by decide +kernel
theorem dL_law_1179 : decode cL_law 1179 = .ok (.aload_n 0, 1) := by decide +kernel
theorem dL_law_1180 : decode cL_law 1180 = .ok (.iload_n 3, 1) := by decide +kernel
theorem dL_law_1181 : decode cL_law 1181 = .ok (.iconst 2, 1) := by decide +kernel
theorem dL_law_1182 : decode cL_law 1182 = .ok (.iadd, 1) := by decide +kernel
theorem dL_law_1183 : decode cL_law 1183 = .ok (.iaload, 1) := by decide +kernel
theorem dL_law_1184 : decode cL_law 1184 = .ok (.aload_n 0, 1) := by decide +kernel
theorem dL_law_1185 : decode cL_law 1185 = .ok (.iload_n 3, 1) := by decide +kernel
theorem dL_law_1186 : decode cL_law 1186 = .ok (.iconst 3, 1) := by decide +kernel
theorem dL_law_1187 : decode cL_law 1187 = .ok (.iadd, 1) := by decide +kernel
theorem dL_law_1188 : decode cL_law 1188 = .ok (.iaload, 1) := by decide +kernel
theorem dL_law_1189 : decode cL_law 1189 = .ok (.aload_n 0, 1) := by decide +kernel
theorem dL_law_1190 : decode cL_law 1190 = .ok (.iload_n 3, 1) := by decide +kernel
theorem dL_law_1191 : decode cL_law 1191 = .ok (.iconst 4, 1) := by decide +kernel
theorem dL_law_1192 : decode cL_law 1192 = .ok (.iadd, 1) := by decide +kernel
theorem dL_law_1193 : decode cL_law 1193 = .ok (.iaload, 1) := by decide +kernel
theorem dL_law_1194 : decode cL_law 1194 = .ok (.aload_n 0, 1) := by decide +kernel
theorem dL_law_1195 : decode cL_law 1195 = .ok (.iload_n 3, 1) := by decide +kernel
theorem dL_law_1196 : decode cL_law 1196 = .ok (.iconst 5, 1) := by decide +kernel
theorem dL_law_1197 : decode cL_law 1197 = .ok (.iadd, 1) := by decide +kernel
theorem dL_law_1198 : decode cL_law 1198 = .ok (.iaload, 1) := by decide +kernel
theorem dL_law_1199 : decode cL_law 1199 = .ok (.invokevirtual 134, 3) := by decide +kernel
theorem dL_law_1202 : decode cL_law 1202 = .ok (.aload_n 2, 1) := by decide +kernel
theorem dL_law_1203 : decode cL_law 1203 = .ok (.aload_n 0, 1) := by decide +kernel
theorem dL_law_1204 : decode cL_law 1204 = .ok (.iload_n 3, 1) := by decide +kernel
theorem dL_law_1205 : decode cL_law 1205 = .ok (.iconst 1, 1) := by decide +kernel
theorem dL_law_1206 : decode cL_law 1206 = .ok (.iadd, 1) := by decide +kernel
theorem dL_law_1207 : decode cL_law 1207 = .ok (.iaload, 1) := by decide +kernel
theorem dL_law_1208 : decode cL_law 1208 = .ok (.aload_n 0, 1) := by decide +kernel
theorem dL_law_1209 : decode cL_law 1209 = .ok (.iload_n 3, 1) := by decide +kernel
theorem dL_law_1210 : decode cL_law 1210 = .ok (.iconst 2, 1) := by decide +kernel
theorem dL_law_1211 : decode cL_law 1211 = .ok (.iadd, 1) := by decide +kernel
theorem dL_law_1212 : decode cL_law 1212 = .ok (.iaload, 1) := by decide +kernel
theorem dL_law_1213 : decode cL_law 1213 = .ok (.aload_n 0, 1) := by decide +kernel
theorem dL_law_1214 : decode cL_law 1214 = .ok (.iload_n 3, 1) := by decide +kernel
theorem dL_law_1215 : decode cL_law 1215 = .ok (.iconst 3, 1) := by decide +kernel
theorem dL_law_1216 : decode cL_law 1216 = .ok (.iadd, 1) := by decide +kernel
theorem dL_law_1217 : decode cL_law 1217 = .ok (.iaload, 1) := by decide +kernel
theorem dL_law_1218 : decode cL_law 1218 = .ok (.aload_n 0, 1) := by decide +kernel
theorem dL_law_1219 : decode cL_law 1219 = .ok (.iload_n 3, 1) := by decide +kernel
theorem dL_law_1220 : decode cL_law 1220 = .ok (.iconst 4, 1) := by decide +kernel
theorem dL_law_1221 : decode cL_law 1221 = .ok (.iadd, 1) := by decide +kernel
theorem dL_law_1222 : decode cL_law 1222 = .ok (.iaload, 1) := by decide +kernel
theorem dL_law_1223 : decode cL_law 1223 = .ok (.aload_n 0, 1) := by decide +kernel
theorem dL_law_1224 : decode cL_law 1224 = .ok (.iload_n 3, 1) := by decide +kernel
theorem dL_law_1225 : decode cL_law 1225 = .ok (.iconst 5, 1) := by decide +kernel
theorem dL_law_1226 : decode cL_law 1226 = .ok (.iadd, 1) := by decide +kernel
theorem dL_law_1227 : decode cL_law 1227 = .ok (.iaload, 1) := by decide +kernel
theorem dL_law_1228 : decode cL_law 1228 = .ok (.invokevirtual 137, 3) := by decide +kernel
theorem dL_law_1231 : decode cL_law 1231 = .ok (.if_icmp .eq 138, 3) := by decide +kernel
theorem dL_law_1234 : decode cL_law 1234 = .ok (.iconst 0, 1) := by decide +kernel
theorem dL_law_1235 : decode cL_law 1235 = .ok (.ireturn, 1) := by decide +kernel
theorem dL_law_1236 : decode cL_law 1236 = .ok (.aload_n 1, 1) := by decide +kernel
theorem dL_law_1237 : decode cL_law 1237 = .ok (.aload_n 0, 1) := by decide +kernel
theorem dL_law_1238 : decode cL_law 1238 = .ok (.iload_n 3, 1) := by decide +kernel
theorem dL_law_1239 : decode cL_law 1239 = .ok (.iconst 1, 1) := by decide +kernel
theorem dL_law_1240 : decode cL_law 1240 = .ok (.iadd, 1) := by decide +kernel
theorem dL_law_1241 : decode cL_law 1241 = .ok (.iaload, 1) := by decide +kernel
theorem dL_law_1242 : decode cL_law 1242 = .ok (.invokevirtual 138, 3) := by decide +kernel
theorem dL_law_1245 : decode cL_law 1245 = .ok (.aload_n 2, 1) := by decide +kernel
theorem dL_law_1246 : decode cL_law 1246 = .ok (.aload_n 0, 1) := by decide +kernel
theorem dL_law_1247 : decode cL_law 1247 = .ok (.iload_n 3, 1) := by decide +kernel
theorem dL_law_1248 : decode cL_law 1248 = .ok (.iconst 1, 1) := by decide +kernel
theorem dL_law_1249 : decode cL_law 1249 = .ok (.iadd, 1) := by decide +kernel
theorem dL_law_1250 : decode cL_law 1250 = .ok (.iaload, 1) := by decide +kernel
theorem dL_law_1251 : decode cL_law 1251 = .ok (.invokevirtual 141, 3) := by decide +kernel
theorem dL_law_1254 : decode cL_law 1254 = .ok (.if_icmp .eq 115, 3) := by decide +kernel
theorem dL_law_1257 : decode cL_law 1257 = .ok (.iconst 0, 1) := by decide +kernel
theorem dL_law_1258 : decode cL_law 1258 = .ok (.ireturn, 1) := by decide +kernel
theorem dL_law_1259 : decode cL_law 1259 = .ok (.aload_n 1, 1) := by decide +kernel
theorem dL_law_1260 : decode cL_law 1260 = .ok (.aload_n 0, 1) := by decide +kernel
theorem dL_law_1261 : decode cL_law 1261 = .ok (.iload_n 3, 1) := by decide +kernel
theorem dL_law_1262 : decode cL_law 1262 = .ok (.iconst 1, 1) := by decide +kernel
theorem dL_law_1263 : decode cL_law 1263 = .ok (.iadd, 1) := by decide +kernel
theorem dL_law_1264 : decode cL_law 1264 = .ok (.iaload, 1) := by decide +kernel
theorem dL_law_1265 : decode cL_law 1265 = .ok (.aload_n 0, 1) := by decide +kernel
theorem dL_law_1266 : decode cL_law 1266 = .ok (.iload_n 3, 1) := by decide +kernel
theorem dL_law_1267 : decode cL_law 1267 = .ok (.iconst 2, 1) := by decide +kernel
theorem dL_law_1268 : decode cL_law 1268 = .ok (.iadd, 1) := by decide +kernel
theorem dL_law_1269 : decode cL_law 1269 = .ok (.iaload, 1) := by decide +kernel
theorem dL_law_1270 : decode cL_law 1270 = .ok (.aload_n 0, 1) := by decide +kernel
theorem dL_law_1271 : decode cL_law 1271 = .ok (.iload_n 3, 1) := by decide +kernel
theorem dL_law_1272 : decode cL_law 1272 = .ok (.iconst 3, 1) := by decide +kernel
theorem dL_law_1273 : decode cL_law 1273 = .ok (.iadd, 1) := by decide +kernel
theorem dL_law_1274 : decode cL_law 1274 = .ok (.iaload, 1) := by decide +kernel
theorem dL_law_1275 : decode cL_law 1275 = .ok (.aload_n 0, 1) := by decide +kernel
theorem dL_law_1276 : decode cL_law 1276 = .ok (.iload_n 3, 1) := by decide +kernel
theorem dL_law_1277 : decode cL_law 1277 = .ok (.iconst 4, 1) := by decide +kernel
theorem dL_law_1278 : decode cL_law 1278 = .ok (.iadd, 1) := by decide +kernel
theorem dL_law_1279 : decode cL_law 1279 = .ok (.iaload, 1) := by decide +kernel
theorem dL_law_1280 : decode cL_law 1280 = .ok (.aload_n 0, 1) := by decide +kernel
theorem dL_law_1281 : decode cL_law 1281 = .ok (.iload_n 3, 1) := by decide +kernel
theorem dL_law_1282 : decode cL_law 1282 = .ok (.iconst 5, 1) := by decide +kernel
theorem dL_law_1283 : decode cL_law 1283 = .ok (.iadd, 1) := by decide +kernel
theorem dL_law_1284 : decode cL_law 1284 = .ok (.iaload, 1) := by decide +kernel
theorem dL_law_1285 : decode cL_law 1285 = .ok (.aload_n 0, 1) := by decide +kernel
theorem dL_law_1286 : decode cL_law 1286 = .ok (.iload_n 3, 1) := by decide +kernel
theorem dL_law_1287 : decode cL_law 1287 = .ok (.bipush 6, 2) := by decide +kernel
theorem dL_law_1289 : decode cL_law 1289 = .ok (.iadd, 1) := by decide +kernel
theorem dL_law_1290 : decode cL_law 1290 = .ok (.iaload, 1) := by decide +kernel
theorem dL_law_1291 : decode cL_law 1291 = .ok (.aload_n 0, 1) := by decide +kernel
theorem dL_law_1292 : decode cL_law 1292 = .ok (.iload_n 3, 1) := by decide +kernel
theorem dL_law_1293 : decode cL_law 1293 = .ok (.bipush 7, 2) := by decide +kernel
theorem dL_law_1295 : decode cL_law 1295 = .ok (.iadd, 1) := by decide +kernel
theorem dL_law_1296 : decode cL_law 1296 = .ok (.iaload, 1) := by decide +kernel
theorem dL_law_1297 : decode cL_law 1297 = .ok (.invokevirtual 142, 3) := by decide +kernel
theorem dL_law_1300 : decode cL_law 1300 = .ok (.aload_n 2, 1) := by decide +kernel
theorem dL_law_1301 : decode cL_law 1301 = .ok (.aload_n 0, 1) := by decide +kernel
theorem dL_law_1302 : decode cL_law 1302 = .ok (.iload_n 3, 1) := by decide +kernel
theorem dL_law_1303 : decode cL_law 1303 = .ok (.iconst 1, 1) := by decide +kernel
theorem dL_law_1304 : decode cL_law 1304 = .ok (.iadd, 1) := by decide +kernel
theorem dL_law_1305 : decode cL_law 1305 = .ok (.iaload, 1) := by decide +kernel
theorem dL_law_1306 : decode cL_law 1306 = .ok (.aload_n 0, 1) := by decide +kernel
theorem dL_law_1307 : decode cL_law 1307 = .ok (.iload_n 3, 1) := by decide +kernel
theorem dL_law_1308 : decode cL_law 1308 = .ok (.iconst 2, 1) := by decide +kernel
theorem dL_law_1309 : decode cL_law 1309 = .ok (.iadd, 1) := by decide +kernel
theorem dL_law_1310 : decode cL_law 1310 = .ok (.iaload, 1) := by decide +kernel
theorem dL_law_1311 : decode cL_law 1311 = .ok (.aload_n 0, 1) := by decide +kernel
theorem dL_law_1312 : decode cL_law 1312 = .ok (.iload_n 3, 1) := by decide +kernel
theorem dL_law_1313 : decode cL_law 1313 = .ok (.iconst 3, 1) := by decide +kernel
theorem dL_law_1314 : decode cL_law 1314 = .ok (.iadd, 1) := by decide +kernel
theorem dL_law_1315 : decode cL_law 1315 = .ok (.iaload, 1) := by decide +kernel
theorem dL_law_1316 : decode cL_law 1316 = .ok (.aload_n 0, 1) := by decide +kernel
theorem dL_law_1317 : decode cL_law 1317 = .ok (.iload_n 3, 1) := by decide +kernel
theorem dL_law_1318 : decode cL_law 1318 = .ok (.iconst 4, 1) := by decide +kernel
theorem dL_law_1319 : decode cL_law 1319 = .ok (.iadd, 1) := by decide +kernel
theorem dL_law_1320 : decode cL_law 1320 = .ok (.iaload, 1) := by decide +kernel
theorem dL_law_1321 : decode cL_law 1321 = .ok (.aload_n 0, 1) := by decide +kernel
theorem dL_law_1322 : decode cL_law 1322 = .ok (.iload_n 3, 1) := by decide +kernel
theorem dL_law_1323 : decode cL_law 1323 = .ok (.iconst 5, 1) := by decide +kernel
theorem dL_law_1324 : decode cL_law 1324 = .ok (.iadd, 1) := by decide +kernel
theorem dL_law_1325 : decode cL_law 1325 = .ok (.iaload, 1) := by decide +kernel
theorem dL_law_1326 : decode cL_law 1326 = .ok (.aload_n 0, 1) := by decide +kernel
theorem dL_law_1327 : decode cL_law 1327 = .ok (.iload_n 3, 1) := by decide +kernel
theorem dL_law_1328 : decode cL_law 1328 = .ok (.bipush 6, 2) := by decide +kernel
theorem dL_law_1330 : decode cL_law 1330 = .ok (.iadd, 1) := by decide +kernel
theorem dL_law_1331 : decode cL_law 1331 = .ok (.iaload, 1) := by decide +kernel
theorem dL_law_1332 : decode cL_law 1332 = .ok (.aload_n 0, 1) := by decide +kernel
theorem dL_law_1333 : decode cL_law 1333 = .ok (.iload_n 3, 1) := by decide +kernel
theorem dL_law_1334 : decode cL_law 1334 = .ok (.bipush 7, 2) := by decide +kernel
theorem dL_law_1336 : decode cL_law 1336 = .ok (.iadd, 1) := by decide +kernel
theorem dL_law_1337 : decode cL_law 1337 = .ok (.iaload, 1) := by decide +kernel
theorem dL_law_1338 : decode cL_law 1338 = .ok (.invokevirtual 146, 3) := by decide +kernel
theorem dL_law_1341 : decode cL_law 1341 = .ok (.if_icmp .eq 28, 3) := by decide +kernel
theorem dL_law_1344 : decode cL_law 1344 = .ok (.iconst 0, 1) := by decide +kernel
theorem dL_law_1345 : decode cL_law 1345 = .ok (.ireturn, 1) := by decide +kernel
theorem dL_law_1346 : decode cL_law 1346 = .ok (.aload_n 1, 1) := by decide +kernel
theorem dL_law_1347 : decode cL_law 1347 = .ok (.aload_n 0, 1) := by decide +kernel
theorem dL_law_1348 : decode cL_law 1348 = .ok (.iload_n 3, 1) := by decide +kernel
theorem dL_law_1349 : decode cL_law 1349 = .ok (.iconst 1, 1) := by decide +kernel
theorem dL_law_1350 : decode cL_law 1350 = .ok (.iadd, 1) := by decide +kernel
theorem dL_law_1351 : decode cL_law 1351 = .ok (.iaload, 1) := by decide +kernel
theorem dL_law_1352 : decode cL_law 1352 = .ok (.invokevirtual 147, 3) := by decide +kernel
theorem dL_law_1355 : decode cL_law 1355 = .ok (.aload_n 2, 1) := by decide +kernel
theorem dL_law_1356 : decode cL_law 1356 = .ok (.aload_n 0, 1) := by decide +kernel
theorem dL_law_1357 : decode cL_law 1357 = .ok (.iload_n 3, 1) := by decide +kernel
theorem dL_law_1358 : decode cL_law 1358 = .ok (.iconst 1, 1) := by decide +kernel
theorem dL_law_1359 : decode cL_law 1359 = .ok (.iadd, 1) := by decide +kernel
theorem dL_law_1360 : decode cL_law 1360 = .ok (.iaload, 1) := by decide +kernel
theorem dL_law_1361 : decode cL_law 1361 = .ok (.invokevirtual 150, 3) := by decide +kernel
theorem dL_law_1364 : decode cL_law 1364 = .ok (.if_icmp .eq 5, 3) := by decide +kernel
theorem dL_law_1367 : decode cL_law 1367 = .ok (.iconst 0, 1) := by decide +kernel
theorem dL_law_1368 : decode cL_law 1368 = .ok (.ireturn, 1) := by decide +kernel
theorem dL_law_1369 : decode cL_law 1369 = .ok (.iinc 3 8, 3) := by decide +kernel
theorem dL_law_1372 : decode cL_law 1372 = .ok (.goto (-1354), 3) := by decide +kernel
theorem dL_law_1375 : decode cL_law 1375 = .ok (.iconst 1, 1) := by decide +kernel
theorem dL_law_1376 : decode cL_law 1376 = .ok (.ireturn, 1) := by decide +kernel
theorem mB_L_law_1364 {G : mG} {F : Nat} {M0 : mM} {Z0 S0 : Nat} (r18 : Nat → Nat → Nat → Int32 → mM → Nat → Nat → Option (Int32 × mM × Nat × Nat)) (hm18 : ∀ (l0 : Nat) (l1 : Nat) (l2 : Nat) (l3 : Int32) (M : mM) (sz : Nat) (sl : Nat), r18 l0 l1 l2 l3 M sz sl = some ((1 : Int32), M0, Z0, S0) → sz ≤ Z0 ∧ sl ≤ S0) {l0 : Nat} {l1 : Nat} {l2 : Nat} {l3 : Int32} {sk0 : Int32} {sk1 : Int32} {M : mM} {sz : Nat} {sl : Nat} (h : B_L_law_1364 G F r18 l0 l1 l2 l3 sk0 sk1 M sz sl = some ((1 : Int32), M0, Z0, S0)) : sz ≤ Z0 ∧ sl ≤ S0 := by
  unfold B_L_law_1364 at h
  by_cases q : sk0 = sk1
  · replace h := (if_pos q).symm.trans h
    have q := hm18 _ _ _ _ _ _ _ h
    omega
  · replace h := (if_neg q).symm.trans h
    have q := retZA_p h
    omega
set_option maxHeartbeats 4000000 in
set_option maxRecDepth 100000 in
theorem wB_L_law_1364 {G : mG} {F : Nat} {x : mXT} {z0 s0 : Nat} {M0 : mM} {Z0 S0 : Nat} (X : mCX G RL cL_law 4 (some .boolean) "law" room_1 x) (hQ : mQW x) (hZm : Z0 - z0 ≤ 600000) (hSm : S0 - s0 ≤ 7302250) (r18 : Nat → Nat → Nat → Int32 → mM → Nat → Nat → Option (Int32 × mM × Nat × Nat)) (hm18 : ∀ (l0 : Nat) (l1 : Nat) (l2 : Nat) (l3 : Int32) (M : mM) (sz : Nat) (sl : Nat), r18 l0 l1 l2 l3 M sz sl = some ((1 : Int32), M0, Z0, S0) → sz ≤ Z0 ∧ sl ≤ S0) (hr18 : ∀ (l0 : Nat) (l1 : Nat) (l2 : Nat) (l3 : Int32) (M : mM) (sz : Nat) (sl : Nat), z0 ≤ sz → s0 ≤ sl → r18 l0 l1 l2 l3 M sz sl = some ((1 : Int32), M0, Z0, S0) → WW x (sz, sz - z0, sl - s0) M 18 [(0, .ref l0), (1, .ref l1), (2, .ref l2), (3, .int l3)] []) {l0 : Nat} {l1 : Nat} {l2 : Nat} {l3 : Int32} {sk0 : Int32} {sk1 : Int32} {M : mM} {sz : Nat} {sl : Nat} (hz0 : z0 ≤ sz) (hs0 : s0 ≤ sl) (h : B_L_law_1364 G F r18 l0 l1 l2 l3 sk0 sk1 M sz sl = some ((1 : Int32), M0, Z0, S0)) : WW x (sz, sz - z0, sl - s0) M 1364 [(0, .ref l0), (1, .ref l1), (2, .ref l2), (3, .int l3)] [.int sk1, .int sk0] := by
  unfold B_L_law_1364 at h
  refine ww_icmp_eq 1364 1369 X dL_law_1364 (by decide) (fun q => ?_) (fun q => ?_)
  · replace h := (if_pos q).symm.trans h
    have q := hm18 _ _ _ _ _ _ _ h
    refine ww_iinc 1369 X dL_law_1369 (lv' := [(0, .ref l0), (1, .ref l1), (2, .ref l2), (3, .int (l3 + 8))]) 3 rfl rfl (by decide) [1, 2, 3, 0] rfl ?_
    refine ww_goto 1372 18 X dL_law_1372 (by decide) ?_
    exact (hr18 _ _ _ _ _ _ _ (by omega) (by omega) h)
  · replace h := (if_neg q).symm.trans h
    have q := retZA_p h
    refine ww_iconst 1367 X (v := (0 : Int32)) dL_law_1367 (by decide) ?_
    exact ww_lawret 1368 X hQ hZm hSm dL_law_1368 h
theorem mB_L_law_1341 {G : mG} {F : Nat} {M0 : mM} {Z0 S0 : Nat} (r18 : Nat → Nat → Nat → Int32 → mM → Nat → Nat → Option (Int32 × mM × Nat × Nat)) (hm18 : ∀ (l0 : Nat) (l1 : Nat) (l2 : Nat) (l3 : Int32) (M : mM) (sz : Nat) (sl : Nat), r18 l0 l1 l2 l3 M sz sl = some ((1 : Int32), M0, Z0, S0) → sz ≤ Z0 ∧ sl ≤ S0) {l0 : Nat} {l1 : Nat} {l2 : Nat} {l3 : Int32} {sk0 : Int32} {sk1 : Int32} {M : mM} {sz : Nat} {sl : Nat} (h : B_L_law_1341 G F r18 l0 l1 l2 l3 sk0 sk1 M sz sl = some ((1 : Int32), M0, Z0, S0)) : sz ≤ Z0 ∧ sl ≤ S0 := by
  unfold B_L_law_1341 at h
  by_cases q : sk0 = sk1
  · replace h := (if_pos q).symm.trans h
    have q := hm18 _ _ _ _ _ _ _ h
    omega
  · replace h := (if_neg q).symm.trans h
    have q := retZA_p h
    omega
set_option maxHeartbeats 4000000 in
set_option maxRecDepth 100000 in
theorem wB_L_law_1341 {G : mG} {F : Nat} {x : mXT} {z0 s0 : Nat} {M0 : mM} {Z0 S0 : Nat} (X : mCX G RL cL_law 4 (some .boolean) "law" room_1 x) (hQ : mQW x) (hZm : Z0 - z0 ≤ 600000) (hSm : S0 - s0 ≤ 7302250) (r18 : Nat → Nat → Nat → Int32 → mM → Nat → Nat → Option (Int32 × mM × Nat × Nat)) (hm18 : ∀ (l0 : Nat) (l1 : Nat) (l2 : Nat) (l3 : Int32) (M : mM) (sz : Nat) (sl : Nat), r18 l0 l1 l2 l3 M sz sl = some ((1 : Int32), M0, Z0, S0) → sz ≤ Z0 ∧ sl ≤ S0) (hr18 : ∀ (l0 : Nat) (l1 : Nat) (l2 : Nat) (l3 : Int32) (M : mM) (sz : Nat) (sl : Nat), z0 ≤ sz → s0 ≤ sl → r18 l0 l1 l2 l3 M sz sl = some ((1 : Int32), M0, Z0, S0) → WW x (sz, sz - z0, sl - s0) M 18 [(0, .ref l0), (1, .ref l1), (2, .ref l2), (3, .int l3)] []) {l0 : Nat} {l1 : Nat} {l2 : Nat} {l3 : Int32} {sk0 : Int32} {sk1 : Int32} {M : mM} {sz : Nat} {sl : Nat} (hz0 : z0 ≤ sz) (hs0 : s0 ≤ sl) (h : B_L_law_1341 G F r18 l0 l1 l2 l3 sk0 sk1 M sz sl = some ((1 : Int32), M0, Z0, S0)) : WW x (sz, sz - z0, sl - s0) M 1341 [(0, .ref l0), (1, .ref l1), (2, .ref l2), (3, .int l3)] [.int sk1, .int sk0] := by
  unfold B_L_law_1341 at h
  refine ww_icmp_eq 1341 1369 X dL_law_1341 (by decide) (fun q => ?_) (fun q => ?_)
  · replace h := (if_pos q).symm.trans h
    have q := hm18 _ _ _ _ _ _ _ h
    refine ww_iinc 1369 X dL_law_1369 (lv' := [(0, .ref l0), (1, .ref l1), (2, .ref l2), (3, .int (l3 + 8))]) 3 rfl rfl (by decide) [1, 2, 3, 0] rfl ?_
    refine ww_goto 1372 18 X dL_law_1372 (by decide) ?_
    exact (hr18 _ _ _ _ _ _ _ (by omega) (by omega) h)
  · replace h := (if_neg q).symm.trans h
    have q := retZA_p h
    refine ww_iconst 1344 X (v := (0 : Int32)) dL_law_1344 (by decide) ?_
    exact ww_lawret 1345 X hQ hZm hSm dL_law_1345 h
theorem mB_L_law_1254 {G : mG} {F : Nat} {M0 : mM} {Z0 S0 : Nat} (r18 : Nat → Nat → Nat → Int32 → mM → Nat → Nat → Option (Int32 × mM × Nat × Nat)) (hm18 : ∀ (l0 : Nat) (l1 : Nat) (l2 : Nat) (l3 : Int32) (M : mM) (sz : Nat) (sl : Nat), r18 l0 l1 l2 l3 M sz sl = some ((1 : Int32), M0, Z0, S0) → sz ≤ Z0 ∧ sl ≤ S0) {l0 : Nat} {l1 : Nat} {l2 : Nat} {l3 : Int32} {sk0 : Int32} {sk1 : Int32} {M : mM} {sz : Nat} {sl : Nat} (h : B_L_law_1254 G F r18 l0 l1 l2 l3 sk0 sk1 M sz sl = some ((1 : Int32), M0, Z0, S0)) : sz ≤ Z0 ∧ sl ≤ S0 := by
  unfold B_L_law_1254 at h
  by_cases q : sk0 = sk1
  · replace h := (if_pos q).symm.trans h
    have q := hm18 _ _ _ _ _ _ _ h
    omega
  · replace h := (if_neg q).symm.trans h
    have q := retZA_p h
    omega
set_option maxHeartbeats 4000000 in
set_option maxRecDepth 100000 in
theorem wB_L_law_1254 {G : mG} {F : Nat} {x : mXT} {z0 s0 : Nat} {M0 : mM} {Z0 S0 : Nat} (X : mCX G RL cL_law 4 (some .boolean) "law" room_1 x) (hQ : mQW x) (hZm : Z0 - z0 ≤ 600000) (hSm : S0 - s0 ≤ 7302250) (r18 : Nat → Nat → Nat → Int32 → mM → Nat → Nat → Option (Int32 × mM × Nat × Nat)) (hm18 : ∀ (l0 : Nat) (l1 : Nat) (l2 : Nat) (l3 : Int32) (M : mM) (sz : Nat) (sl : Nat), r18 l0 l1 l2 l3 M sz sl = some ((1 : Int32), M0, Z0, S0) → sz ≤ Z0 ∧ sl ≤ S0) (hr18 : ∀ (l0 : Nat) (l1 : Nat) (l2 : Nat) (l3 : Int32) (M : mM) (sz : Nat) (sl : Nat), z0 ≤ sz → s0 ≤ sl → r18 l0 l1 l2 l3 M sz sl = some ((1 : Int32), M0, Z0, S0) → WW x (sz, sz - z0, sl - s0) M 18 [(0, .ref l0), (1, .ref l1), (2, .ref l2), (3, .int l3)] []) {l0 : Nat} {l1 : Nat} {l2 : Nat} {l3 : Int32} {sk0 : Int32} {sk1 : Int32} {M : mM} {sz : Nat} {sl : Nat} (hz0 : z0 ≤ sz) (hs0 : s0 ≤ sl) (h : B_L_law_1254 G F r18 l0 l1 l2 l3 sk0 sk1 M sz sl = some ((1 : Int32), M0, Z0, S0)) : WW x (sz, sz - z0, sl - s0) M 1254 [(0, .ref l0), (1, .ref l1), (2, .ref l2), (3, .int l3)] [.int sk1, .int sk0] := by
  unfold B_L_law_1254 at h
  refine ww_icmp_eq 1254 1369 X dL_law_1254 (by decide) (fun q => ?_) (fun q => ?_)
  · replace h := (if_pos q).symm.trans h
    have q := hm18 _ _ _ _ _ _ _ h
    refine ww_iinc 1369 X dL_law_1369 (lv' := [(0, .ref l0), (1, .ref l1), (2, .ref l2), (3, .int (l3 + 8))]) 3 rfl rfl (by decide) [1, 2, 3, 0] rfl ?_
    refine ww_goto 1372 18 X dL_law_1372 (by decide) ?_
    exact (hr18 _ _ _ _ _ _ _ (by omega) (by omega) h)
  · replace h := (if_neg q).symm.trans h
    have q := retZA_p h
    refine ww_iconst 1257 X (v := (0 : Int32)) dL_law_1257 (by decide) ?_
    exact ww_lawret 1258 X hQ hZm hSm dL_law_1258 h
theorem mB_L_law_1231 {G : mG} {F : Nat} {M0 : mM} {Z0 S0 : Nat} (r18 : Nat → Nat → Nat → Int32 → mM → Nat → Nat → Option (Int32 × mM × Nat × Nat)) (hm18 : ∀ (l0 : Nat) (l1 : Nat) (l2 : Nat) (l3 : Int32) (M : mM) (sz : Nat) (sl : Nat), r18 l0 l1 l2 l3 M sz sl = some ((1 : Int32), M0, Z0, S0) → sz ≤ Z0 ∧ sl ≤ S0) {l0 : Nat} {l1 : Nat} {l2 : Nat} {l3 : Int32} {sk0 : Int32} {sk1 : Int32} {M : mM} {sz : Nat} {sl : Nat} (h : B_L_law_1231 G F r18 l0 l1 l2 l3 sk0 sk1 M sz sl = some ((1 : Int32), M0, Z0, S0)) : sz ≤ Z0 ∧ sl ≤ S0 := by
  unfold B_L_law_1231 at h
  by_cases q : sk0 = sk1
  · replace h := (if_pos q).symm.trans h
    have q := hm18 _ _ _ _ _ _ _ h
    omega
  · replace h := (if_neg q).symm.trans h
    have q := retZA_p h
    omega
set_option maxHeartbeats 4000000 in
set_option maxRecDepth 100000 in
theorem wB_L_law_1231 {G : mG} {F : Nat} {x : mXT} {z0 s0 : Nat} {M0 : mM} {Z0 S0 : Nat} (X : mCX G RL cL_law 4 (some .boolean) "law" room_1 x) (hQ : mQW x) (hZm : Z0 - z0 ≤ 600000) (hSm : S0 - s0 ≤ 7302250) (r18 : Nat → Nat → Nat → Int32 → mM → Nat → Nat → Option (Int32 × mM × Nat × Nat)) (hm18 : ∀ (l0 : Nat) (l1 : Nat) (l2 : Nat) (l3 : Int32) (M : mM) (sz : Nat) (sl : Nat), r18 l0 l1 l2 l3 M sz sl = some ((1 : Int32), M0, Z0, S0) → sz ≤ Z0 ∧ sl ≤ S0) (hr18 : ∀ (l0 : Nat) (l1 : Nat) (l2 : Nat) (l3 : Int32) (M : mM) (sz : Nat) (sl : Nat), z0 ≤ sz → s0 ≤ sl → r18 l0 l1 l2 l3 M sz sl = some ((1 : Int32), M0, Z0, S0) → WW x (sz, sz - z0, sl - s0) M 18 [(0, .ref l0), (1, .ref l1), (2, .ref l2), (3, .int l3)] []) {l0 : Nat} {l1 : Nat} {l2 : Nat} {l3 : Int32} {sk0 : Int32} {sk1 : Int32} {M : mM} {sz : Nat} {sl : Nat} (hz0 : z0 ≤ sz) (hs0 : s0 ≤ sl) (h : B_L_law_1231 G F r18 l0 l1 l2 l3 sk0 sk1 M sz sl = some ((1 : Int32), M0, Z0, S0)) : WW x (sz, sz - z0, sl - s0) M 1231 [(0, .ref l0), (1, .ref l1), (2, .ref l2), (3, .int l3)] [.int sk1, .int sk0] := by
  unfold B_L_law_1231 at h
  refine ww_icmp_eq 1231 1369 X dL_law_1231 (by decide) (fun q => ?_) (fun q => ?_)
  · replace h := (if_pos q).symm.trans h
    have q := hm18 _ _ _ _ _ _ _ h
    refine ww_iinc 1369 X dL_law_1369 (lv' := [(0, .ref l0), (1, .ref l1), (2, .ref l2), (3, .int (l3 + 8))]) 3 rfl rfl (by decide) [1, 2, 3, 0] rfl ?_
    refine ww_goto 1372 18 X dL_law_1372 (by decide) ?_
    exact (hr18 _ _ _ _ _ _ _ (by omega) (by omega) h)
  · replace h := (if_neg q).symm.trans h
    have q := retZA_p h
    refine ww_iconst 1234 X (v := (0 : Int32)) dL_law_1234 (by decide) ?_
    exact ww_lawret 1235 X hQ hZm hSm dL_law_1235 h
theorem mB_L_law_1168 {G : mG} {F : Nat} {M0 : mM} {Z0 S0 : Nat} (r18 : Nat → Nat → Nat → Int32 → mM → Nat → Nat → Option (Int32 × mM × Nat × Nat)) (hm18 : ∀ (l0 : Nat) (l1 : Nat) (l2 : Nat) (l3 : Int32) (M : mM) (sz : Nat) (sl : Nat), r18 l0 l1 l2 l3 M sz sl = some ((1 : Int32), M0, Z0, S0) → sz ≤ Z0 ∧ sl ≤ S0) {l0 : Nat} {l1 : Nat} {l2 : Nat} {l3 : Int32} {sk0 : Int32} {sk1 : Int32} {M : mM} {sz : Nat} {sl : Nat} (h : B_L_law_1168 G F r18 l0 l1 l2 l3 sk0 sk1 M sz sl = some ((1 : Int32), M0, Z0, S0)) : sz ≤ Z0 ∧ sl ≤ S0 := by
  unfold B_L_law_1168 at h
  by_cases q : sk0 = sk1
  · replace h := (if_pos q).symm.trans h
    have q := hm18 _ _ _ _ _ _ _ h
    omega
  · replace h := (if_neg q).symm.trans h
    have q := retZA_p h
    omega
set_option maxHeartbeats 4000000 in
set_option maxRecDepth 100000 in
theorem wB_L_law_1168 {G : mG} {F : Nat} {x : mXT} {z0 s0 : Nat} {M0 : mM} {Z0 S0 : Nat} (X : mCX G RL cL_law 4 (some .boolean) "law" room_1 x) (hQ : mQW x) (hZm : Z0 - z0 ≤ 600000) (hSm : S0 - s0 ≤ 7302250) (r18 : Nat → Nat → Nat → Int32 → mM → Nat → Nat → Option (Int32 × mM × Nat × Nat)) (hm18 : ∀ (l0 : Nat) (l1 : Nat) (l2 : Nat) (l3 : Int32) (M : mM) (sz : Nat) (sl : Nat), r18 l0 l1 l2 l3 M sz sl = some ((1 : Int32), M0, Z0, S0) → sz ≤ Z0 ∧ sl ≤ S0) (hr18 : ∀ (l0 : Nat) (l1 : Nat) (l2 : Nat) (l3 : Int32) (M : mM) (sz : Nat) (sl : Nat), z0 ≤ sz → s0 ≤ sl → r18 l0 l1 l2 l3 M sz sl = some ((1 : Int32), M0, Z0, S0) → WW x (sz, sz - z0, sl - s0) M 18 [(0, .ref l0), (1, .ref l1), (2, .ref l2), (3, .int l3)] []) {l0 : Nat} {l1 : Nat} {l2 : Nat} {l3 : Int32} {sk0 : Int32} {sk1 : Int32} {M : mM} {sz : Nat} {sl : Nat} (hz0 : z0 ≤ sz) (hs0 : s0 ≤ sl) (h : B_L_law_1168 G F r18 l0 l1 l2 l3 sk0 sk1 M sz sl = some ((1 : Int32), M0, Z0, S0)) : WW x (sz, sz - z0, sl - s0) M 1168 [(0, .ref l0), (1, .ref l1), (2, .ref l2), (3, .int l3)] [.int sk1, .int sk0] := by
  unfold B_L_law_1168 at h
  refine ww_icmp_eq 1168 1369 X dL_law_1168 (by decide) (fun q => ?_) (fun q => ?_)
  · replace h := (if_pos q).symm.trans h
    have q := hm18 _ _ _ _ _ _ _ h
    refine ww_iinc 1369 X dL_law_1369 (lv' := [(0, .ref l0), (1, .ref l1), (2, .ref l2), (3, .int (l3 + 8))]) 3 rfl rfl (by decide) [1, 2, 3, 0] rfl ?_
    refine ww_goto 1372 18 X dL_law_1372 (by decide) ?_
    exact (hr18 _ _ _ _ _ _ _ (by omega) (by omega) h)
  · replace h := (if_neg q).symm.trans h
    have q := retZA_p h
    refine ww_iconst 1171 X (v := (0 : Int32)) dL_law_1171 (by decide) ?_
    exact ww_lawret 1172 X hQ hZm hSm dL_law_1172 h
theorem mB_L_law_1145 {G : mG} {F : Nat} {M0 : mM} {Z0 S0 : Nat} (r18 : Nat → Nat → Nat → Int32 → mM → Nat → Nat → Option (Int32 × mM × Nat × Nat)) (hm18 : ∀ (l0 : Nat) (l1 : Nat) (l2 : Nat) (l3 : Int32) (M : mM) (sz : Nat) (sl : Nat), r18 l0 l1 l2 l3 M sz sl = some ((1 : Int32), M0, Z0, S0) → sz ≤ Z0 ∧ sl ≤ S0) {l0 : Nat} {l1 : Nat} {l2 : Nat} {l3 : Int32} {sk0 : Int32} {sk1 : Int32} {M : mM} {sz : Nat} {sl : Nat} (h : B_L_law_1145 G F r18 l0 l1 l2 l3 sk0 sk1 M sz sl = some ((1 : Int32), M0, Z0, S0)) : sz ≤ Z0 ∧ sl ≤ S0 := by
  unfold B_L_law_1145 at h
  by_cases q : sk0 = sk1
  · replace h := (if_pos q).symm.trans h
    have q := hm18 _ _ _ _ _ _ _ h
    omega
  · replace h := (if_neg q).symm.trans h
    have q := retZA_p h
    omega
set_option maxHeartbeats 4000000 in
set_option maxRecDepth 100000 in
theorem wB_L_law_1145 {G : mG} {F : Nat} {x : mXT} {z0 s0 : Nat} {M0 : mM} {Z0 S0 : Nat} (X : mCX G RL cL_law 4 (some .boolean) "law" room_1 x) (hQ : mQW x) (hZm : Z0 - z0 ≤ 600000) (hSm : S0 - s0 ≤ 7302250) (r18 : Nat → Nat → Nat → Int32 → mM → Nat → Nat → Option (Int32 × mM × Nat × Nat)) (hm18 : ∀ (l0 : Nat) (l1 : Nat) (l2 : Nat) (l3 : Int32) (M : mM) (sz : Nat) (sl : Nat), r18 l0 l1 l2 l3 M sz sl = some ((1 : Int32), M0, Z0, S0) → sz ≤ Z0 ∧ sl ≤ S0) (hr18 : ∀ (l0 : Nat) (l1 : Nat) (l2 : Nat) (l3 : Int32) (M : mM) (sz : Nat) (sl : Nat), z0 ≤ sz → s0 ≤ sl → r18 l0 l1 l2 l3 M sz sl = some ((1 : Int32), M0, Z0, S0) → WW x (sz, sz - z0, sl - s0) M 18 [(0, .ref l0), (1, .ref l1), (2, .ref l2), (3, .int l3)] []) {l0 : Nat} {l1 : Nat} {l2 : Nat} {l3 : Int32} {sk0 : Int32} {sk1 : Int32} {M : mM} {sz : Nat} {sl : Nat} (hz0 : z0 ≤ sz) (hs0 : s0 ≤ sl) (h : B_L_law_1145 G F r18 l0 l1 l2 l3 sk0 sk1 M sz sl = some ((1 : Int32), M0, Z0, S0)) : WW x (sz, sz - z0, sl - s0) M 1145 [(0, .ref l0), (1, .ref l1), (2, .ref l2), (3, .int l3)] [.int sk1, .int sk0] := by
  unfold B_L_law_1145 at h
  refine ww_icmp_eq 1145 1369 X dL_law_1145 (by decide) (fun q => ?_) (fun q => ?_)
  · replace h := (if_pos q).symm.trans h
    have q := hm18 _ _ _ _ _ _ _ h
    refine ww_iinc 1369 X dL_law_1369 (lv' := [(0, .ref l0), (1, .ref l1), (2, .ref l2), (3, .int (l3 + 8))]) 3 rfl rfl (by decide) [1, 2, 3, 0] rfl ?_
    refine ww_goto 1372 18 X dL_law_1372 (by decide) ?_
    exact (hr18 _ _ _ _ _ _ _ (by omega) (by omega) h)
  · replace h := (if_neg q).symm.trans h
    have q := retZA_p h
    refine ww_iconst 1148 X (v := (0 : Int32)) dL_law_1148 (by decide) ?_
    exact ww_lawret 1149 X hQ hZm hSm dL_law_1149 h
theorem mB_L_law_1112 {G : mG} {F : Nat} {M0 : mM} {Z0 S0 : Nat} (r18 : Nat → Nat → Nat → Int32 → mM → Nat → Nat → Option (Int32 × mM × Nat × Nat)) (hm18 : ∀ (l0 : Nat) (l1 : Nat) (l2 : Nat) (l3 : Int32) (M : mM) (sz : Nat) (sl : Nat), r18 l0 l1 l2 l3 M sz sl = some ((1 : Int32), M0, Z0, S0) → sz ≤ Z0 ∧ sl ≤ S0) {l0 : Nat} {l1 : Nat} {l2 : Nat} {l3 : Int32} {sk0 : Int32} {sk1 : Int32} {M : mM} {sz : Nat} {sl : Nat} (h : B_L_law_1112 G F r18 l0 l1 l2 l3 sk0 sk1 M sz sl = some ((1 : Int32), M0, Z0, S0)) : sz ≤ Z0 ∧ sl ≤ S0 := by
  unfold B_L_law_1112 at h
  by_cases q : sk0 = sk1
  · replace h := (if_pos q).symm.trans h
    have q := hm18 _ _ _ _ _ _ _ h
    omega
  · replace h := (if_neg q).symm.trans h
    have q := retZA_p h
    omega
set_option maxHeartbeats 4000000 in
set_option maxRecDepth 100000 in
theorem wB_L_law_1112 {G : mG} {F : Nat} {x : mXT} {z0 s0 : Nat} {M0 : mM} {Z0 S0 : Nat} (X : mCX G RL cL_law 4 (some .boolean) "law" room_1 x) (hQ : mQW x) (hZm : Z0 - z0 ≤ 600000) (hSm : S0 - s0 ≤ 7302250) (r18 : Nat → Nat → Nat → Int32 → mM → Nat → Nat → Option (Int32 × mM × Nat × Nat)) (hm18 : ∀ (l0 : Nat) (l1 : Nat) (l2 : Nat) (l3 : Int32) (M : mM) (sz : Nat) (sl : Nat), r18 l0 l1 l2 l3 M sz sl = some ((1 : Int32), M0, Z0, S0) → sz ≤ Z0 ∧ sl ≤ S0) (hr18 : ∀ (l0 : Nat) (l1 : Nat) (l2 : Nat) (l3 : Int32) (M : mM) (sz : Nat) (sl : Nat), z0 ≤ sz → s0 ≤ sl → r18 l0 l1 l2 l3 M sz sl = some ((1 : Int32), M0, Z0, S0) → WW x (sz, sz - z0, sl - s0) M 18 [(0, .ref l0), (1, .ref l1), (2, .ref l2), (3, .int l3)] []) {l0 : Nat} {l1 : Nat} {l2 : Nat} {l3 : Int32} {sk0 : Int32} {sk1 : Int32} {M : mM} {sz : Nat} {sl : Nat} (hz0 : z0 ≤ sz) (hs0 : s0 ≤ sl) (h : B_L_law_1112 G F r18 l0 l1 l2 l3 sk0 sk1 M sz sl = some ((1 : Int32), M0, Z0, S0)) : WW x (sz, sz - z0, sl - s0) M 1112 [(0, .ref l0), (1, .ref l1), (2, .ref l2), (3, .int l3)] [.int sk1, .int sk0] := by
  unfold B_L_law_1112 at h
  refine ww_icmp_eq 1112 1369 X dL_law_1112 (by decide) (fun q => ?_) (fun q => ?_)
  · replace h := (if_pos q).symm.trans h
    have q := hm18 _ _ _ _ _ _ _ h
    refine ww_iinc 1369 X dL_law_1369 (lv' := [(0, .ref l0), (1, .ref l1), (2, .ref l2), (3, .int (l3 + 8))]) 3 rfl rfl (by decide) [1, 2, 3, 0] rfl ?_
    refine ww_goto 1372 18 X dL_law_1372 (by decide) ?_
    exact (hr18 _ _ _ _ _ _ _ (by omega) (by omega) h)
  · replace h := (if_neg q).symm.trans h
    have q := retZA_p h
    refine ww_iconst 1115 X (v := (0 : Int32)) dL_law_1115 (by decide) ?_
    exact ww_lawret 1116 X hQ hZm hSm dL_law_1116 h
theorem mB_L_law_1089 {G : mG} {F : Nat} {M0 : mM} {Z0 S0 : Nat} (r18 : Nat → Nat → Nat → Int32 → mM → Nat → Nat → Option (Int32 × mM × Nat × Nat)) (hm18 : ∀ (l0 : Nat) (l1 : Nat) (l2 : Nat) (l3 : Int32) (M : mM) (sz : Nat) (sl : Nat), r18 l0 l1 l2 l3 M sz sl = some ((1 : Int32), M0, Z0, S0) → sz ≤ Z0 ∧ sl ≤ S0) {l0 : Nat} {l1 : Nat} {l2 : Nat} {l3 : Int32} {sk0 : Int32} {sk1 : Int32} {M : mM} {sz : Nat} {sl : Nat} (h : B_L_law_1089 G F r18 l0 l1 l2 l3 sk0 sk1 M sz sl = some ((1 : Int32), M0, Z0, S0)) : sz ≤ Z0 ∧ sl ≤ S0 := by
  unfold B_L_law_1089 at h
  by_cases q : sk0 = sk1
  · replace h := (if_pos q).symm.trans h
    have q := hm18 _ _ _ _ _ _ _ h
    omega
  · replace h := (if_neg q).symm.trans h
    have q := retZA_p h
    omega
set_option maxHeartbeats 4000000 in
set_option maxRecDepth 100000 in
theorem wB_L_law_1089 {G : mG} {F : Nat} {x : mXT} {z0 s0 : Nat} {M0 : mM} {Z0 S0 : Nat} (X : mCX G RL cL_law 4 (some .boolean) "law" room_1 x) (hQ : mQW x) (hZm : Z0 - z0 ≤ 600000) (hSm : S0 - s0 ≤ 7302250) (r18 : Nat → Nat → Nat → Int32 → mM → Nat → Nat → Option (Int32 × mM × Nat × Nat)) (hm18 : ∀ (l0 : Nat) (l1 : Nat) (l2 : Nat) (l3 : Int32) (M : mM) (sz : Nat) (sl : Nat), r18 l0 l1 l2 l3 M sz sl = some ((1 : Int32), M0, Z0, S0) → sz ≤ Z0 ∧ sl ≤ S0) (hr18 : ∀ (l0 : Nat) (l1 : Nat) (l2 : Nat) (l3 : Int32) (M : mM) (sz : Nat) (sl : Nat), z0 ≤ sz → s0 ≤ sl → r18 l0 l1 l2 l3 M sz sl = some ((1 : Int32), M0, Z0, S0) → WW x (sz, sz - z0, sl - s0) M 18 [(0, .ref l0), (1, .ref l1), (2, .ref l2), (3, .int l3)] []) {l0 : Nat} {l1 : Nat} {l2 : Nat} {l3 : Int32} {sk0 : Int32} {sk1 : Int32} {M : mM} {sz : Nat} {sl : Nat} (hz0 : z0 ≤ sz) (hs0 : s0 ≤ sl) (h : B_L_law_1089 G F r18 l0 l1 l2 l3 sk0 sk1 M sz sl = some ((1 : Int32), M0, Z0, S0)) : WW x (sz, sz - z0, sl - s0) M 1089 [(0, .ref l0), (1, .ref l1), (2, .ref l2), (3, .int l3)] [.int sk1, .int sk0] := by
  unfold B_L_law_1089 at h
  refine ww_icmp_eq 1089 1369 X dL_law_1089 (by decide) (fun q => ?_) (fun q => ?_)
  · replace h := (if_pos q).symm.trans h
    have q := hm18 _ _ _ _ _ _ _ h
    refine ww_iinc 1369 X dL_law_1369 (lv' := [(0, .ref l0), (1, .ref l1), (2, .ref l2), (3, .int (l3 + 8))]) 3 rfl rfl (by decide) [1, 2, 3, 0] rfl ?_
    refine ww_goto 1372 18 X dL_law_1372 (by decide) ?_
    exact (hr18 _ _ _ _ _ _ _ (by omega) (by omega) h)
  · replace h := (if_neg q).symm.trans h
    have q := retZA_p h
    refine ww_iconst 1092 X (v := (0 : Int32)) dL_law_1092 (by decide) ?_
    exact ww_lawret 1093 X hQ hZm hSm dL_law_1093 h
theorem mB_L_law_1066 {G : mG} {F : Nat} {M0 : mM} {Z0 S0 : Nat} (r18 : Nat → Nat → Nat → Int32 → mM → Nat → Nat → Option (Int32 × mM × Nat × Nat)) (hm18 : ∀ (l0 : Nat) (l1 : Nat) (l2 : Nat) (l3 : Int32) (M : mM) (sz : Nat) (sl : Nat), r18 l0 l1 l2 l3 M sz sl = some ((1 : Int32), M0, Z0, S0) → sz ≤ Z0 ∧ sl ≤ S0) {l0 : Nat} {l1 : Nat} {l2 : Nat} {l3 : Int32} {sk0 : Int32} {sk1 : Int32} {M : mM} {sz : Nat} {sl : Nat} (h : B_L_law_1066 G F r18 l0 l1 l2 l3 sk0 sk1 M sz sl = some ((1 : Int32), M0, Z0, S0)) : sz ≤ Z0 ∧ sl ≤ S0 := by
  unfold B_L_law_1066 at h
  by_cases q : sk0 = sk1
  · replace h := (if_pos q).symm.trans h
    have q := hm18 _ _ _ _ _ _ _ h
    omega
  · replace h := (if_neg q).symm.trans h
    have q := retZA_p h
    omega
set_option maxHeartbeats 4000000 in
set_option maxRecDepth 100000 in
theorem wB_L_law_1066 {G : mG} {F : Nat} {x : mXT} {z0 s0 : Nat} {M0 : mM} {Z0 S0 : Nat} (X : mCX G RL cL_law 4 (some .boolean) "law" room_1 x) (hQ : mQW x) (hZm : Z0 - z0 ≤ 600000) (hSm : S0 - s0 ≤ 7302250) (r18 : Nat → Nat → Nat → Int32 → mM → Nat → Nat → Option (Int32 × mM × Nat × Nat)) (hm18 : ∀ (l0 : Nat) (l1 : Nat) (l2 : Nat) (l3 : Int32) (M : mM) (sz : Nat) (sl : Nat), r18 l0 l1 l2 l3 M sz sl = some ((1 : Int32), M0, Z0, S0) → sz ≤ Z0 ∧ sl ≤ S0) (hr18 : ∀ (l0 : Nat) (l1 : Nat) (l2 : Nat) (l3 : Int32) (M : mM) (sz : Nat) (sl : Nat), z0 ≤ sz → s0 ≤ sl → r18 l0 l1 l2 l3 M sz sl = some ((1 : Int32), M0, Z0, S0) → WW x (sz, sz - z0, sl - s0) M 18 [(0, .ref l0), (1, .ref l1), (2, .ref l2), (3, .int l3)] []) {l0 : Nat} {l1 : Nat} {l2 : Nat} {l3 : Int32} {sk0 : Int32} {sk1 : Int32} {M : mM} {sz : Nat} {sl : Nat} (hz0 : z0 ≤ sz) (hs0 : s0 ≤ sl) (h : B_L_law_1066 G F r18 l0 l1 l2 l3 sk0 sk1 M sz sl = some ((1 : Int32), M0, Z0, S0)) : WW x (sz, sz - z0, sl - s0) M 1066 [(0, .ref l0), (1, .ref l1), (2, .ref l2), (3, .int l3)] [.int sk1, .int sk0] := by
  unfold B_L_law_1066 at h
  refine ww_icmp_eq 1066 1369 X dL_law_1066 (by decide) (fun q => ?_) (fun q => ?_)
  · replace h := (if_pos q).symm.trans h
    have q := hm18 _ _ _ _ _ _ _ h
    refine ww_iinc 1369 X dL_law_1369 (lv' := [(0, .ref l0), (1, .ref l1), (2, .ref l2), (3, .int (l3 + 8))]) 3 rfl rfl (by decide) [1, 2, 3, 0] rfl ?_
    refine ww_goto 1372 18 X dL_law_1372 (by decide) ?_
    exact (hr18 _ _ _ _ _ _ _ (by omega) (by omega) h)
  · replace h := (if_neg q).symm.trans h
    have q := retZA_p h
    refine ww_iconst 1069 X (v := (0 : Int32)) dL_law_1069 (by decide) ?_
    exact ww_lawret 1070 X hQ hZm hSm dL_law_1070 h
theorem mB_L_law_1003 {G : mG} {F : Nat} {M0 : mM} {Z0 S0 : Nat} (r18 : Nat → Nat → Nat → Int32 → mM → Nat → Nat → Option (Int32 × mM × Nat × Nat)) (hm18 : ∀ (l0 : Nat) (l1 : Nat) (l2 : Nat) (l3 : Int32) (M : mM) (sz : Nat) (sl : Nat), r18 l0 l1 l2 l3 M sz sl = some ((1 : Int32), M0, Z0, S0) → sz ≤ Z0 ∧ sl ≤ S0) {l0 : Nat} {l1 : Nat} {l2 : Nat} {l3 : Int32} {sk0 : Int32} {sk1 : Int32} {M : mM} {sz : Nat} {sl : Nat} (h : B_L_law_1003 G F r18 l0 l1 l2 l3 sk0 sk1 M sz sl = some ((1 : Int32), M0, Z0, S0)) : sz ≤ Z0 ∧ sl ≤ S0 := by
  unfold B_L_law_1003 at h
  by_cases q : sk0 = sk1
  · replace h := (if_pos q).symm.trans h
    have q := hm18 _ _ _ _ _ _ _ h
    omega
  · replace h := (if_neg q).symm.trans h
    have q := retZA_p h
    omega
set_option maxHeartbeats 4000000 in
set_option maxRecDepth 100000 in
theorem wB_L_law_1003 {G : mG} {F : Nat} {x : mXT} {z0 s0 : Nat} {M0 : mM} {Z0 S0 : Nat} (X : mCX G RL cL_law 4 (some .boolean) "law" room_1 x) (hQ : mQW x) (hZm : Z0 - z0 ≤ 600000) (hSm : S0 - s0 ≤ 7302250) (r18 : Nat → Nat → Nat → Int32 → mM → Nat → Nat → Option (Int32 × mM × Nat × Nat)) (hm18 : ∀ (l0 : Nat) (l1 : Nat) (l2 : Nat) (l3 : Int32) (M : mM) (sz : Nat) (sl : Nat), r18 l0 l1 l2 l3 M sz sl = some ((1 : Int32), M0, Z0, S0) → sz ≤ Z0 ∧ sl ≤ S0) (hr18 : ∀ (l0 : Nat) (l1 : Nat) (l2 : Nat) (l3 : Int32) (M : mM) (sz : Nat) (sl : Nat), z0 ≤ sz → s0 ≤ sl → r18 l0 l1 l2 l3 M sz sl = some ((1 : Int32), M0, Z0, S0) → WW x (sz, sz - z0, sl - s0) M 18 [(0, .ref l0), (1, .ref l1), (2, .ref l2), (3, .int l3)] []) {l0 : Nat} {l1 : Nat} {l2 : Nat} {l3 : Int32} {sk0 : Int32} {sk1 : Int32} {M : mM} {sz : Nat} {sl : Nat} (hz0 : z0 ≤ sz) (hs0 : s0 ≤ sl) (h : B_L_law_1003 G F r18 l0 l1 l2 l3 sk0 sk1 M sz sl = some ((1 : Int32), M0, Z0, S0)) : WW x (sz, sz - z0, sl - s0) M 1003 [(0, .ref l0), (1, .ref l1), (2, .ref l2), (3, .int l3)] [.int sk1, .int sk0] := by
  unfold B_L_law_1003 at h
  refine ww_icmp_eq 1003 1369 X dL_law_1003 (by decide) (fun q => ?_) (fun q => ?_)
  · replace h := (if_pos q).symm.trans h
    have q := hm18 _ _ _ _ _ _ _ h
    refine ww_iinc 1369 X dL_law_1369 (lv' := [(0, .ref l0), (1, .ref l1), (2, .ref l2), (3, .int (l3 + 8))]) 3 rfl rfl (by decide) [1, 2, 3, 0] rfl ?_
    refine ww_goto 1372 18 X dL_law_1372 (by decide) ?_
    exact (hr18 _ _ _ _ _ _ _ (by omega) (by omega) h)
  · replace h := (if_neg q).symm.trans h
    have q := retZA_p h
    refine ww_iconst 1006 X (v := (0 : Int32)) dL_law_1006 (by decide) ?_
    exact ww_lawret 1007 X hQ hZm hSm dL_law_1007 h
theorem mB_L_law_970 {G : mG} {F : Nat} {M0 : mM} {Z0 S0 : Nat} (r18 : Nat → Nat → Nat → Int32 → mM → Nat → Nat → Option (Int32 × mM × Nat × Nat)) (hm18 : ∀ (l0 : Nat) (l1 : Nat) (l2 : Nat) (l3 : Int32) (M : mM) (sz : Nat) (sl : Nat), r18 l0 l1 l2 l3 M sz sl = some ((1 : Int32), M0, Z0, S0) → sz ≤ Z0 ∧ sl ≤ S0) {l0 : Nat} {l1 : Nat} {l2 : Nat} {l3 : Int32} {sk0 : Int32} {sk1 : Int32} {M : mM} {sz : Nat} {sl : Nat} (h : B_L_law_970 G F r18 l0 l1 l2 l3 sk0 sk1 M sz sl = some ((1 : Int32), M0, Z0, S0)) : sz ≤ Z0 ∧ sl ≤ S0 := by
  unfold B_L_law_970 at h
  by_cases q : sk0 = sk1
  · replace h := (if_pos q).symm.trans h
    have q := hm18 _ _ _ _ _ _ _ h
    omega
  · replace h := (if_neg q).symm.trans h
    have q := retZA_p h
    omega
set_option maxHeartbeats 4000000 in
set_option maxRecDepth 100000 in
theorem wB_L_law_970 {G : mG} {F : Nat} {x : mXT} {z0 s0 : Nat} {M0 : mM} {Z0 S0 : Nat} (X : mCX G RL cL_law 4 (some .boolean) "law" room_1 x) (hQ : mQW x) (hZm : Z0 - z0 ≤ 600000) (hSm : S0 - s0 ≤ 7302250) (r18 : Nat → Nat → Nat → Int32 → mM → Nat → Nat → Option (Int32 × mM × Nat × Nat)) (hm18 : ∀ (l0 : Nat) (l1 : Nat) (l2 : Nat) (l3 : Int32) (M : mM) (sz : Nat) (sl : Nat), r18 l0 l1 l2 l3 M sz sl = some ((1 : Int32), M0, Z0, S0) → sz ≤ Z0 ∧ sl ≤ S0) (hr18 : ∀ (l0 : Nat) (l1 : Nat) (l2 : Nat) (l3 : Int32) (M : mM) (sz : Nat) (sl : Nat), z0 ≤ sz → s0 ≤ sl → r18 l0 l1 l2 l3 M sz sl = some ((1 : Int32), M0, Z0, S0) → WW x (sz, sz - z0, sl - s0) M 18 [(0, .ref l0), (1, .ref l1), (2, .ref l2), (3, .int l3)] []) {l0 : Nat} {l1 : Nat} {l2 : Nat} {l3 : Int32} {sk0 : Int32} {sk1 : Int32} {M : mM} {sz : Nat} {sl : Nat} (hz0 : z0 ≤ sz) (hs0 : s0 ≤ sl) (h : B_L_law_970 G F r18 l0 l1 l2 l3 sk0 sk1 M sz sl = some ((1 : Int32), M0, Z0, S0)) : WW x (sz, sz - z0, sl - s0) M 970 [(0, .ref l0), (1, .ref l1), (2, .ref l2), (3, .int l3)] [.int sk1, .int sk0] := by
  unfold B_L_law_970 at h
  refine ww_icmp_eq 970 1369 X dL_law_970 (by decide) (fun q => ?_) (fun q => ?_)
  · replace h := (if_pos q).symm.trans h
    have q := hm18 _ _ _ _ _ _ _ h
    refine ww_iinc 1369 X dL_law_1369 (lv' := [(0, .ref l0), (1, .ref l1), (2, .ref l2), (3, .int (l3 + 8))]) 3 rfl rfl (by decide) [1, 2, 3, 0] rfl ?_
    refine ww_goto 1372 18 X dL_law_1372 (by decide) ?_
    exact (hr18 _ _ _ _ _ _ _ (by omega) (by omega) h)
  · replace h := (if_neg q).symm.trans h
    have q := retZA_p h
    refine ww_iconst 973 X (v := (0 : Int32)) dL_law_973 (by decide) ?_
    exact ww_lawret 974 X hQ hZm hSm dL_law_974 h
theorem mB_L_law_927 {G : mG} {F : Nat} {M0 : mM} {Z0 S0 : Nat} (r18 : Nat → Nat → Nat → Int32 → mM → Nat → Nat → Option (Int32 × mM × Nat × Nat)) (hm18 : ∀ (l0 : Nat) (l1 : Nat) (l2 : Nat) (l3 : Int32) (M : mM) (sz : Nat) (sl : Nat), r18 l0 l1 l2 l3 M sz sl = some ((1 : Int32), M0, Z0, S0) → sz ≤ Z0 ∧ sl ≤ S0) {l0 : Nat} {l1 : Nat} {l2 : Nat} {l3 : Int32} {sk0 : Int32} {sk1 : Int32} {M : mM} {sz : Nat} {sl : Nat} (h : B_L_law_927 G F r18 l0 l1 l2 l3 sk0 sk1 M sz sl = some ((1 : Int32), M0, Z0, S0)) : sz ≤ Z0 ∧ sl ≤ S0 := by
  unfold B_L_law_927 at h
  by_cases q : sk0 = sk1
  · replace h := (if_pos q).symm.trans h
    have q := hm18 _ _ _ _ _ _ _ h
    omega
  · replace h := (if_neg q).symm.trans h
    have q := retZA_p h
    omega
set_option maxHeartbeats 4000000 in
set_option maxRecDepth 100000 in
theorem wB_L_law_927 {G : mG} {F : Nat} {x : mXT} {z0 s0 : Nat} {M0 : mM} {Z0 S0 : Nat} (X : mCX G RL cL_law 4 (some .boolean) "law" room_1 x) (hQ : mQW x) (hZm : Z0 - z0 ≤ 600000) (hSm : S0 - s0 ≤ 7302250) (r18 : Nat → Nat → Nat → Int32 → mM → Nat → Nat → Option (Int32 × mM × Nat × Nat)) (hm18 : ∀ (l0 : Nat) (l1 : Nat) (l2 : Nat) (l3 : Int32) (M : mM) (sz : Nat) (sl : Nat), r18 l0 l1 l2 l3 M sz sl = some ((1 : Int32), M0, Z0, S0) → sz ≤ Z0 ∧ sl ≤ S0) (hr18 : ∀ (l0 : Nat) (l1 : Nat) (l2 : Nat) (l3 : Int32) (M : mM) (sz : Nat) (sl : Nat), z0 ≤ sz → s0 ≤ sl → r18 l0 l1 l2 l3 M sz sl = some ((1 : Int32), M0, Z0, S0) → WW x (sz, sz - z0, sl - s0) M 18 [(0, .ref l0), (1, .ref l1), (2, .ref l2), (3, .int l3)] []) {l0 : Nat} {l1 : Nat} {l2 : Nat} {l3 : Int32} {sk0 : Int32} {sk1 : Int32} {M : mM} {sz : Nat} {sl : Nat} (hz0 : z0 ≤ sz) (hs0 : s0 ≤ sl) (h : B_L_law_927 G F r18 l0 l1 l2 l3 sk0 sk1 M sz sl = some ((1 : Int32), M0, Z0, S0)) : WW x (sz, sz - z0, sl - s0) M 927 [(0, .ref l0), (1, .ref l1), (2, .ref l2), (3, .int l3)] [.int sk1, .int sk0] := by
  unfold B_L_law_927 at h
  refine ww_icmp_eq 927 1369 X dL_law_927 (by decide) (fun q => ?_) (fun q => ?_)
  · replace h := (if_pos q).symm.trans h
    have q := hm18 _ _ _ _ _ _ _ h
    refine ww_iinc 1369 X dL_law_1369 (lv' := [(0, .ref l0), (1, .ref l1), (2, .ref l2), (3, .int (l3 + 8))]) 3 rfl rfl (by decide) [1, 2, 3, 0] rfl ?_
    refine ww_goto 1372 18 X dL_law_1372 (by decide) ?_
    exact (hr18 _ _ _ _ _ _ _ (by omega) (by omega) h)
  · replace h := (if_neg q).symm.trans h
    have q := retZA_p h
    refine ww_iconst 930 X (v := (0 : Int32)) dL_law_930 (by decide) ?_
    exact ww_lawret 931 X hQ hZm hSm dL_law_931 h
theorem mB_L_law_864 {G : mG} {F : Nat} {M0 : mM} {Z0 S0 : Nat} (r18 : Nat → Nat → Nat → Int32 → mM → Nat → Nat → Option (Int32 × mM × Nat × Nat)) (hm18 : ∀ (l0 : Nat) (l1 : Nat) (l2 : Nat) (l3 : Int32) (M : mM) (sz : Nat) (sl : Nat), r18 l0 l1 l2 l3 M sz sl = some ((1 : Int32), M0, Z0, S0) → sz ≤ Z0 ∧ sl ≤ S0) {l0 : Nat} {l1 : Nat} {l2 : Nat} {l3 : Int32} {sk0 : Int32} {sk1 : Int32} {M : mM} {sz : Nat} {sl : Nat} (h : B_L_law_864 G F r18 l0 l1 l2 l3 sk0 sk1 M sz sl = some ((1 : Int32), M0, Z0, S0)) : sz ≤ Z0 ∧ sl ≤ S0 := by
  unfold B_L_law_864 at h
  by_cases q : sk0 = sk1
  · replace h := (if_pos q).symm.trans h
    have q := hm18 _ _ _ _ _ _ _ h
    omega
  · replace h := (if_neg q).symm.trans h
    have q := retZA_p h
    omega
set_option maxHeartbeats 4000000 in
set_option maxRecDepth 100000 in
theorem wB_L_law_864 {G : mG} {F : Nat} {x : mXT} {z0 s0 : Nat} {M0 : mM} {Z0 S0 : Nat} (X : mCX G RL cL_law 4 (some .boolean) "law" room_1 x) (hQ : mQW x) (hZm : Z0 - z0 ≤ 600000) (hSm : S0 - s0 ≤ 7302250) (r18 : Nat → Nat → Nat → Int32 → mM → Nat → Nat → Option (Int32 × mM × Nat × Nat)) (hm18 : ∀ (l0 : Nat) (l1 : Nat) (l2 : Nat) (l3 : Int32) (M : mM) (sz : Nat) (sl : Nat), r18 l0 l1 l2 l3 M sz sl = some ((1 : Int32), M0, Z0, S0) → sz ≤ Z0 ∧ sl ≤ S0) (hr18 : ∀ (l0 : Nat) (l1 : Nat) (l2 : Nat) (l3 : Int32) (M : mM) (sz : Nat) (sl : Nat), z0 ≤ sz → s0 ≤ sl → r18 l0 l1 l2 l3 M sz sl = some ((1 : Int32), M0, Z0, S0) → WW x (sz, sz - z0, sl - s0) M 18 [(0, .ref l0), (1, .ref l1), (2, .ref l2), (3, .int l3)] []) {l0 : Nat} {l1 : Nat} {l2 : Nat} {l3 : Int32} {sk0 : Int32} {sk1 : Int32} {M : mM} {sz : Nat} {sl : Nat} (hz0 : z0 ≤ sz) (hs0 : s0 ≤ sl) (h : B_L_law_864 G F r18 l0 l1 l2 l3 sk0 sk1 M sz sl = some ((1 : Int32), M0, Z0, S0)) : WW x (sz, sz - z0, sl - s0) M 864 [(0, .ref l0), (1, .ref l1), (2, .ref l2), (3, .int l3)] [.int sk1, .int sk0] := by
  unfold B_L_law_864 at h
  refine ww_icmp_eq 864 1369 X dL_law_864 (by decide) (fun q => ?_) (fun q => ?_)
  · replace h := (if_pos q).symm.trans h
    have q := hm18 _ _ _ _ _ _ _ h
    refine ww_iinc 1369 X dL_law_1369 (lv' := [(0, .ref l0), (1, .ref l1), (2, .ref l2), (3, .int (l3 + 8))]) 3 rfl rfl (by decide) [1, 2, 3, 0] rfl ?_
    refine ww_goto 1372 18 X dL_law_1372 (by decide) ?_
    exact (hr18 _ _ _ _ _ _ _ (by omega) (by omega) h)
  · replace h := (if_neg q).symm.trans h
    have q := retZA_p h
    refine ww_iconst 867 X (v := (0 : Int32)) dL_law_867 (by decide) ?_
    exact ww_lawret 868 X hQ hZm hSm dL_law_868 h
theorem mB_L_law_801 {G : mG} {F : Nat} {M0 : mM} {Z0 S0 : Nat} (r18 : Nat → Nat → Nat → Int32 → mM → Nat → Nat → Option (Int32 × mM × Nat × Nat)) (hm18 : ∀ (l0 : Nat) (l1 : Nat) (l2 : Nat) (l3 : Int32) (M : mM) (sz : Nat) (sl : Nat), r18 l0 l1 l2 l3 M sz sl = some ((1 : Int32), M0, Z0, S0) → sz ≤ Z0 ∧ sl ≤ S0) {l0 : Nat} {l1 : Nat} {l2 : Nat} {l3 : Int32} {sk0 : Int32} {sk1 : Int32} {M : mM} {sz : Nat} {sl : Nat} (h : B_L_law_801 G F r18 l0 l1 l2 l3 sk0 sk1 M sz sl = some ((1 : Int32), M0, Z0, S0)) : sz ≤ Z0 ∧ sl ≤ S0 := by
  unfold B_L_law_801 at h
  by_cases q : sk0 = sk1
  · replace h := (if_pos q).symm.trans h
    have q := hm18 _ _ _ _ _ _ _ h
    omega
  · replace h := (if_neg q).symm.trans h
    have q := retZA_p h
    omega
set_option maxHeartbeats 4000000 in
set_option maxRecDepth 100000 in
theorem wB_L_law_801 {G : mG} {F : Nat} {x : mXT} {z0 s0 : Nat} {M0 : mM} {Z0 S0 : Nat} (X : mCX G RL cL_law 4 (some .boolean) "law" room_1 x) (hQ : mQW x) (hZm : Z0 - z0 ≤ 600000) (hSm : S0 - s0 ≤ 7302250) (r18 : Nat → Nat → Nat → Int32 → mM → Nat → Nat → Option (Int32 × mM × Nat × Nat)) (hm18 : ∀ (l0 : Nat) (l1 : Nat) (l2 : Nat) (l3 : Int32) (M : mM) (sz : Nat) (sl : Nat), r18 l0 l1 l2 l3 M sz sl = some ((1 : Int32), M0, Z0, S0) → sz ≤ Z0 ∧ sl ≤ S0) (hr18 : ∀ (l0 : Nat) (l1 : Nat) (l2 : Nat) (l3 : Int32) (M : mM) (sz : Nat) (sl : Nat), z0 ≤ sz → s0 ≤ sl → r18 l0 l1 l2 l3 M sz sl = some ((1 : Int32), M0, Z0, S0) → WW x (sz, sz - z0, sl - s0) M 18 [(0, .ref l0), (1, .ref l1), (2, .ref l2), (3, .int l3)] []) {l0 : Nat} {l1 : Nat} {l2 : Nat} {l3 : Int32} {sk0 : Int32} {sk1 : Int32} {M : mM} {sz : Nat} {sl : Nat} (hz0 : z0 ≤ sz) (hs0 : s0 ≤ sl) (h : B_L_law_801 G F r18 l0 l1 l2 l3 sk0 sk1 M sz sl = some ((1 : Int32), M0, Z0, S0)) : WW x (sz, sz - z0, sl - s0) M 801 [(0, .ref l0), (1, .ref l1), (2, .ref l2), (3, .int l3)] [.int sk1, .int sk0] := by
  unfold B_L_law_801 at h
  refine ww_icmp_eq 801 1369 X dL_law_801 (by decide) (fun q => ?_) (fun q => ?_)
  · replace h := (if_pos q).symm.trans h
    have q := hm18 _ _ _ _ _ _ _ h
    refine ww_iinc 1369 X dL_law_1369 (lv' := [(0, .ref l0), (1, .ref l1), (2, .ref l2), (3, .int (l3 + 8))]) 3 rfl rfl (by decide) [1, 2, 3, 0] rfl ?_
    refine ww_goto 1372 18 X dL_law_1372 (by decide) ?_
    exact (hr18 _ _ _ _ _ _ _ (by omega) (by omega) h)
  · replace h := (if_neg q).symm.trans h
    have q := retZA_p h
    refine ww_iconst 804 X (v := (0 : Int32)) dL_law_804 (by decide) ?_
    exact ww_lawret 805 X hQ hZm hSm dL_law_805 h
theorem mB_L_law_768 {G : mG} {F : Nat} {M0 : mM} {Z0 S0 : Nat} (r18 : Nat → Nat → Nat → Int32 → mM → Nat → Nat → Option (Int32 × mM × Nat × Nat)) (hm18 : ∀ (l0 : Nat) (l1 : Nat) (l2 : Nat) (l3 : Int32) (M : mM) (sz : Nat) (sl : Nat), r18 l0 l1 l2 l3 M sz sl = some ((1 : Int32), M0, Z0, S0) → sz ≤ Z0 ∧ sl ≤ S0) {l0 : Nat} {l1 : Nat} {l2 : Nat} {l3 : Int32} {sk0 : Int32} {sk1 : Int32} {M : mM} {sz : Nat} {sl : Nat} (h : B_L_law_768 G F r18 l0 l1 l2 l3 sk0 sk1 M sz sl = some ((1 : Int32), M0, Z0, S0)) : sz ≤ Z0 ∧ sl ≤ S0 := by
  unfold B_L_law_768 at h
  by_cases q : sk0 = sk1
  · replace h := (if_pos q).symm.trans h
    have q := hm18 _ _ _ _ _ _ _ h
    omega
  · replace h := (if_neg q).symm.trans h
    have q := retZA_p h
    omega
set_option maxHeartbeats 4000000 in
set_option maxRecDepth 100000 in
theorem wB_L_law_768 {G : mG} {F : Nat} {x : mXT} {z0 s0 : Nat} {M0 : mM} {Z0 S0 : Nat} (X : mCX G RL cL_law 4 (some .boolean) "law" room_1 x) (hQ : mQW x) (hZm : Z0 - z0 ≤ 600000) (hSm : S0 - s0 ≤ 7302250) (r18 : Nat → Nat → Nat → Int32 → mM → Nat → Nat → Option (Int32 × mM × Nat × Nat)) (hm18 : ∀ (l0 : Nat) (l1 : Nat) (l2 : Nat) (l3 : Int32) (M : mM) (sz : Nat) (sl : Nat), r18 l0 l1 l2 l3 M sz sl = some ((1 : Int32), M0, Z0, S0) → sz ≤ Z0 ∧ sl ≤ S0) (hr18 : ∀ (l0 : Nat) (l1 : Nat) (l2 : Nat) (l3 : Int32) (M : mM) (sz : Nat) (sl : Nat), z0 ≤ sz → s0 ≤ sl → r18 l0 l1 l2 l3 M sz sl = some ((1 : Int32), M0, Z0, S0) → WW x (sz, sz - z0, sl - s0) M 18 [(0, .ref l0), (1, .ref l1), (2, .ref l2), (3, .int l3)] []) {l0 : Nat} {l1 : Nat} {l2 : Nat} {l3 : Int32} {sk0 : Int32} {sk1 : Int32} {M : mM} {sz : Nat} {sl : Nat} (hz0 : z0 ≤ sz) (hs0 : s0 ≤ sl) (h : B_L_law_768 G F r18 l0 l1 l2 l3 sk0 sk1 M sz sl = some ((1 : Int32), M0, Z0, S0)) : WW x (sz, sz - z0, sl - s0) M 768 [(0, .ref l0), (1, .ref l1), (2, .ref l2), (3, .int l3)] [.int sk1, .int sk0] := by
  unfold B_L_law_768 at h
  refine ww_icmp_eq 768 1369 X dL_law_768 (by decide) (fun q => ?_) (fun q => ?_)
  · replace h := (if_pos q).symm.trans h
    have q := hm18 _ _ _ _ _ _ _ h
    refine ww_iinc 1369 X dL_law_1369 (lv' := [(0, .ref l0), (1, .ref l1), (2, .ref l2), (3, .int (l3 + 8))]) 3 rfl rfl (by decide) [1, 2, 3, 0] rfl ?_
    refine ww_goto 1372 18 X dL_law_1372 (by decide) ?_
    exact (hr18 _ _ _ _ _ _ _ (by omega) (by omega) h)
  · replace h := (if_neg q).symm.trans h
    have q := retZA_p h
    refine ww_iconst 771 X (v := (0 : Int32)) dL_law_771 (by decide) ?_
    exact ww_lawret 772 X hQ hZm hSm dL_law_772 h
theorem mB_L_law_735 {G : mG} {F : Nat} {M0 : mM} {Z0 S0 : Nat} (r18 : Nat → Nat → Nat → Int32 → mM → Nat → Nat → Option (Int32 × mM × Nat × Nat)) (hm18 : ∀ (l0 : Nat) (l1 : Nat) (l2 : Nat) (l3 : Int32) (M : mM) (sz : Nat) (sl : Nat), r18 l0 l1 l2 l3 M sz sl = some ((1 : Int32), M0, Z0, S0) → sz ≤ Z0 ∧ sl ≤ S0) {l0 : Nat} {l1 : Nat} {l2 : Nat} {l3 : Int32} {sk0 : Int32} {sk1 : Int32} {M : mM} {sz : Nat} {sl : Nat} (h : B_L_law_735 G F r18 l0 l1 l2 l3 sk0 sk1 M sz sl = some ((1 : Int32), M0, Z0, S0)) : sz ≤ Z0 ∧ sl ≤ S0 := by
  unfold B_L_law_735 at h
  by_cases q : sk0 = sk1
  · replace h := (if_pos q).symm.trans h
    have q := hm18 _ _ _ _ _ _ _ h
    omega
  · replace h := (if_neg q).symm.trans h
    have q := retZA_p h
    omega
set_option maxHeartbeats 4000000 in
set_option maxRecDepth 100000 in
theorem wB_L_law_735 {G : mG} {F : Nat} {x : mXT} {z0 s0 : Nat} {M0 : mM} {Z0 S0 : Nat} (X : mCX G RL cL_law 4 (some .boolean) "law" room_1 x) (hQ : mQW x) (hZm : Z0 - z0 ≤ 600000) (hSm : S0 - s0 ≤ 7302250) (r18 : Nat → Nat → Nat → Int32 → mM → Nat → Nat → Option (Int32 × mM × Nat × Nat)) (hm18 : ∀ (l0 : Nat) (l1 : Nat) (l2 : Nat) (l3 : Int32) (M : mM) (sz : Nat) (sl : Nat), r18 l0 l1 l2 l3 M sz sl = some ((1 : Int32), M0, Z0, S0) → sz ≤ Z0 ∧ sl ≤ S0) (hr18 : ∀ (l0 : Nat) (l1 : Nat) (l2 : Nat) (l3 : Int32) (M : mM) (sz : Nat) (sl : Nat), z0 ≤ sz → s0 ≤ sl → r18 l0 l1 l2 l3 M sz sl = some ((1 : Int32), M0, Z0, S0) → WW x (sz, sz - z0, sl - s0) M 18 [(0, .ref l0), (1, .ref l1), (2, .ref l2), (3, .int l3)] []) {l0 : Nat} {l1 : Nat} {l2 : Nat} {l3 : Int32} {sk0 : Int32} {sk1 : Int32} {M : mM} {sz : Nat} {sl : Nat} (hz0 : z0 ≤ sz) (hs0 : s0 ≤ sl) (h : B_L_law_735 G F r18 l0 l1 l2 l3 sk0 sk1 M sz sl = some ((1 : Int32), M0, Z0, S0)) : WW x (sz, sz - z0, sl - s0) M 735 [(0, .ref l0), (1, .ref l1), (2, .ref l2), (3, .int l3)] [.int sk1, .int sk0] := by
  unfold B_L_law_735 at h
  refine ww_icmp_eq 735 1369 X dL_law_735 (by decide) (fun q => ?_) (fun q => ?_)
  · replace h := (if_pos q).symm.trans h
    have q := hm18 _ _ _ _ _ _ _ h
    refine ww_iinc 1369 X dL_law_1369 (lv' := [(0, .ref l0), (1, .ref l1), (2, .ref l2), (3, .int (l3 + 8))]) 3 rfl rfl (by decide) [1, 2, 3, 0] rfl ?_
    refine ww_goto 1372 18 X dL_law_1372 (by decide) ?_
    exact (hr18 _ _ _ _ _ _ _ (by omega) (by omega) h)
  · replace h := (if_neg q).symm.trans h
    have q := retZA_p h
    refine ww_iconst 738 X (v := (0 : Int32)) dL_law_738 (by decide) ?_
    exact ww_lawret 739 X hQ hZm hSm dL_law_739 h
theorem mB_L_law_724 {G : mG} {F : Nat} {M0 : mM} {Z0 S0 : Nat} (r18 : Nat → Nat → Nat → Int32 → mM → Nat → Nat → Option (Int32 × mM × Nat × Nat)) (hm18 : ∀ (l0 : Nat) (l1 : Nat) (l2 : Nat) (l3 : Int32) (M : mM) (sz : Nat) (sl : Nat), r18 l0 l1 l2 l3 M sz sl = some ((1 : Int32), M0, Z0, S0) → sz ≤ Z0 ∧ sl ≤ S0) {l0 : Nat} {l1 : Nat} {l2 : Nat} {l3 : Int32} {sk0 : Int32} {sk1 : Nat} {sk2 : Int32} {sk3 : Int32} {sk4 : Int32} {M : mM} {sz : Nat} {sl : Nat} (h : B_L_law_724 G F r18 l0 l1 l2 l3 sk0 sk1 sk2 sk3 sk4 M sz sl = some ((1 : Int32), M0, Z0, S0)) : sz ≤ Z0 ∧ sl ≤ S0 := by
  unfold B_L_law_724 at h
  by_cases q : sk4 = 0
  · replace h := (if_pos q).symm.trans h
    obtain ⟨_, f732, h⟩ := bO_some h
    obtain ⟨v732, M732, e732, h⟩ := bP_some h
    have q := mB_L_law_735 _ hm18 h
    omega
  · replace h := (if_neg q).symm.trans h
    obtain ⟨_, f732, h⟩ := bO_some h
    obtain ⟨v732, M732, e732, h⟩ := bP_some h
    have q := mB_L_law_735 _ hm18 h
    omega
set_option maxHeartbeats 4000000 in
set_option maxRecDepth 100000 in
theorem wB_L_law_724 {G : mG} {F : Nat} {x : mXT} {z0 s0 : Nat} {M0 : mM} {Z0 S0 : Nat} (X : mCX G RL cL_law 4 (some .boolean) "law" room_1 x) (hQ : mQW x) (hZm : Z0 - z0 ≤ 600000) (hSm : S0 - s0 ≤ 7302250) (r18 : Nat → Nat → Nat → Int32 → mM → Nat → Nat → Option (Int32 × mM × Nat × Nat)) (hm18 : ∀ (l0 : Nat) (l1 : Nat) (l2 : Nat) (l3 : Int32) (M : mM) (sz : Nat) (sl : Nat), r18 l0 l1 l2 l3 M sz sl = some ((1 : Int32), M0, Z0, S0) → sz ≤ Z0 ∧ sl ≤ S0) (hr18 : ∀ (l0 : Nat) (l1 : Nat) (l2 : Nat) (l3 : Int32) (M : mM) (sz : Nat) (sl : Nat), z0 ≤ sz → s0 ≤ sl → r18 l0 l1 l2 l3 M sz sl = some ((1 : Int32), M0, Z0, S0) → WW x (sz, sz - z0, sl - s0) M 18 [(0, .ref l0), (1, .ref l1), (2, .ref l2), (3, .int l3)] []) {l0 : Nat} {l1 : Nat} {l2 : Nat} {l3 : Int32} {sk0 : Int32} {sk1 : Nat} {sk2 : Int32} {sk3 : Int32} {sk4 : Int32} {M : mM} {sz : Nat} {sl : Nat} (hz0 : z0 ≤ sz) (hs0 : s0 ≤ sl) (h : B_L_law_724 G F r18 l0 l1 l2 l3 sk0 sk1 sk2 sk3 sk4 M sz sl = some ((1 : Int32), M0, Z0, S0)) : WW x (sz, sz - z0, sl - s0) M 724 [(0, .ref l0), (1, .ref l1), (2, .ref l2), (3, .int l3)] [.int sk4, .int sk3, .int sk2, .ref sk1, .int sk0] := by
  unfold B_L_law_724 at h
  refine ww_if_eq 724 731 X dL_law_724 (by decide) (fun q => ?_) (fun q => ?_)
  · replace h := (if_pos q).symm.trans h
    obtain ⟨_, f732, h⟩ := bO_some h
    obtain ⟨v732, M732, e732, h⟩ := bP_some h
    have q := mB_L_law_735 _ hm18 h
    refine ww_iconst 731 X (v := (0 : Int32)) dL_law_731 (by decide) ?_
    refine ww_callVIz 732 X (sz := sz) (sl := sl) (z0 := z0) (s0 := s0) dL_law_732 mY_X13_block mL_L_89 (rcv_spec f732) ⟨_, _, rfl⟩ (by decide) (As := [.int sk2, .int sk3, .int (0 : Int32)]) (rest := [.int sk0]) rfl rfl ⟨Nat.le_of_ble_eq_true rfl, Nat.le_of_ble_eq_true rfl⟩ (by show _ ≤ 600000; omega) (by show _ ≤ 7302250; omega) (Nat.le_of_ble_eq_true rfl) (fun l D A => c_X13_block l D A e732) ?_
    exact (wB_L_law_735 X hQ hZm hSm _ hm18 hr18 (by omega) (by omega) h)
  · replace h := (if_neg q).symm.trans h
    obtain ⟨_, f732, h⟩ := bO_some h
    obtain ⟨v732, M732, e732, h⟩ := bP_some h
    have q := mB_L_law_735 _ hm18 h
    refine ww_iconst 727 X (v := (1 : Int32)) dL_law_727 (by decide) ?_
    refine ww_goto 728 732 X dL_law_728 (by decide) ?_
    refine ww_callVIz 732 X (sz := sz) (sl := sl) (z0 := z0) (s0 := s0) dL_law_732 mY_X13_block mL_L_89 (rcv_spec f732) ⟨_, _, rfl⟩ (by decide) (As := [.int sk2, .int sk3, .int (1 : Int32)]) (rest := [.int sk0]) rfl rfl ⟨Nat.le_of_ble_eq_true rfl, Nat.le_of_ble_eq_true rfl⟩ (by show _ ≤ 600000; omega) (by show _ ≤ 7302250; omega) (Nat.le_of_ble_eq_true rfl) (fun l D A => c_X13_block l D A e732) ?_
    exact (wB_L_law_735 X hQ hZm hSm _ hm18 hr18 (by omega) (by omega) h)
theorem mB_L_law_705 {G : mG} {F : Nat} {M0 : mM} {Z0 S0 : Nat} (r18 : Nat → Nat → Nat → Int32 → mM → Nat → Nat → Option (Int32 × mM × Nat × Nat)) (hm18 : ∀ (l0 : Nat) (l1 : Nat) (l2 : Nat) (l3 : Int32) (M : mM) (sz : Nat) (sl : Nat), r18 l0 l1 l2 l3 M sz sl = some ((1 : Int32), M0, Z0, S0) → sz ≤ Z0 ∧ sl ≤ S0) {l0 : Nat} {l1 : Nat} {l2 : Nat} {l3 : Int32} {sk0 : Nat} {sk1 : Int32} {sk2 : Int32} {sk3 : Int32} {M : mM} {sz : Nat} {sl : Nat} (h : B_L_law_705 G F r18 l0 l1 l2 l3 sk0 sk1 sk2 sk3 M sz sl = some ((1 : Int32), M0, Z0, S0)) : sz ≤ Z0 ∧ sl ≤ S0 := by
  unfold B_L_law_705 at h
  obtain ⟨_, f705, h⟩ := bO_some h
  obtain ⟨v705, M705, e705, h⟩ := bP_some h
  obtain ⟨v713, e713, h⟩ := bO_some h
  obtain ⟨v718, e718, h⟩ := bO_some h
  obtain ⟨v723, e723, h⟩ := bO_some h
  have q := mB_L_law_724 _ hm18 h
  omega
set_option maxHeartbeats 4000000 in
set_option maxRecDepth 100000 in
theorem wB_L_law_705 {G : mG} {F : Nat} {x : mXT} {z0 s0 : Nat} {M0 : mM} {Z0 S0 : Nat} (X : mCX G RL cL_law 4 (some .boolean) "law" room_1 x) (hQ : mQW x) (hZm : Z0 - z0 ≤ 600000) (hSm : S0 - s0 ≤ 7302250) (r18 : Nat → Nat → Nat → Int32 → mM → Nat → Nat → Option (Int32 × mM × Nat × Nat)) (hm18 : ∀ (l0 : Nat) (l1 : Nat) (l2 : Nat) (l3 : Int32) (M : mM) (sz : Nat) (sl : Nat), r18 l0 l1 l2 l3 M sz sl = some ((1 : Int32), M0, Z0, S0) → sz ≤ Z0 ∧ sl ≤ S0) (hr18 : ∀ (l0 : Nat) (l1 : Nat) (l2 : Nat) (l3 : Int32) (M : mM) (sz : Nat) (sl : Nat), z0 ≤ sz → s0 ≤ sl → r18 l0 l1 l2 l3 M sz sl = some ((1 : Int32), M0, Z0, S0) → WW x (sz, sz - z0, sl - s0) M 18 [(0, .ref l0), (1, .ref l1), (2, .ref l2), (3, .int l3)] []) {l0 : Nat} {l1 : Nat} {l2 : Nat} {l3 : Int32} {sk0 : Nat} {sk1 : Int32} {sk2 : Int32} {sk3 : Int32} {M : mM} {sz : Nat} {sl : Nat} (hz0 : z0 ≤ sz) (hs0 : s0 ≤ sl) (h : B_L_law_705 G F r18 l0 l1 l2 l3 sk0 sk1 sk2 sk3 M sz sl = some ((1 : Int32), M0, Z0, S0)) : WW x (sz, sz - z0, sl - s0) M 705 [(0, .ref l0), (1, .ref l1), (2, .ref l2), (3, .int l3)] [.int sk3, .int sk2, .int sk1, .ref sk0] := by
  unfold B_L_law_705 at h
  obtain ⟨_, f705, h⟩ := bO_some h
  obtain ⟨v705, M705, e705, h⟩ := bP_some h
  obtain ⟨v713, e713, h⟩ := bO_some h
  obtain ⟨v718, e718, h⟩ := bO_some h
  obtain ⟨v723, e723, h⟩ := bO_some h
  have q := mB_L_law_724 _ hm18 h
  refine ww_callVIz 705 X (sz := sz) (sl := sl) (z0 := z0) (s0 := s0) dL_law_705 mY_X11_block mL_L_85 (rcv_spec f705) ⟨_, _, rfl⟩ (by decide) (As := [.int sk1, .int sk2, .int sk3]) (rest := []) rfl rfl ⟨Nat.le_of_ble_eq_true rfl, Nat.le_of_ble_eq_true rfl⟩ (by show _ ≤ 600000; omega) (by show _ ≤ 7302250; omega) (Nat.le_of_ble_eq_true rfl) (fun l D A => c_X11_block l D A e705) ?_
  refine ww_aload_n 708 X dL_law_708 2 rfl rfl ?_
  refine ww_aload_n 709 X dL_law_709 0 rfl rfl ?_
  refine ww_iload_n 710 X dL_law_710 3 rfl rfl ?_
  refine ww_iconst 711 X (v := (1 : Int32)) dL_law_711 (by decide) ?_
  refine ww_iadd 712 X dL_law_712 ?_
  refine ww_iald 713 X dL_law_713 e713 ?_
  refine ww_aload_n 714 X dL_law_714 0 rfl rfl ?_
  refine ww_iload_n 715 X dL_law_715 3 rfl rfl ?_
  refine ww_iconst 716 X (v := (2 : Int32)) dL_law_716 (by decide) ?_
  refine ww_iadd 717 X dL_law_717 ?_
  refine ww_iald 718 X dL_law_718 e718 ?_
  refine ww_aload_n 719 X dL_law_719 0 rfl rfl ?_
  refine ww_iload_n 720 X dL_law_720 3 rfl rfl ?_
  refine ww_iconst 721 X (v := (3 : Int32)) dL_law_721 (by decide) ?_
  refine ww_iadd 722 X dL_law_722 ?_
  refine ww_iald 723 X dL_law_723 e723 ?_
  exact (wB_L_law_724 X hQ hZm hSm _ hm18 hr18 (by omega) (by omega) h)
theorem mB_L_law_697 {G : mG} {F : Nat} {M0 : mM} {Z0 S0 : Nat} (r18 : Nat → Nat → Nat → Int32 → mM → Nat → Nat → Option (Int32 × mM × Nat × Nat)) (hm18 : ∀ (l0 : Nat) (l1 : Nat) (l2 : Nat) (l3 : Int32) (M : mM) (sz : Nat) (sl : Nat), r18 l0 l1 l2 l3 M sz sl = some ((1 : Int32), M0, Z0, S0) → sz ≤ Z0 ∧ sl ≤ S0) {l0 : Nat} {l1 : Nat} {l2 : Nat} {l3 : Int32} {sk0 : Nat} {sk1 : Int32} {sk2 : Int32} {sk3 : Int32} {M : mM} {sz : Nat} {sl : Nat} (h : B_L_law_697 G F r18 l0 l1 l2 l3 sk0 sk1 sk2 sk3 M sz sl = some ((1 : Int32), M0, Z0, S0)) : sz ≤ Z0 ∧ sl ≤ S0 := by
  unfold B_L_law_697 at h
  by_cases q : sk3 = 0
  · replace h := (if_pos q).symm.trans h
    have q := mB_L_law_705 _ hm18 h
    omega
  · replace h := (if_neg q).symm.trans h
    have q := mB_L_law_705 _ hm18 h
    omega
set_option maxHeartbeats 4000000 in
set_option maxRecDepth 100000 in
theorem wB_L_law_697 {G : mG} {F : Nat} {x : mXT} {z0 s0 : Nat} {M0 : mM} {Z0 S0 : Nat} (X : mCX G RL cL_law 4 (some .boolean) "law" room_1 x) (hQ : mQW x) (hZm : Z0 - z0 ≤ 600000) (hSm : S0 - s0 ≤ 7302250) (r18 : Nat → Nat → Nat → Int32 → mM → Nat → Nat → Option (Int32 × mM × Nat × Nat)) (hm18 : ∀ (l0 : Nat) (l1 : Nat) (l2 : Nat) (l3 : Int32) (M : mM) (sz : Nat) (sl : Nat), r18 l0 l1 l2 l3 M sz sl = some ((1 : Int32), M0, Z0, S0) → sz ≤ Z0 ∧ sl ≤ S0) (hr18 : ∀ (l0 : Nat) (l1 : Nat) (l2 : Nat) (l3 : Int32) (M : mM) (sz : Nat) (sl : Nat), z0 ≤ sz → s0 ≤ sl → r18 l0 l1 l2 l3 M sz sl = some ((1 : Int32), M0, Z0, S0) → WW x (sz, sz - z0, sl - s0) M 18 [(0, .ref l0), (1, .ref l1), (2, .ref l2), (3, .int l3)] []) {l0 : Nat} {l1 : Nat} {l2 : Nat} {l3 : Int32} {sk0 : Nat} {sk1 : Int32} {sk2 : Int32} {sk3 : Int32} {M : mM} {sz : Nat} {sl : Nat} (hz0 : z0 ≤ sz) (hs0 : s0 ≤ sl) (h : B_L_law_697 G F r18 l0 l1 l2 l3 sk0 sk1 sk2 sk3 M sz sl = some ((1 : Int32), M0, Z0, S0)) : WW x (sz, sz - z0, sl - s0) M 697 [(0, .ref l0), (1, .ref l1), (2, .ref l2), (3, .int l3)] [.int sk3, .int sk2, .int sk1, .ref sk0] := by
  unfold B_L_law_697 at h
  refine ww_if_eq 697 704 X dL_law_697 (by decide) (fun q => ?_) (fun q => ?_)
  · replace h := (if_pos q).symm.trans h
    have q := mB_L_law_705 _ hm18 h
    refine ww_iconst 704 X (v := (0 : Int32)) dL_law_704 (by decide) ?_
    exact (wB_L_law_705 X hQ hZm hSm _ hm18 hr18 (by omega) (by omega) h)
  · replace h := (if_neg q).symm.trans h
    have q := mB_L_law_705 _ hm18 h
    refine ww_iconst 700 X (v := (1 : Int32)) dL_law_700 (by decide) ?_
    refine ww_goto 701 705 X dL_law_701 (by decide) ?_
    exact (wB_L_law_705 X hQ hZm hSm _ hm18 hr18 (by omega) (by omega) h)
theorem mB_L_law_676 {G : mG} {F : Nat} {M0 : mM} {Z0 S0 : Nat} (r18 : Nat → Nat → Nat → Int32 → mM → Nat → Nat → Option (Int32 × mM × Nat × Nat)) (hm18 : ∀ (l0 : Nat) (l1 : Nat) (l2 : Nat) (l3 : Int32) (M : mM) (sz : Nat) (sl : Nat), r18 l0 l1 l2 l3 M sz sl = some ((1 : Int32), M0, Z0, S0) → sz ≤ Z0 ∧ sl ≤ S0) {l0 : Nat} {l1 : Nat} {l2 : Nat} {l3 : Int32} {sk0 : Int32} {sk1 : Int32} {M : mM} {sz : Nat} {sl : Nat} (h : B_L_law_676 G F r18 l0 l1 l2 l3 sk0 sk1 M sz sl = some ((1 : Int32), M0, Z0, S0)) : sz ≤ Z0 ∧ sl ≤ S0 := by
  unfold B_L_law_676 at h
  by_cases q : sk0 = sk1
  · replace h := (if_pos q).symm.trans h
    have q := hm18 _ _ _ _ _ _ _ h
    omega
  · replace h := (if_neg q).symm.trans h
    have q := retZA_p h
    omega
set_option maxHeartbeats 4000000 in
set_option maxRecDepth 100000 in
theorem wB_L_law_676 {G : mG} {F : Nat} {x : mXT} {z0 s0 : Nat} {M0 : mM} {Z0 S0 : Nat} (X : mCX G RL cL_law 4 (some .boolean) "law" room_1 x) (hQ : mQW x) (hZm : Z0 - z0 ≤ 600000) (hSm : S0 - s0 ≤ 7302250) (r18 : Nat → Nat → Nat → Int32 → mM → Nat → Nat → Option (Int32 × mM × Nat × Nat)) (hm18 : ∀ (l0 : Nat) (l1 : Nat) (l2 : Nat) (l3 : Int32) (M : mM) (sz : Nat) (sl : Nat), r18 l0 l1 l2 l3 M sz sl = some ((1 : Int32), M0, Z0, S0) → sz ≤ Z0 ∧ sl ≤ S0) (hr18 : ∀ (l0 : Nat) (l1 : Nat) (l2 : Nat) (l3 : Int32) (M : mM) (sz : Nat) (sl : Nat), z0 ≤ sz → s0 ≤ sl → r18 l0 l1 l2 l3 M sz sl = some ((1 : Int32), M0, Z0, S0) → WW x (sz, sz - z0, sl - s0) M 18 [(0, .ref l0), (1, .ref l1), (2, .ref l2), (3, .int l3)] []) {l0 : Nat} {l1 : Nat} {l2 : Nat} {l3 : Int32} {sk0 : Int32} {sk1 : Int32} {M : mM} {sz : Nat} {sl : Nat} (hz0 : z0 ≤ sz) (hs0 : s0 ≤ sl) (h : B_L_law_676 G F r18 l0 l1 l2 l3 sk0 sk1 M sz sl = some ((1 : Int32), M0, Z0, S0)) : WW x (sz, sz - z0, sl - s0) M 676 [(0, .ref l0), (1, .ref l1), (2, .ref l2), (3, .int l3)] [.int sk1, .int sk0] := by
  unfold B_L_law_676 at h
  refine ww_icmp_eq 676 1369 X dL_law_676 (by decide) (fun q => ?_) (fun q => ?_)
  · replace h := (if_pos q).symm.trans h
    have q := hm18 _ _ _ _ _ _ _ h
    refine ww_iinc 1369 X dL_law_1369 (lv' := [(0, .ref l0), (1, .ref l1), (2, .ref l2), (3, .int (l3 + 8))]) 3 rfl rfl (by decide) [1, 2, 3, 0] rfl ?_
    refine ww_goto 1372 18 X dL_law_1372 (by decide) ?_
    exact (hr18 _ _ _ _ _ _ _ (by omega) (by omega) h)
  · replace h := (if_neg q).symm.trans h
    have q := retZA_p h
    refine ww_iconst 679 X (v := (0 : Int32)) dL_law_679 (by decide) ?_
    exact ww_lawret 680 X hQ hZm hSm dL_law_680 h
theorem mB_L_law_633 {G : mG} {F : Nat} {M0 : mM} {Z0 S0 : Nat} (r18 : Nat → Nat → Nat → Int32 → mM → Nat → Nat → Option (Int32 × mM × Nat × Nat)) (hm18 : ∀ (l0 : Nat) (l1 : Nat) (l2 : Nat) (l3 : Int32) (M : mM) (sz : Nat) (sl : Nat), r18 l0 l1 l2 l3 M sz sl = some ((1 : Int32), M0, Z0, S0) → sz ≤ Z0 ∧ sl ≤ S0) {l0 : Nat} {l1 : Nat} {l2 : Nat} {l3 : Int32} {sk0 : Int32} {sk1 : Int32} {M : mM} {sz : Nat} {sl : Nat} (h : B_L_law_633 G F r18 l0 l1 l2 l3 sk0 sk1 M sz sl = some ((1 : Int32), M0, Z0, S0)) : sz ≤ Z0 ∧ sl ≤ S0 := by
  unfold B_L_law_633 at h
  by_cases q : sk0 = sk1
  · replace h := (if_pos q).symm.trans h
    have q := hm18 _ _ _ _ _ _ _ h
    omega
  · replace h := (if_neg q).symm.trans h
    have q := retZA_p h
    omega
set_option maxHeartbeats 4000000 in
set_option maxRecDepth 100000 in
theorem wB_L_law_633 {G : mG} {F : Nat} {x : mXT} {z0 s0 : Nat} {M0 : mM} {Z0 S0 : Nat} (X : mCX G RL cL_law 4 (some .boolean) "law" room_1 x) (hQ : mQW x) (hZm : Z0 - z0 ≤ 600000) (hSm : S0 - s0 ≤ 7302250) (r18 : Nat → Nat → Nat → Int32 → mM → Nat → Nat → Option (Int32 × mM × Nat × Nat)) (hm18 : ∀ (l0 : Nat) (l1 : Nat) (l2 : Nat) (l3 : Int32) (M : mM) (sz : Nat) (sl : Nat), r18 l0 l1 l2 l3 M sz sl = some ((1 : Int32), M0, Z0, S0) → sz ≤ Z0 ∧ sl ≤ S0) (hr18 : ∀ (l0 : Nat) (l1 : Nat) (l2 : Nat) (l3 : Int32) (M : mM) (sz : Nat) (sl : Nat), z0 ≤ sz → s0 ≤ sl → r18 l0 l1 l2 l3 M sz sl = some ((1 : Int32), M0, Z0, S0) → WW x (sz, sz - z0, sl - s0) M 18 [(0, .ref l0), (1, .ref l1), (2, .ref l2), (3, .int l3)] []) {l0 : Nat} {l1 : Nat} {l2 : Nat} {l3 : Int32} {sk0 : Int32} {sk1 : Int32} {M : mM} {sz : Nat} {sl : Nat} (hz0 : z0 ≤ sz) (hs0 : s0 ≤ sl) (h : B_L_law_633 G F r18 l0 l1 l2 l3 sk0 sk1 M sz sl = some ((1 : Int32), M0, Z0, S0)) : WW x (sz, sz - z0, sl - s0) M 633 [(0, .ref l0), (1, .ref l1), (2, .ref l2), (3, .int l3)] [.int sk1, .int sk0] := by
  unfold B_L_law_633 at h
  refine ww_icmp_eq 633 1369 X dL_law_633 (by decide) (fun q => ?_) (fun q => ?_)
  · replace h := (if_pos q).symm.trans h
    have q := hm18 _ _ _ _ _ _ _ h
    refine ww_iinc 1369 X dL_law_1369 (lv' := [(0, .ref l0), (1, .ref l1), (2, .ref l2), (3, .int (l3 + 8))]) 3 rfl rfl (by decide) [1, 2, 3, 0] rfl ?_
    refine ww_goto 1372 18 X dL_law_1372 (by decide) ?_
    exact (hr18 _ _ _ _ _ _ _ (by omega) (by omega) h)
  · replace h := (if_neg q).symm.trans h
    have q := retZA_p h
    refine ww_iconst 636 X (v := (0 : Int32)) dL_law_636 (by decide) ?_
    exact ww_lawret 637 X hQ hZm hSm dL_law_637 h
theorem mB_L_law_600 {G : mG} {F : Nat} {M0 : mM} {Z0 S0 : Nat} (r18 : Nat → Nat → Nat → Int32 → mM → Nat → Nat → Option (Int32 × mM × Nat × Nat)) (hm18 : ∀ (l0 : Nat) (l1 : Nat) (l2 : Nat) (l3 : Int32) (M : mM) (sz : Nat) (sl : Nat), r18 l0 l1 l2 l3 M sz sl = some ((1 : Int32), M0, Z0, S0) → sz ≤ Z0 ∧ sl ≤ S0) {l0 : Nat} {l1 : Nat} {l2 : Nat} {l3 : Int32} {sk0 : Int32} {sk1 : Int32} {M : mM} {sz : Nat} {sl : Nat} (h : B_L_law_600 G F r18 l0 l1 l2 l3 sk0 sk1 M sz sl = some ((1 : Int32), M0, Z0, S0)) : sz ≤ Z0 ∧ sl ≤ S0 := by
  unfold B_L_law_600 at h
  by_cases q : sk0 = sk1
  · replace h := (if_pos q).symm.trans h
    have q := hm18 _ _ _ _ _ _ _ h
    omega
  · replace h := (if_neg q).symm.trans h
    have q := retZA_p h
    omega
set_option maxHeartbeats 4000000 in
set_option maxRecDepth 100000 in
theorem wB_L_law_600 {G : mG} {F : Nat} {x : mXT} {z0 s0 : Nat} {M0 : mM} {Z0 S0 : Nat} (X : mCX G RL cL_law 4 (some .boolean) "law" room_1 x) (hQ : mQW x) (hZm : Z0 - z0 ≤ 600000) (hSm : S0 - s0 ≤ 7302250) (r18 : Nat → Nat → Nat → Int32 → mM → Nat → Nat → Option (Int32 × mM × Nat × Nat)) (hm18 : ∀ (l0 : Nat) (l1 : Nat) (l2 : Nat) (l3 : Int32) (M : mM) (sz : Nat) (sl : Nat), r18 l0 l1 l2 l3 M sz sl = some ((1 : Int32), M0, Z0, S0) → sz ≤ Z0 ∧ sl ≤ S0) (hr18 : ∀ (l0 : Nat) (l1 : Nat) (l2 : Nat) (l3 : Int32) (M : mM) (sz : Nat) (sl : Nat), z0 ≤ sz → s0 ≤ sl → r18 l0 l1 l2 l3 M sz sl = some ((1 : Int32), M0, Z0, S0) → WW x (sz, sz - z0, sl - s0) M 18 [(0, .ref l0), (1, .ref l1), (2, .ref l2), (3, .int l3)] []) {l0 : Nat} {l1 : Nat} {l2 : Nat} {l3 : Int32} {sk0 : Int32} {sk1 : Int32} {M : mM} {sz : Nat} {sl : Nat} (hz0 : z0 ≤ sz) (hs0 : s0 ≤ sl) (h : B_L_law_600 G F r18 l0 l1 l2 l3 sk0 sk1 M sz sl = some ((1 : Int32), M0, Z0, S0)) : WW x (sz, sz - z0, sl - s0) M 600 [(0, .ref l0), (1, .ref l1), (2, .ref l2), (3, .int l3)] [.int sk1, .int sk0] := by
  unfold B_L_law_600 at h
  refine ww_icmp_eq 600 1369 X dL_law_600 (by decide) (fun q => ?_) (fun q => ?_)
  · replace h := (if_pos q).symm.trans h
    have q := hm18 _ _ _ _ _ _ _ h
    refine ww_iinc 1369 X dL_law_1369 (lv' := [(0, .ref l0), (1, .ref l1), (2, .ref l2), (3, .int (l3 + 8))]) 3 rfl rfl (by decide) [1, 2, 3, 0] rfl ?_
    refine ww_goto 1372 18 X dL_law_1372 (by decide) ?_
    exact (hr18 _ _ _ _ _ _ _ (by omega) (by omega) h)
  · replace h := (if_neg q).symm.trans h
    have q := retZA_p h
    refine ww_iconst 603 X (v := (0 : Int32)) dL_law_603 (by decide) ?_
    exact ww_lawret 604 X hQ hZm hSm dL_law_604 h
theorem mB_L_law_577 {G : mG} {F : Nat} {M0 : mM} {Z0 S0 : Nat} (r18 : Nat → Nat → Nat → Int32 → mM → Nat → Nat → Option (Int32 × mM × Nat × Nat)) (hm18 : ∀ (l0 : Nat) (l1 : Nat) (l2 : Nat) (l3 : Int32) (M : mM) (sz : Nat) (sl : Nat), r18 l0 l1 l2 l3 M sz sl = some ((1 : Int32), M0, Z0, S0) → sz ≤ Z0 ∧ sl ≤ S0) {l0 : Nat} {l1 : Nat} {l2 : Nat} {l3 : Int32} {sk0 : Int32} {sk1 : Int32} {M : mM} {sz : Nat} {sl : Nat} (h : B_L_law_577 G F r18 l0 l1 l2 l3 sk0 sk1 M sz sl = some ((1 : Int32), M0, Z0, S0)) : sz ≤ Z0 ∧ sl ≤ S0 := by
  unfold B_L_law_577 at h
  by_cases q : sk0 = sk1
  · replace h := (if_pos q).symm.trans h
    have q := hm18 _ _ _ _ _ _ _ h
    omega
  · replace h := (if_neg q).symm.trans h
    have q := retZA_p h
    omega
set_option maxHeartbeats 4000000 in
set_option maxRecDepth 100000 in
theorem wB_L_law_577 {G : mG} {F : Nat} {x : mXT} {z0 s0 : Nat} {M0 : mM} {Z0 S0 : Nat} (X : mCX G RL cL_law 4 (some .boolean) "law" room_1 x) (hQ : mQW x) (hZm : Z0 - z0 ≤ 600000) (hSm : S0 - s0 ≤ 7302250) (r18 : Nat → Nat → Nat → Int32 → mM → Nat → Nat → Option (Int32 × mM × Nat × Nat)) (hm18 : ∀ (l0 : Nat) (l1 : Nat) (l2 : Nat) (l3 : Int32) (M : mM) (sz : Nat) (sl : Nat), r18 l0 l1 l2 l3 M sz sl = some ((1 : Int32), M0, Z0, S0) → sz ≤ Z0 ∧ sl ≤ S0) (hr18 : ∀ (l0 : Nat) (l1 : Nat) (l2 : Nat) (l3 : Int32) (M : mM) (sz : Nat) (sl : Nat), z0 ≤ sz → s0 ≤ sl → r18 l0 l1 l2 l3 M sz sl = some ((1 : Int32), M0, Z0, S0) → WW x (sz, sz - z0, sl - s0) M 18 [(0, .ref l0), (1, .ref l1), (2, .ref l2), (3, .int l3)] []) {l0 : Nat} {l1 : Nat} {l2 : Nat} {l3 : Int32} {sk0 : Int32} {sk1 : Int32} {M : mM} {sz : Nat} {sl : Nat} (hz0 : z0 ≤ sz) (hs0 : s0 ≤ sl) (h : B_L_law_577 G F r18 l0 l1 l2 l3 sk0 sk1 M sz sl = some ((1 : Int32), M0, Z0, S0)) : WW x (sz, sz - z0, sl - s0) M 577 [(0, .ref l0), (1, .ref l1), (2, .ref l2), (3, .int l3)] [.int sk1, .int sk0] := by
  unfold B_L_law_577 at h
  refine ww_icmp_eq 577 1369 X dL_law_577 (by decide) (fun q => ?_) (fun q => ?_)
  · replace h := (if_pos q).symm.trans h
    have q := hm18 _ _ _ _ _ _ _ h
    refine ww_iinc 1369 X dL_law_1369 (lv' := [(0, .ref l0), (1, .ref l1), (2, .ref l2), (3, .int (l3 + 8))]) 3 rfl rfl (by decide) [1, 2, 3, 0] rfl ?_
    refine ww_goto 1372 18 X dL_law_1372 (by decide) ?_
    exact (hr18 _ _ _ _ _ _ _ (by omega) (by omega) h)
  · replace h := (if_neg q).symm.trans h
    have q := retZA_p h
    refine ww_iconst 580 X (v := (0 : Int32)) dL_law_580 (by decide) ?_
    exact ww_lawret 581 X hQ hZm hSm dL_law_581 h
theorem mB_L_law_554 {G : mG} {F : Nat} {M0 : mM} {Z0 S0 : Nat} (r18 : Nat → Nat → Nat → Int32 → mM → Nat → Nat → Option (Int32 × mM × Nat × Nat)) (hm18 : ∀ (l0 : Nat) (l1 : Nat) (l2 : Nat) (l3 : Int32) (M : mM) (sz : Nat) (sl : Nat), r18 l0 l1 l2 l3 M sz sl = some ((1 : Int32), M0, Z0, S0) → sz ≤ Z0 ∧ sl ≤ S0) {l0 : Nat} {l1 : Nat} {l2 : Nat} {l3 : Int32} {sk0 : Int32} {sk1 : Int32} {M : mM} {sz : Nat} {sl : Nat} (h : B_L_law_554 G F r18 l0 l1 l2 l3 sk0 sk1 M sz sl = some ((1 : Int32), M0, Z0, S0)) : sz ≤ Z0 ∧ sl ≤ S0 := by
  unfold B_L_law_554 at h
  by_cases q : sk0 = sk1
  · replace h := (if_pos q).symm.trans h
    have q := hm18 _ _ _ _ _ _ _ h
    omega
  · replace h := (if_neg q).symm.trans h
    have q := retZA_p h
    omega
set_option maxHeartbeats 4000000 in
set_option maxRecDepth 100000 in
theorem wB_L_law_554 {G : mG} {F : Nat} {x : mXT} {z0 s0 : Nat} {M0 : mM} {Z0 S0 : Nat} (X : mCX G RL cL_law 4 (some .boolean) "law" room_1 x) (hQ : mQW x) (hZm : Z0 - z0 ≤ 600000) (hSm : S0 - s0 ≤ 7302250) (r18 : Nat → Nat → Nat → Int32 → mM → Nat → Nat → Option (Int32 × mM × Nat × Nat)) (hm18 : ∀ (l0 : Nat) (l1 : Nat) (l2 : Nat) (l3 : Int32) (M : mM) (sz : Nat) (sl : Nat), r18 l0 l1 l2 l3 M sz sl = some ((1 : Int32), M0, Z0, S0) → sz ≤ Z0 ∧ sl ≤ S0) (hr18 : ∀ (l0 : Nat) (l1 : Nat) (l2 : Nat) (l3 : Int32) (M : mM) (sz : Nat) (sl : Nat), z0 ≤ sz → s0 ≤ sl → r18 l0 l1 l2 l3 M sz sl = some ((1 : Int32), M0, Z0, S0) → WW x (sz, sz - z0, sl - s0) M 18 [(0, .ref l0), (1, .ref l1), (2, .ref l2), (3, .int l3)] []) {l0 : Nat} {l1 : Nat} {l2 : Nat} {l3 : Int32} {sk0 : Int32} {sk1 : Int32} {M : mM} {sz : Nat} {sl : Nat} (hz0 : z0 ≤ sz) (hs0 : s0 ≤ sl) (h : B_L_law_554 G F r18 l0 l1 l2 l3 sk0 sk1 M sz sl = some ((1 : Int32), M0, Z0, S0)) : WW x (sz, sz - z0, sl - s0) M 554 [(0, .ref l0), (1, .ref l1), (2, .ref l2), (3, .int l3)] [.int sk1, .int sk0] := by
  unfold B_L_law_554 at h
  refine ww_icmp_eq 554 1369 X dL_law_554 (by decide) (fun q => ?_) (fun q => ?_)
  · replace h := (if_pos q).symm.trans h
    have q := hm18 _ _ _ _ _ _ _ h
    refine ww_iinc 1369 X dL_law_1369 (lv' := [(0, .ref l0), (1, .ref l1), (2, .ref l2), (3, .int (l3 + 8))]) 3 rfl rfl (by decide) [1, 2, 3, 0] rfl ?_
    refine ww_goto 1372 18 X dL_law_1372 (by decide) ?_
    exact (hr18 _ _ _ _ _ _ _ (by omega) (by omega) h)
  · replace h := (if_neg q).symm.trans h
    have q := retZA_p h
    refine ww_iconst 557 X (v := (0 : Int32)) dL_law_557 (by decide) ?_
    exact ww_lawret 558 X hQ hZm hSm dL_law_558 h
theorem mB_L_law_531 {G : mG} {F : Nat} {M0 : mM} {Z0 S0 : Nat} (r18 : Nat → Nat → Nat → Int32 → mM → Nat → Nat → Option (Int32 × mM × Nat × Nat)) (hm18 : ∀ (l0 : Nat) (l1 : Nat) (l2 : Nat) (l3 : Int32) (M : mM) (sz : Nat) (sl : Nat), r18 l0 l1 l2 l3 M sz sl = some ((1 : Int32), M0, Z0, S0) → sz ≤ Z0 ∧ sl ≤ S0) {l0 : Nat} {l1 : Nat} {l2 : Nat} {l3 : Int32} {sk0 : Int32} {sk1 : Int32} {M : mM} {sz : Nat} {sl : Nat} (h : B_L_law_531 G F r18 l0 l1 l2 l3 sk0 sk1 M sz sl = some ((1 : Int32), M0, Z0, S0)) : sz ≤ Z0 ∧ sl ≤ S0 := by
  unfold B_L_law_531 at h
  by_cases q : sk0 = sk1
  · replace h := (if_pos q).symm.trans h
    have q := hm18 _ _ _ _ _ _ _ h
    omega
  · replace h := (if_neg q).symm.trans h
    have q := retZA_p h
    omega
set_option maxHeartbeats 4000000 in
set_option maxRecDepth 100000 in
theorem wB_L_law_531 {G : mG} {F : Nat} {x : mXT} {z0 s0 : Nat} {M0 : mM} {Z0 S0 : Nat} (X : mCX G RL cL_law 4 (some .boolean) "law" room_1 x) (hQ : mQW x) (hZm : Z0 - z0 ≤ 600000) (hSm : S0 - s0 ≤ 7302250) (r18 : Nat → Nat → Nat → Int32 → mM → Nat → Nat → Option (Int32 × mM × Nat × Nat)) (hm18 : ∀ (l0 : Nat) (l1 : Nat) (l2 : Nat) (l3 : Int32) (M : mM) (sz : Nat) (sl : Nat), r18 l0 l1 l2 l3 M sz sl = some ((1 : Int32), M0, Z0, S0) → sz ≤ Z0 ∧ sl ≤ S0) (hr18 : ∀ (l0 : Nat) (l1 : Nat) (l2 : Nat) (l3 : Int32) (M : mM) (sz : Nat) (sl : Nat), z0 ≤ sz → s0 ≤ sl → r18 l0 l1 l2 l3 M sz sl = some ((1 : Int32), M0, Z0, S0) → WW x (sz, sz - z0, sl - s0) M 18 [(0, .ref l0), (1, .ref l1), (2, .ref l2), (3, .int l3)] []) {l0 : Nat} {l1 : Nat} {l2 : Nat} {l3 : Int32} {sk0 : Int32} {sk1 : Int32} {M : mM} {sz : Nat} {sl : Nat} (hz0 : z0 ≤ sz) (hs0 : s0 ≤ sl) (h : B_L_law_531 G F r18 l0 l1 l2 l3 sk0 sk1 M sz sl = some ((1 : Int32), M0, Z0, S0)) : WW x (sz, sz - z0, sl - s0) M 531 [(0, .ref l0), (1, .ref l1), (2, .ref l2), (3, .int l3)] [.int sk1, .int sk0] := by
  unfold B_L_law_531 at h
  refine ww_icmp_eq 531 1369 X dL_law_531 (by decide) (fun q => ?_) (fun q => ?_)
  · replace h := (if_pos q).symm.trans h
    have q := hm18 _ _ _ _ _ _ _ h
    refine ww_iinc 1369 X dL_law_1369 (lv' := [(0, .ref l0), (1, .ref l1), (2, .ref l2), (3, .int (l3 + 8))]) 3 rfl rfl (by decide) [1, 2, 3, 0] rfl ?_
    refine ww_goto 1372 18 X dL_law_1372 (by decide) ?_
    exact (hr18 _ _ _ _ _ _ _ (by omega) (by omega) h)
  · replace h := (if_neg q).symm.trans h
    have q := retZA_p h
    refine ww_iconst 534 X (v := (0 : Int32)) dL_law_534 (by decide) ?_
    exact ww_lawret 535 X hQ hZm hSm dL_law_535 h
theorem mB_L_law_498 {G : mG} {F : Nat} {M0 : mM} {Z0 S0 : Nat} (r18 : Nat → Nat → Nat → Int32 → mM → Nat → Nat → Option (Int32 × mM × Nat × Nat)) (hm18 : ∀ (l0 : Nat) (l1 : Nat) (l2 : Nat) (l3 : Int32) (M : mM) (sz : Nat) (sl : Nat), r18 l0 l1 l2 l3 M sz sl = some ((1 : Int32), M0, Z0, S0) → sz ≤ Z0 ∧ sl ≤ S0) {l0 : Nat} {l1 : Nat} {l2 : Nat} {l3 : Int32} {sk0 : Int32} {sk1 : Int32} {M : mM} {sz : Nat} {sl : Nat} (h : B_L_law_498 G F r18 l0 l1 l2 l3 sk0 sk1 M sz sl = some ((1 : Int32), M0, Z0, S0)) : sz ≤ Z0 ∧ sl ≤ S0 := by
  unfold B_L_law_498 at h
  by_cases q : sk0 = sk1
  · replace h := (if_pos q).symm.trans h
    have q := hm18 _ _ _ _ _ _ _ h
    omega
  · replace h := (if_neg q).symm.trans h
    have q := retZA_p h
    omega
set_option maxHeartbeats 4000000 in
set_option maxRecDepth 100000 in
theorem wB_L_law_498 {G : mG} {F : Nat} {x : mXT} {z0 s0 : Nat} {M0 : mM} {Z0 S0 : Nat} (X : mCX G RL cL_law 4 (some .boolean) "law" room_1 x) (hQ : mQW x) (hZm : Z0 - z0 ≤ 600000) (hSm : S0 - s0 ≤ 7302250) (r18 : Nat → Nat → Nat → Int32 → mM → Nat → Nat → Option (Int32 × mM × Nat × Nat)) (hm18 : ∀ (l0 : Nat) (l1 : Nat) (l2 : Nat) (l3 : Int32) (M : mM) (sz : Nat) (sl : Nat), r18 l0 l1 l2 l3 M sz sl = some ((1 : Int32), M0, Z0, S0) → sz ≤ Z0 ∧ sl ≤ S0) (hr18 : ∀ (l0 : Nat) (l1 : Nat) (l2 : Nat) (l3 : Int32) (M : mM) (sz : Nat) (sl : Nat), z0 ≤ sz → s0 ≤ sl → r18 l0 l1 l2 l3 M sz sl = some ((1 : Int32), M0, Z0, S0) → WW x (sz, sz - z0, sl - s0) M 18 [(0, .ref l0), (1, .ref l1), (2, .ref l2), (3, .int l3)] []) {l0 : Nat} {l1 : Nat} {l2 : Nat} {l3 : Int32} {sk0 : Int32} {sk1 : Int32} {M : mM} {sz : Nat} {sl : Nat} (hz0 : z0 ≤ sz) (hs0 : s0 ≤ sl) (h : B_L_law_498 G F r18 l0 l1 l2 l3 sk0 sk1 M sz sl = some ((1 : Int32), M0, Z0, S0)) : WW x (sz, sz - z0, sl - s0) M 498 [(0, .ref l0), (1, .ref l1), (2, .ref l2), (3, .int l3)] [.int sk1, .int sk0] := by
  unfold B_L_law_498 at h
  refine ww_icmp_eq 498 1369 X dL_law_498 (by decide) (fun q => ?_) (fun q => ?_)
  · replace h := (if_pos q).symm.trans h
    have q := hm18 _ _ _ _ _ _ _ h
    refine ww_iinc 1369 X dL_law_1369 (lv' := [(0, .ref l0), (1, .ref l1), (2, .ref l2), (3, .int (l3 + 8))]) 3 rfl rfl (by decide) [1, 2, 3, 0] rfl ?_
    refine ww_goto 1372 18 X dL_law_1372 (by decide) ?_
    exact (hr18 _ _ _ _ _ _ _ (by omega) (by omega) h)
  · replace h := (if_neg q).symm.trans h
    have q := retZA_p h
    refine ww_iconst 501 X (v := (0 : Int32)) dL_law_501 (by decide) ?_
    exact ww_lawret 502 X hQ hZm hSm dL_law_502 h
theorem mB_L_law_475 {G : mG} {F : Nat} {M0 : mM} {Z0 S0 : Nat} (r18 : Nat → Nat → Nat → Int32 → mM → Nat → Nat → Option (Int32 × mM × Nat × Nat)) (hm18 : ∀ (l0 : Nat) (l1 : Nat) (l2 : Nat) (l3 : Int32) (M : mM) (sz : Nat) (sl : Nat), r18 l0 l1 l2 l3 M sz sl = some ((1 : Int32), M0, Z0, S0) → sz ≤ Z0 ∧ sl ≤ S0) {l0 : Nat} {l1 : Nat} {l2 : Nat} {l3 : Int32} {sk0 : Int32} {sk1 : Int32} {M : mM} {sz : Nat} {sl : Nat} (h : B_L_law_475 G F r18 l0 l1 l2 l3 sk0 sk1 M sz sl = some ((1 : Int32), M0, Z0, S0)) : sz ≤ Z0 ∧ sl ≤ S0 := by
  unfold B_L_law_475 at h
  by_cases q : sk0 = sk1
  · replace h := (if_pos q).symm.trans h
    have q := hm18 _ _ _ _ _ _ _ h
    omega
  · replace h := (if_neg q).symm.trans h
    have q := retZA_p h
    omega
set_option maxHeartbeats 4000000 in
set_option maxRecDepth 100000 in
theorem wB_L_law_475 {G : mG} {F : Nat} {x : mXT} {z0 s0 : Nat} {M0 : mM} {Z0 S0 : Nat} (X : mCX G RL cL_law 4 (some .boolean) "law" room_1 x) (hQ : mQW x) (hZm : Z0 - z0 ≤ 600000) (hSm : S0 - s0 ≤ 7302250) (r18 : Nat → Nat → Nat → Int32 → mM → Nat → Nat → Option (Int32 × mM × Nat × Nat)) (hm18 : ∀ (l0 : Nat) (l1 : Nat) (l2 : Nat) (l3 : Int32) (M : mM) (sz : Nat) (sl : Nat), r18 l0 l1 l2 l3 M sz sl = some ((1 : Int32), M0, Z0, S0) → sz ≤ Z0 ∧ sl ≤ S0) (hr18 : ∀ (l0 : Nat) (l1 : Nat) (l2 : Nat) (l3 : Int32) (M : mM) (sz : Nat) (sl : Nat), z0 ≤ sz → s0 ≤ sl → r18 l0 l1 l2 l3 M sz sl = some ((1 : Int32), M0, Z0, S0) → WW x (sz, sz - z0, sl - s0) M 18 [(0, .ref l0), (1, .ref l1), (2, .ref l2), (3, .int l3)] []) {l0 : Nat} {l1 : Nat} {l2 : Nat} {l3 : Int32} {sk0 : Int32} {sk1 : Int32} {M : mM} {sz : Nat} {sl : Nat} (hz0 : z0 ≤ sz) (hs0 : s0 ≤ sl) (h : B_L_law_475 G F r18 l0 l1 l2 l3 sk0 sk1 M sz sl = some ((1 : Int32), M0, Z0, S0)) : WW x (sz, sz - z0, sl - s0) M 475 [(0, .ref l0), (1, .ref l1), (2, .ref l2), (3, .int l3)] [.int sk1, .int sk0] := by
  unfold B_L_law_475 at h
  refine ww_icmp_eq 475 1369 X dL_law_475 (by decide) (fun q => ?_) (fun q => ?_)
  · replace h := (if_pos q).symm.trans h
    have q := hm18 _ _ _ _ _ _ _ h
    refine ww_iinc 1369 X dL_law_1369 (lv' := [(0, .ref l0), (1, .ref l1), (2, .ref l2), (3, .int (l3 + 8))]) 3 rfl rfl (by decide) [1, 2, 3, 0] rfl ?_
    refine ww_goto 1372 18 X dL_law_1372 (by decide) ?_
    exact (hr18 _ _ _ _ _ _ _ (by omega) (by omega) h)
  · replace h := (if_neg q).symm.trans h
    have q := retZA_p h
    refine ww_iconst 478 X (v := (0 : Int32)) dL_law_478 (by decide) ?_
    exact ww_lawret 479 X hQ hZm hSm dL_law_479 h
theorem mB_L_law_452 {G : mG} {F : Nat} {M0 : mM} {Z0 S0 : Nat} (r18 : Nat → Nat → Nat → Int32 → mM → Nat → Nat → Option (Int32 × mM × Nat × Nat)) (hm18 : ∀ (l0 : Nat) (l1 : Nat) (l2 : Nat) (l3 : Int32) (M : mM) (sz : Nat) (sl : Nat), r18 l0 l1 l2 l3 M sz sl = some ((1 : Int32), M0, Z0, S0) → sz ≤ Z0 ∧ sl ≤ S0) {l0 : Nat} {l1 : Nat} {l2 : Nat} {l3 : Int32} {sk0 : Int32} {sk1 : Int32} {M : mM} {sz : Nat} {sl : Nat} (h : B_L_law_452 G F r18 l0 l1 l2 l3 sk0 sk1 M sz sl = some ((1 : Int32), M0, Z0, S0)) : sz ≤ Z0 ∧ sl ≤ S0 := by
  unfold B_L_law_452 at h
  by_cases q : sk0 = sk1
  · replace h := (if_pos q).symm.trans h
    have q := hm18 _ _ _ _ _ _ _ h
    omega
  · replace h := (if_neg q).symm.trans h
    have q := retZA_p h
    omega
set_option maxHeartbeats 4000000 in
set_option maxRecDepth 100000 in
theorem wB_L_law_452 {G : mG} {F : Nat} {x : mXT} {z0 s0 : Nat} {M0 : mM} {Z0 S0 : Nat} (X : mCX G RL cL_law 4 (some .boolean) "law" room_1 x) (hQ : mQW x) (hZm : Z0 - z0 ≤ 600000) (hSm : S0 - s0 ≤ 7302250) (r18 : Nat → Nat → Nat → Int32 → mM → Nat → Nat → Option (Int32 × mM × Nat × Nat)) (hm18 : ∀ (l0 : Nat) (l1 : Nat) (l2 : Nat) (l3 : Int32) (M : mM) (sz : Nat) (sl : Nat), r18 l0 l1 l2 l3 M sz sl = some ((1 : Int32), M0, Z0, S0) → sz ≤ Z0 ∧ sl ≤ S0) (hr18 : ∀ (l0 : Nat) (l1 : Nat) (l2 : Nat) (l3 : Int32) (M : mM) (sz : Nat) (sl : Nat), z0 ≤ sz → s0 ≤ sl → r18 l0 l1 l2 l3 M sz sl = some ((1 : Int32), M0, Z0, S0) → WW x (sz, sz - z0, sl - s0) M 18 [(0, .ref l0), (1, .ref l1), (2, .ref l2), (3, .int l3)] []) {l0 : Nat} {l1 : Nat} {l2 : Nat} {l3 : Int32} {sk0 : Int32} {sk1 : Int32} {M : mM} {sz : Nat} {sl : Nat} (hz0 : z0 ≤ sz) (hs0 : s0 ≤ sl) (h : B_L_law_452 G F r18 l0 l1 l2 l3 sk0 sk1 M sz sl = some ((1 : Int32), M0, Z0, S0)) : WW x (sz, sz - z0, sl - s0) M 452 [(0, .ref l0), (1, .ref l1), (2, .ref l2), (3, .int l3)] [.int sk1, .int sk0] := by
  unfold B_L_law_452 at h
  refine ww_icmp_eq 452 1369 X dL_law_452 (by decide) (fun q => ?_) (fun q => ?_)
  · replace h := (if_pos q).symm.trans h
    have q := hm18 _ _ _ _ _ _ _ h
    refine ww_iinc 1369 X dL_law_1369 (lv' := [(0, .ref l0), (1, .ref l1), (2, .ref l2), (3, .int (l3 + 8))]) 3 rfl rfl (by decide) [1, 2, 3, 0] rfl ?_
    refine ww_goto 1372 18 X dL_law_1372 (by decide) ?_
    exact (hr18 _ _ _ _ _ _ _ (by omega) (by omega) h)
  · replace h := (if_neg q).symm.trans h
    have q := retZA_p h
    refine ww_iconst 455 X (v := (0 : Int32)) dL_law_455 (by decide) ?_
    exact ww_lawret 456 X hQ hZm hSm dL_law_456 h
theorem mB_L_law_419 {G : mG} {F : Nat} {M0 : mM} {Z0 S0 : Nat} (r18 : Nat → Nat → Nat → Int32 → mM → Nat → Nat → Option (Int32 × mM × Nat × Nat)) (hm18 : ∀ (l0 : Nat) (l1 : Nat) (l2 : Nat) (l3 : Int32) (M : mM) (sz : Nat) (sl : Nat), r18 l0 l1 l2 l3 M sz sl = some ((1 : Int32), M0, Z0, S0) → sz ≤ Z0 ∧ sl ≤ S0) {l0 : Nat} {l1 : Nat} {l2 : Nat} {l3 : Int32} {sk0 : Int32} {sk1 : Int32} {M : mM} {sz : Nat} {sl : Nat} (h : B_L_law_419 G F r18 l0 l1 l2 l3 sk0 sk1 M sz sl = some ((1 : Int32), M0, Z0, S0)) : sz ≤ Z0 ∧ sl ≤ S0 := by
  unfold B_L_law_419 at h
  by_cases q : sk0 = sk1
  · replace h := (if_pos q).symm.trans h
    have q := hm18 _ _ _ _ _ _ _ h
    omega
  · replace h := (if_neg q).symm.trans h
    have q := retZA_p h
    omega
set_option maxHeartbeats 4000000 in
set_option maxRecDepth 100000 in
theorem wB_L_law_419 {G : mG} {F : Nat} {x : mXT} {z0 s0 : Nat} {M0 : mM} {Z0 S0 : Nat} (X : mCX G RL cL_law 4 (some .boolean) "law" room_1 x) (hQ : mQW x) (hZm : Z0 - z0 ≤ 600000) (hSm : S0 - s0 ≤ 7302250) (r18 : Nat → Nat → Nat → Int32 → mM → Nat → Nat → Option (Int32 × mM × Nat × Nat)) (hm18 : ∀ (l0 : Nat) (l1 : Nat) (l2 : Nat) (l3 : Int32) (M : mM) (sz : Nat) (sl : Nat), r18 l0 l1 l2 l3 M sz sl = some ((1 : Int32), M0, Z0, S0) → sz ≤ Z0 ∧ sl ≤ S0) (hr18 : ∀ (l0 : Nat) (l1 : Nat) (l2 : Nat) (l3 : Int32) (M : mM) (sz : Nat) (sl : Nat), z0 ≤ sz → s0 ≤ sl → r18 l0 l1 l2 l3 M sz sl = some ((1 : Int32), M0, Z0, S0) → WW x (sz, sz - z0, sl - s0) M 18 [(0, .ref l0), (1, .ref l1), (2, .ref l2), (3, .int l3)] []) {l0 : Nat} {l1 : Nat} {l2 : Nat} {l3 : Int32} {sk0 : Int32} {sk1 : Int32} {M : mM} {sz : Nat} {sl : Nat} (hz0 : z0 ≤ sz) (hs0 : s0 ≤ sl) (h : B_L_law_419 G F r18 l0 l1 l2 l3 sk0 sk1 M sz sl = some ((1 : Int32), M0, Z0, S0)) : WW x (sz, sz - z0, sl - s0) M 419 [(0, .ref l0), (1, .ref l1), (2, .ref l2), (3, .int l3)] [.int sk1, .int sk0] := by
  unfold B_L_law_419 at h
  refine ww_icmp_eq 419 1369 X dL_law_419 (by decide) (fun q => ?_) (fun q => ?_)
  · replace h := (if_pos q).symm.trans h
    have q := hm18 _ _ _ _ _ _ _ h
    refine ww_iinc 1369 X dL_law_1369 (lv' := [(0, .ref l0), (1, .ref l1), (2, .ref l2), (3, .int (l3 + 8))]) 3 rfl rfl (by decide) [1, 2, 3, 0] rfl ?_
    refine ww_goto 1372 18 X dL_law_1372 (by decide) ?_
    exact (hr18 _ _ _ _ _ _ _ (by omega) (by omega) h)
  · replace h := (if_neg q).symm.trans h
    have q := retZA_p h
    refine ww_iconst 422 X (v := (0 : Int32)) dL_law_422 (by decide) ?_
    exact ww_lawret 423 X hQ hZm hSm dL_law_423 h
theorem mB_L_law_396 {G : mG} {F : Nat} {M0 : mM} {Z0 S0 : Nat} (r18 : Nat → Nat → Nat → Int32 → mM → Nat → Nat → Option (Int32 × mM × Nat × Nat)) (hm18 : ∀ (l0 : Nat) (l1 : Nat) (l2 : Nat) (l3 : Int32) (M : mM) (sz : Nat) (sl : Nat), r18 l0 l1 l2 l3 M sz sl = some ((1 : Int32), M0, Z0, S0) → sz ≤ Z0 ∧ sl ≤ S0) {l0 : Nat} {l1 : Nat} {l2 : Nat} {l3 : Int32} {sk0 : Int32} {sk1 : Int32} {M : mM} {sz : Nat} {sl : Nat} (h : B_L_law_396 G F r18 l0 l1 l2 l3 sk0 sk1 M sz sl = some ((1 : Int32), M0, Z0, S0)) : sz ≤ Z0 ∧ sl ≤ S0 := by
  unfold B_L_law_396 at h
  by_cases q : sk0 = sk1
  · replace h := (if_pos q).symm.trans h
    have q := hm18 _ _ _ _ _ _ _ h
    omega
  · replace h := (if_neg q).symm.trans h
    have q := retZA_p h
    omega
set_option maxHeartbeats 4000000 in
set_option maxRecDepth 100000 in
theorem wB_L_law_396 {G : mG} {F : Nat} {x : mXT} {z0 s0 : Nat} {M0 : mM} {Z0 S0 : Nat} (X : mCX G RL cL_law 4 (some .boolean) "law" room_1 x) (hQ : mQW x) (hZm : Z0 - z0 ≤ 600000) (hSm : S0 - s0 ≤ 7302250) (r18 : Nat → Nat → Nat → Int32 → mM → Nat → Nat → Option (Int32 × mM × Nat × Nat)) (hm18 : ∀ (l0 : Nat) (l1 : Nat) (l2 : Nat) (l3 : Int32) (M : mM) (sz : Nat) (sl : Nat), r18 l0 l1 l2 l3 M sz sl = some ((1 : Int32), M0, Z0, S0) → sz ≤ Z0 ∧ sl ≤ S0) (hr18 : ∀ (l0 : Nat) (l1 : Nat) (l2 : Nat) (l3 : Int32) (M : mM) (sz : Nat) (sl : Nat), z0 ≤ sz → s0 ≤ sl → r18 l0 l1 l2 l3 M sz sl = some ((1 : Int32), M0, Z0, S0) → WW x (sz, sz - z0, sl - s0) M 18 [(0, .ref l0), (1, .ref l1), (2, .ref l2), (3, .int l3)] []) {l0 : Nat} {l1 : Nat} {l2 : Nat} {l3 : Int32} {sk0 : Int32} {sk1 : Int32} {M : mM} {sz : Nat} {sl : Nat} (hz0 : z0 ≤ sz) (hs0 : s0 ≤ sl) (h : B_L_law_396 G F r18 l0 l1 l2 l3 sk0 sk1 M sz sl = some ((1 : Int32), M0, Z0, S0)) : WW x (sz, sz - z0, sl - s0) M 396 [(0, .ref l0), (1, .ref l1), (2, .ref l2), (3, .int l3)] [.int sk1, .int sk0] := by
  unfold B_L_law_396 at h
  refine ww_icmp_eq 396 1369 X dL_law_396 (by decide) (fun q => ?_) (fun q => ?_)
  · replace h := (if_pos q).symm.trans h
    have q := hm18 _ _ _ _ _ _ _ h
    refine ww_iinc 1369 X dL_law_1369 (lv' := [(0, .ref l0), (1, .ref l1), (2, .ref l2), (3, .int (l3 + 8))]) 3 rfl rfl (by decide) [1, 2, 3, 0] rfl ?_
    refine ww_goto 1372 18 X dL_law_1372 (by decide) ?_
    exact (hr18 _ _ _ _ _ _ _ (by omega) (by omega) h)
  · replace h := (if_neg q).symm.trans h
    have q := retZA_p h
    refine ww_iconst 399 X (v := (0 : Int32)) dL_law_399 (by decide) ?_
    exact ww_lawret 400 X hQ hZm hSm dL_law_400 h
theorem mB_L_law_373 {G : mG} {F : Nat} {M0 : mM} {Z0 S0 : Nat} (r18 : Nat → Nat → Nat → Int32 → mM → Nat → Nat → Option (Int32 × mM × Nat × Nat)) (hm18 : ∀ (l0 : Nat) (l1 : Nat) (l2 : Nat) (l3 : Int32) (M : mM) (sz : Nat) (sl : Nat), r18 l0 l1 l2 l3 M sz sl = some ((1 : Int32), M0, Z0, S0) → sz ≤ Z0 ∧ sl ≤ S0) {l0 : Nat} {l1 : Nat} {l2 : Nat} {l3 : Int32} {sk0 : Int32} {sk1 : Int32} {M : mM} {sz : Nat} {sl : Nat} (h : B_L_law_373 G F r18 l0 l1 l2 l3 sk0 sk1 M sz sl = some ((1 : Int32), M0, Z0, S0)) : sz ≤ Z0 ∧ sl ≤ S0 := by
  unfold B_L_law_373 at h
  by_cases q : sk0 = sk1
  · replace h := (if_pos q).symm.trans h
    have q := hm18 _ _ _ _ _ _ _ h
    omega
  · replace h := (if_neg q).symm.trans h
    have q := retZA_p h
    omega
set_option maxHeartbeats 4000000 in
set_option maxRecDepth 100000 in
theorem wB_L_law_373 {G : mG} {F : Nat} {x : mXT} {z0 s0 : Nat} {M0 : mM} {Z0 S0 : Nat} (X : mCX G RL cL_law 4 (some .boolean) "law" room_1 x) (hQ : mQW x) (hZm : Z0 - z0 ≤ 600000) (hSm : S0 - s0 ≤ 7302250) (r18 : Nat → Nat → Nat → Int32 → mM → Nat → Nat → Option (Int32 × mM × Nat × Nat)) (hm18 : ∀ (l0 : Nat) (l1 : Nat) (l2 : Nat) (l3 : Int32) (M : mM) (sz : Nat) (sl : Nat), r18 l0 l1 l2 l3 M sz sl = some ((1 : Int32), M0, Z0, S0) → sz ≤ Z0 ∧ sl ≤ S0) (hr18 : ∀ (l0 : Nat) (l1 : Nat) (l2 : Nat) (l3 : Int32) (M : mM) (sz : Nat) (sl : Nat), z0 ≤ sz → s0 ≤ sl → r18 l0 l1 l2 l3 M sz sl = some ((1 : Int32), M0, Z0, S0) → WW x (sz, sz - z0, sl - s0) M 18 [(0, .ref l0), (1, .ref l1), (2, .ref l2), (3, .int l3)] []) {l0 : Nat} {l1 : Nat} {l2 : Nat} {l3 : Int32} {sk0 : Int32} {sk1 : Int32} {M : mM} {sz : Nat} {sl : Nat} (hz0 : z0 ≤ sz) (hs0 : s0 ≤ sl) (h : B_L_law_373 G F r18 l0 l1 l2 l3 sk0 sk1 M sz sl = some ((1 : Int32), M0, Z0, S0)) : WW x (sz, sz - z0, sl - s0) M 373 [(0, .ref l0), (1, .ref l1), (2, .ref l2), (3, .int l3)] [.int sk1, .int sk0] := by
  unfold B_L_law_373 at h
  refine ww_icmp_eq 373 1369 X dL_law_373 (by decide) (fun q => ?_) (fun q => ?_)
  · replace h := (if_pos q).symm.trans h
    have q := hm18 _ _ _ _ _ _ _ h
    refine ww_iinc 1369 X dL_law_1369 (lv' := [(0, .ref l0), (1, .ref l1), (2, .ref l2), (3, .int (l3 + 8))]) 3 rfl rfl (by decide) [1, 2, 3, 0] rfl ?_
    refine ww_goto 1372 18 X dL_law_1372 (by decide) ?_
    exact (hr18 _ _ _ _ _ _ _ (by omega) (by omega) h)
  · replace h := (if_neg q).symm.trans h
    have q := retZA_p h
    refine ww_iconst 376 X (v := (0 : Int32)) dL_law_376 (by decide) ?_
    exact ww_lawret 377 X hQ hZm hSm dL_law_377 h
theorem mB_L_law_350 {G : mG} {F : Nat} {M0 : mM} {Z0 S0 : Nat} (r18 : Nat → Nat → Nat → Int32 → mM → Nat → Nat → Option (Int32 × mM × Nat × Nat)) (hm18 : ∀ (l0 : Nat) (l1 : Nat) (l2 : Nat) (l3 : Int32) (M : mM) (sz : Nat) (sl : Nat), r18 l0 l1 l2 l3 M sz sl = some ((1 : Int32), M0, Z0, S0) → sz ≤ Z0 ∧ sl ≤ S0) {l0 : Nat} {l1 : Nat} {l2 : Nat} {l3 : Int32} {sk0 : Int32} {sk1 : Int32} {M : mM} {sz : Nat} {sl : Nat} (h : B_L_law_350 G F r18 l0 l1 l2 l3 sk0 sk1 M sz sl = some ((1 : Int32), M0, Z0, S0)) : sz ≤ Z0 ∧ sl ≤ S0 := by
  unfold B_L_law_350 at h
  by_cases q : sk0 = sk1
  · replace h := (if_pos q).symm.trans h
    have q := hm18 _ _ _ _ _ _ _ h
    omega
  · replace h := (if_neg q).symm.trans h
    have q := retZA_p h
    omega
set_option maxHeartbeats 4000000 in
set_option maxRecDepth 100000 in
theorem wB_L_law_350 {G : mG} {F : Nat} {x : mXT} {z0 s0 : Nat} {M0 : mM} {Z0 S0 : Nat} (X : mCX G RL cL_law 4 (some .boolean) "law" room_1 x) (hQ : mQW x) (hZm : Z0 - z0 ≤ 600000) (hSm : S0 - s0 ≤ 7302250) (r18 : Nat → Nat → Nat → Int32 → mM → Nat → Nat → Option (Int32 × mM × Nat × Nat)) (hm18 : ∀ (l0 : Nat) (l1 : Nat) (l2 : Nat) (l3 : Int32) (M : mM) (sz : Nat) (sl : Nat), r18 l0 l1 l2 l3 M sz sl = some ((1 : Int32), M0, Z0, S0) → sz ≤ Z0 ∧ sl ≤ S0) (hr18 : ∀ (l0 : Nat) (l1 : Nat) (l2 : Nat) (l3 : Int32) (M : mM) (sz : Nat) (sl : Nat), z0 ≤ sz → s0 ≤ sl → r18 l0 l1 l2 l3 M sz sl = some ((1 : Int32), M0, Z0, S0) → WW x (sz, sz - z0, sl - s0) M 18 [(0, .ref l0), (1, .ref l1), (2, .ref l2), (3, .int l3)] []) {l0 : Nat} {l1 : Nat} {l2 : Nat} {l3 : Int32} {sk0 : Int32} {sk1 : Int32} {M : mM} {sz : Nat} {sl : Nat} (hz0 : z0 ≤ sz) (hs0 : s0 ≤ sl) (h : B_L_law_350 G F r18 l0 l1 l2 l3 sk0 sk1 M sz sl = some ((1 : Int32), M0, Z0, S0)) : WW x (sz, sz - z0, sl - s0) M 350 [(0, .ref l0), (1, .ref l1), (2, .ref l2), (3, .int l3)] [.int sk1, .int sk0] := by
  unfold B_L_law_350 at h
  refine ww_icmp_eq 350 1369 X dL_law_350 (by decide) (fun q => ?_) (fun q => ?_)
  · replace h := (if_pos q).symm.trans h
    have q := hm18 _ _ _ _ _ _ _ h
    refine ww_iinc 1369 X dL_law_1369 (lv' := [(0, .ref l0), (1, .ref l1), (2, .ref l2), (3, .int (l3 + 8))]) 3 rfl rfl (by decide) [1, 2, 3, 0] rfl ?_
    refine ww_goto 1372 18 X dL_law_1372 (by decide) ?_
    exact (hr18 _ _ _ _ _ _ _ (by omega) (by omega) h)
  · replace h := (if_neg q).symm.trans h
    have q := retZA_p h
    refine ww_iconst 353 X (v := (0 : Int32)) dL_law_353 (by decide) ?_
    exact ww_lawret 354 X hQ hZm hSm dL_law_354 h
theorem mB_L_law_307 {G : mG} {F : Nat} {M0 : mM} {Z0 S0 : Nat} (r18 : Nat → Nat → Nat → Int32 → mM → Nat → Nat → Option (Int32 × mM × Nat × Nat)) (hm18 : ∀ (l0 : Nat) (l1 : Nat) (l2 : Nat) (l3 : Int32) (M : mM) (sz : Nat) (sl : Nat), r18 l0 l1 l2 l3 M sz sl = some ((1 : Int32), M0, Z0, S0) → sz ≤ Z0 ∧ sl ≤ S0) {l0 : Nat} {l1 : Nat} {l2 : Nat} {l3 : Int32} {sk0 : Int32} {sk1 : Int32} {M : mM} {sz : Nat} {sl : Nat} (h : B_L_law_307 G F r18 l0 l1 l2 l3 sk0 sk1 M sz sl = some ((1 : Int32), M0, Z0, S0)) : sz ≤ Z0 ∧ sl ≤ S0 := by
  unfold B_L_law_307 at h
  by_cases q : sk0 = sk1
  · replace h := (if_pos q).symm.trans h
    have q := hm18 _ _ _ _ _ _ _ h
    omega
  · replace h := (if_neg q).symm.trans h
    have q := retZA_p h
    omega
set_option maxHeartbeats 4000000 in
set_option maxRecDepth 100000 in
theorem wB_L_law_307 {G : mG} {F : Nat} {x : mXT} {z0 s0 : Nat} {M0 : mM} {Z0 S0 : Nat} (X : mCX G RL cL_law 4 (some .boolean) "law" room_1 x) (hQ : mQW x) (hZm : Z0 - z0 ≤ 600000) (hSm : S0 - s0 ≤ 7302250) (r18 : Nat → Nat → Nat → Int32 → mM → Nat → Nat → Option (Int32 × mM × Nat × Nat)) (hm18 : ∀ (l0 : Nat) (l1 : Nat) (l2 : Nat) (l3 : Int32) (M : mM) (sz : Nat) (sl : Nat), r18 l0 l1 l2 l3 M sz sl = some ((1 : Int32), M0, Z0, S0) → sz ≤ Z0 ∧ sl ≤ S0) (hr18 : ∀ (l0 : Nat) (l1 : Nat) (l2 : Nat) (l3 : Int32) (M : mM) (sz : Nat) (sl : Nat), z0 ≤ sz → s0 ≤ sl → r18 l0 l1 l2 l3 M sz sl = some ((1 : Int32), M0, Z0, S0) → WW x (sz, sz - z0, sl - s0) M 18 [(0, .ref l0), (1, .ref l1), (2, .ref l2), (3, .int l3)] []) {l0 : Nat} {l1 : Nat} {l2 : Nat} {l3 : Int32} {sk0 : Int32} {sk1 : Int32} {M : mM} {sz : Nat} {sl : Nat} (hz0 : z0 ≤ sz) (hs0 : s0 ≤ sl) (h : B_L_law_307 G F r18 l0 l1 l2 l3 sk0 sk1 M sz sl = some ((1 : Int32), M0, Z0, S0)) : WW x (sz, sz - z0, sl - s0) M 307 [(0, .ref l0), (1, .ref l1), (2, .ref l2), (3, .int l3)] [.int sk1, .int sk0] := by
  unfold B_L_law_307 at h
  refine ww_icmp_eq 307 1369 X dL_law_307 (by decide) (fun q => ?_) (fun q => ?_)
  · replace h := (if_pos q).symm.trans h
    have q := hm18 _ _ _ _ _ _ _ h
    refine ww_iinc 1369 X dL_law_1369 (lv' := [(0, .ref l0), (1, .ref l1), (2, .ref l2), (3, .int (l3 + 8))]) 3 rfl rfl (by decide) [1, 2, 3, 0] rfl ?_
    refine ww_goto 1372 18 X dL_law_1372 (by decide) ?_
    exact (hr18 _ _ _ _ _ _ _ (by omega) (by omega) h)
  · replace h := (if_neg q).symm.trans h
    have q := retZA_p h
    refine ww_iconst 310 X (v := (0 : Int32)) dL_law_310 (by decide) ?_
    exact ww_lawret 311 X hQ hZm hSm dL_law_311 h
theorem mB_L_law_284 {G : mG} {F : Nat} {M0 : mM} {Z0 S0 : Nat} (r18 : Nat → Nat → Nat → Int32 → mM → Nat → Nat → Option (Int32 × mM × Nat × Nat)) (hm18 : ∀ (l0 : Nat) (l1 : Nat) (l2 : Nat) (l3 : Int32) (M : mM) (sz : Nat) (sl : Nat), r18 l0 l1 l2 l3 M sz sl = some ((1 : Int32), M0, Z0, S0) → sz ≤ Z0 ∧ sl ≤ S0) {l0 : Nat} {l1 : Nat} {l2 : Nat} {l3 : Int32} {sk0 : Int32} {sk1 : Int32} {M : mM} {sz : Nat} {sl : Nat} (h : B_L_law_284 G F r18 l0 l1 l2 l3 sk0 sk1 M sz sl = some ((1 : Int32), M0, Z0, S0)) : sz ≤ Z0 ∧ sl ≤ S0 := by
  unfold B_L_law_284 at h
  by_cases q : sk0 = sk1
  · replace h := (if_pos q).symm.trans h
    have q := hm18 _ _ _ _ _ _ _ h
    omega
  · replace h := (if_neg q).symm.trans h
    have q := retZA_p h
    omega
set_option maxHeartbeats 4000000 in
set_option maxRecDepth 100000 in
theorem wB_L_law_284 {G : mG} {F : Nat} {x : mXT} {z0 s0 : Nat} {M0 : mM} {Z0 S0 : Nat} (X : mCX G RL cL_law 4 (some .boolean) "law" room_1 x) (hQ : mQW x) (hZm : Z0 - z0 ≤ 600000) (hSm : S0 - s0 ≤ 7302250) (r18 : Nat → Nat → Nat → Int32 → mM → Nat → Nat → Option (Int32 × mM × Nat × Nat)) (hm18 : ∀ (l0 : Nat) (l1 : Nat) (l2 : Nat) (l3 : Int32) (M : mM) (sz : Nat) (sl : Nat), r18 l0 l1 l2 l3 M sz sl = some ((1 : Int32), M0, Z0, S0) → sz ≤ Z0 ∧ sl ≤ S0) (hr18 : ∀ (l0 : Nat) (l1 : Nat) (l2 : Nat) (l3 : Int32) (M : mM) (sz : Nat) (sl : Nat), z0 ≤ sz → s0 ≤ sl → r18 l0 l1 l2 l3 M sz sl = some ((1 : Int32), M0, Z0, S0) → WW x (sz, sz - z0, sl - s0) M 18 [(0, .ref l0), (1, .ref l1), (2, .ref l2), (3, .int l3)] []) {l0 : Nat} {l1 : Nat} {l2 : Nat} {l3 : Int32} {sk0 : Int32} {sk1 : Int32} {M : mM} {sz : Nat} {sl : Nat} (hz0 : z0 ≤ sz) (hs0 : s0 ≤ sl) (h : B_L_law_284 G F r18 l0 l1 l2 l3 sk0 sk1 M sz sl = some ((1 : Int32), M0, Z0, S0)) : WW x (sz, sz - z0, sl - s0) M 284 [(0, .ref l0), (1, .ref l1), (2, .ref l2), (3, .int l3)] [.int sk1, .int sk0] := by
  unfold B_L_law_284 at h
  refine ww_icmp_eq 284 1369 X dL_law_284 (by decide) (fun q => ?_) (fun q => ?_)
  · replace h := (if_pos q).symm.trans h
    have q := hm18 _ _ _ _ _ _ _ h
    refine ww_iinc 1369 X dL_law_1369 (lv' := [(0, .ref l0), (1, .ref l1), (2, .ref l2), (3, .int (l3 + 8))]) 3 rfl rfl (by decide) [1, 2, 3, 0] rfl ?_
    refine ww_goto 1372 18 X dL_law_1372 (by decide) ?_
    exact (hr18 _ _ _ _ _ _ _ (by omega) (by omega) h)
  · replace h := (if_neg q).symm.trans h
    have q := retZA_p h
    refine ww_iconst 287 X (v := (0 : Int32)) dL_law_287 (by decide) ?_
    exact ww_lawret 288 X hQ hZm hSm dL_law_288 h
theorem mB_L_law_261 {G : mG} {F : Nat} {M0 : mM} {Z0 S0 : Nat} (r18 : Nat → Nat → Nat → Int32 → mM → Nat → Nat → Option (Int32 × mM × Nat × Nat)) (hm18 : ∀ (l0 : Nat) (l1 : Nat) (l2 : Nat) (l3 : Int32) (M : mM) (sz : Nat) (sl : Nat), r18 l0 l1 l2 l3 M sz sl = some ((1 : Int32), M0, Z0, S0) → sz ≤ Z0 ∧ sl ≤ S0) {l0 : Nat} {l1 : Nat} {l2 : Nat} {l3 : Int32} {sk0 : Int32} {sk1 : Int32} {M : mM} {sz : Nat} {sl : Nat} (h : B_L_law_261 G F r18 l0 l1 l2 l3 sk0 sk1 M sz sl = some ((1 : Int32), M0, Z0, S0)) : sz ≤ Z0 ∧ sl ≤ S0 := by
  unfold B_L_law_261 at h
  by_cases q : sk0 = sk1
  · replace h := (if_pos q).symm.trans h
    have q := hm18 _ _ _ _ _ _ _ h
    omega
  · replace h := (if_neg q).symm.trans h
    have q := retZA_p h
    omega
set_option maxHeartbeats 4000000 in
set_option maxRecDepth 100000 in
theorem wB_L_law_261 {G : mG} {F : Nat} {x : mXT} {z0 s0 : Nat} {M0 : mM} {Z0 S0 : Nat} (X : mCX G RL cL_law 4 (some .boolean) "law" room_1 x) (hQ : mQW x) (hZm : Z0 - z0 ≤ 600000) (hSm : S0 - s0 ≤ 7302250) (r18 : Nat → Nat → Nat → Int32 → mM → Nat → Nat → Option (Int32 × mM × Nat × Nat)) (hm18 : ∀ (l0 : Nat) (l1 : Nat) (l2 : Nat) (l3 : Int32) (M : mM) (sz : Nat) (sl : Nat), r18 l0 l1 l2 l3 M sz sl = some ((1 : Int32), M0, Z0, S0) → sz ≤ Z0 ∧ sl ≤ S0) (hr18 : ∀ (l0 : Nat) (l1 : Nat) (l2 : Nat) (l3 : Int32) (M : mM) (sz : Nat) (sl : Nat), z0 ≤ sz → s0 ≤ sl → r18 l0 l1 l2 l3 M sz sl = some ((1 : Int32), M0, Z0, S0) → WW x (sz, sz - z0, sl - s0) M 18 [(0, .ref l0), (1, .ref l1), (2, .ref l2), (3, .int l3)] []) {l0 : Nat} {l1 : Nat} {l2 : Nat} {l3 : Int32} {sk0 : Int32} {sk1 : Int32} {M : mM} {sz : Nat} {sl : Nat} (hz0 : z0 ≤ sz) (hs0 : s0 ≤ sl) (h : B_L_law_261 G F r18 l0 l1 l2 l3 sk0 sk1 M sz sl = some ((1 : Int32), M0, Z0, S0)) : WW x (sz, sz - z0, sl - s0) M 261 [(0, .ref l0), (1, .ref l1), (2, .ref l2), (3, .int l3)] [.int sk1, .int sk0] := by
  unfold B_L_law_261 at h
  refine ww_icmp_eq 261 1369 X dL_law_261 (by decide) (fun q => ?_) (fun q => ?_)
  · replace h := (if_pos q).symm.trans h
    have q := hm18 _ _ _ _ _ _ _ h
    refine ww_iinc 1369 X dL_law_1369 (lv' := [(0, .ref l0), (1, .ref l1), (2, .ref l2), (3, .int (l3 + 8))]) 3 rfl rfl (by decide) [1, 2, 3, 0] rfl ?_
    refine ww_goto 1372 18 X dL_law_1372 (by decide) ?_
    exact (hr18 _ _ _ _ _ _ _ (by omega) (by omega) h)
  · replace h := (if_neg q).symm.trans h
    have q := retZA_p h
    refine ww_iconst 264 X (v := (0 : Int32)) dL_law_264 (by decide) ?_
    exact ww_lawret 265 X hQ hZm hSm dL_law_265 h
theorem mB_L_law_238 {G : mG} {F : Nat} {M0 : mM} {Z0 S0 : Nat} (r18 : Nat → Nat → Nat → Int32 → mM → Nat → Nat → Option (Int32 × mM × Nat × Nat)) (hm18 : ∀ (l0 : Nat) (l1 : Nat) (l2 : Nat) (l3 : Int32) (M : mM) (sz : Nat) (sl : Nat), r18 l0 l1 l2 l3 M sz sl = some ((1 : Int32), M0, Z0, S0) → sz ≤ Z0 ∧ sl ≤ S0) {l0 : Nat} {l1 : Nat} {l2 : Nat} {l3 : Int32} {sk0 : Int32} {sk1 : Int32} {M : mM} {sz : Nat} {sl : Nat} (h : B_L_law_238 G F r18 l0 l1 l2 l3 sk0 sk1 M sz sl = some ((1 : Int32), M0, Z0, S0)) : sz ≤ Z0 ∧ sl ≤ S0 := by
  unfold B_L_law_238 at h
  by_cases q : sk0 = sk1
  · replace h := (if_pos q).symm.trans h
    have q := hm18 _ _ _ _ _ _ _ h
    omega
  · replace h := (if_neg q).symm.trans h
    have q := retZA_p h
    omega
set_option maxHeartbeats 4000000 in
set_option maxRecDepth 100000 in
theorem wB_L_law_238 {G : mG} {F : Nat} {x : mXT} {z0 s0 : Nat} {M0 : mM} {Z0 S0 : Nat} (X : mCX G RL cL_law 4 (some .boolean) "law" room_1 x) (hQ : mQW x) (hZm : Z0 - z0 ≤ 600000) (hSm : S0 - s0 ≤ 7302250) (r18 : Nat → Nat → Nat → Int32 → mM → Nat → Nat → Option (Int32 × mM × Nat × Nat)) (hm18 : ∀ (l0 : Nat) (l1 : Nat) (l2 : Nat) (l3 : Int32) (M : mM) (sz : Nat) (sl : Nat), r18 l0 l1 l2 l3 M sz sl = some ((1 : Int32), M0, Z0, S0) → sz ≤ Z0 ∧ sl ≤ S0) (hr18 : ∀ (l0 : Nat) (l1 : Nat) (l2 : Nat) (l3 : Int32) (M : mM) (sz : Nat) (sl : Nat), z0 ≤ sz → s0 ≤ sl → r18 l0 l1 l2 l3 M sz sl = some ((1 : Int32), M0, Z0, S0) → WW x (sz, sz - z0, sl - s0) M 18 [(0, .ref l0), (1, .ref l1), (2, .ref l2), (3, .int l3)] []) {l0 : Nat} {l1 : Nat} {l2 : Nat} {l3 : Int32} {sk0 : Int32} {sk1 : Int32} {M : mM} {sz : Nat} {sl : Nat} (hz0 : z0 ≤ sz) (hs0 : s0 ≤ sl) (h : B_L_law_238 G F r18 l0 l1 l2 l3 sk0 sk1 M sz sl = some ((1 : Int32), M0, Z0, S0)) : WW x (sz, sz - z0, sl - s0) M 238 [(0, .ref l0), (1, .ref l1), (2, .ref l2), (3, .int l3)] [.int sk1, .int sk0] := by
  unfold B_L_law_238 at h
  refine ww_icmp_eq 238 1369 X dL_law_238 (by decide) (fun q => ?_) (fun q => ?_)
  · replace h := (if_pos q).symm.trans h
    have q := hm18 _ _ _ _ _ _ _ h
    refine ww_iinc 1369 X dL_law_1369 (lv' := [(0, .ref l0), (1, .ref l1), (2, .ref l2), (3, .int (l3 + 8))]) 3 rfl rfl (by decide) [1, 2, 3, 0] rfl ?_
    refine ww_goto 1372 18 X dL_law_1372 (by decide) ?_
    exact (hr18 _ _ _ _ _ _ _ (by omega) (by omega) h)
  · replace h := (if_neg q).symm.trans h
    have q := retZA_p h
    refine ww_iconst 241 X (v := (0 : Int32)) dL_law_241 (by decide) ?_
    exact ww_lawret 242 X hQ hZm hSm dL_law_242 h
theorem mB_L_law_33 {G : mG} {F : Nat} {M0 : mM} {Z0 S0 : Nat} (r18 : Nat → Nat → Nat → Int32 → mM → Nat → Nat → Option (Int32 × mM × Nat × Nat)) (hm18 : ∀ (l0 : Nat) (l1 : Nat) (l2 : Nat) (l3 : Int32) (M : mM) (sz : Nat) (sl : Nat), r18 l0 l1 l2 l3 M sz sl = some ((1 : Int32), M0, Z0, S0) → sz ≤ Z0 ∧ sl ≤ S0) {l0 : Nat} {l1 : Nat} {l2 : Nat} {l3 : Int32} {sk0 : Int32} {M : mM} {sz : Nat} {sl : Nat} (h : B_L_law_33 G F r18 l0 l1 l2 l3 sk0 M sz sl = some ((1 : Int32), M0, Z0, S0)) : sz ≤ Z0 ∧ sl ≤ S0 := by
  unfold B_L_law_33 at h
  by_cases q0 : sk0 = (0 : Int32)
  · replace h := (if_pos q0).symm.trans h
    obtain ⟨v185, e185, h⟩ := bO_some h
    obtain ⟨v190, e190, h⟩ := bO_some h
    obtain ⟨v195, e195, h⟩ := bO_some h
    obtain ⟨v200, e200, h⟩ := bO_some h
    obtain ⟨v205, e205, h⟩ := bO_some h
    obtain ⟨_, f206, h⟩ := bO_some h
    obtain ⟨v206, M206, e206, h⟩ := bP_some h
    obtain ⟨v214, e214, h⟩ := bO_some h
    obtain ⟨v219, e219, h⟩ := bO_some h
    obtain ⟨v224, e224, h⟩ := bO_some h
    obtain ⟨v229, e229, h⟩ := bO_some h
    obtain ⟨v234, e234, h⟩ := bO_some h
    obtain ⟨_, f235, h⟩ := bO_some h
    obtain ⟨v235, M235, e235, h⟩ := bP_some h
    have q := mB_L_law_238 _ hm18 h
    omega
  · replace h := (if_neg q0).symm.trans h
    by_cases q1 : sk0 = (1 : Int32)
    · replace h := (if_pos q1).symm.trans h
      obtain ⟨v248, e248, h⟩ := bO_some h
      obtain ⟨_, f249, h⟩ := bO_some h
      obtain ⟨v249, M249, e249, h⟩ := bP_some h
      obtain ⟨v257, e257, h⟩ := bO_some h
      obtain ⟨_, f258, h⟩ := bO_some h
      obtain ⟨v258, M258, e258, h⟩ := bP_some h
      have q := mB_L_law_261 _ hm18 h
      omega
    · replace h := (if_neg q1).symm.trans h
      by_cases q2 : sk0 = (2 : Int32)
      · replace h := (if_pos q2).symm.trans h
        obtain ⟨v271, e271, h⟩ := bO_some h
        obtain ⟨_, f272, h⟩ := bO_some h
        obtain ⟨v272, M272, e272, h⟩ := bP_some h
        obtain ⟨v280, e280, h⟩ := bO_some h
        obtain ⟨_, f281, h⟩ := bO_some h
        obtain ⟨v281, M281, e281, h⟩ := bP_some h
        have q := mB_L_law_284 _ hm18 h
        omega
      · replace h := (if_neg q2).symm.trans h
        by_cases q3 : sk0 = (3 : Int32)
        · replace h := (if_pos q3).symm.trans h
          obtain ⟨v294, e294, h⟩ := bO_some h
          obtain ⟨_, f295, h⟩ := bO_some h
          obtain ⟨v295, M295, e295, h⟩ := bP_some h
          obtain ⟨v303, e303, h⟩ := bO_some h
          obtain ⟨_, f304, h⟩ := bO_some h
          obtain ⟨v304, M304, e304, h⟩ := bP_some h
          have q := mB_L_law_307 _ hm18 h
          omega
        · replace h := (if_neg q3).symm.trans h
          by_cases q4 : sk0 = (4 : Int32)
          · replace h := (if_pos q4).symm.trans h
            obtain ⟨v317, e317, h⟩ := bO_some h
            obtain ⟨v322, e322, h⟩ := bO_some h
            obtain ⟨v327, e327, h⟩ := bO_some h
            obtain ⟨_, f328, h⟩ := bO_some h
            obtain ⟨v328, M328, e328, h⟩ := bP_some h
            obtain ⟨v336, e336, h⟩ := bO_some h
            obtain ⟨v341, e341, h⟩ := bO_some h
            obtain ⟨v346, e346, h⟩ := bO_some h
            obtain ⟨_, f347, h⟩ := bO_some h
            obtain ⟨v347, M347, e347, h⟩ := bP_some h
            have q := mB_L_law_350 _ hm18 h
            omega
          · replace h := (if_neg q4).symm.trans h
            by_cases q5 : sk0 = (5 : Int32)
            · replace h := (if_pos q5).symm.trans h
              obtain ⟨v360, e360, h⟩ := bO_some h
              obtain ⟨_, f361, h⟩ := bO_some h
              obtain ⟨v361, M361, e361, h⟩ := bP_some h
              obtain ⟨v369, e369, h⟩ := bO_some h
              obtain ⟨_, f370, h⟩ := bO_some h
              obtain ⟨v370, M370, e370, h⟩ := bP_some h
              have q := mB_L_law_373 _ hm18 h
              omega
            · replace h := (if_neg q5).symm.trans h
              by_cases q6 : sk0 = (6 : Int32)
              · replace h := (if_pos q6).symm.trans h
                obtain ⟨v383, e383, h⟩ := bO_some h
                obtain ⟨_, f384, h⟩ := bO_some h
                obtain ⟨v384, M384, e384, h⟩ := bP_some h
                obtain ⟨v392, e392, h⟩ := bO_some h
                obtain ⟨_, f393, h⟩ := bO_some h
                obtain ⟨v393, M393, e393, h⟩ := bP_some h
                have q := mB_L_law_396 _ hm18 h
                omega
              · replace h := (if_neg q6).symm.trans h
                by_cases q7 : sk0 = (7 : Int32)
                · replace h := (if_pos q7).symm.trans h
                  obtain ⟨v406, e406, h⟩ := bO_some h
                  obtain ⟨_, f407, h⟩ := bO_some h
                  obtain ⟨v407, M407, e407, h⟩ := bP_some h
                  obtain ⟨v415, e415, h⟩ := bO_some h
                  obtain ⟨_, f416, h⟩ := bO_some h
                  obtain ⟨v416, M416, e416, h⟩ := bP_some h
                  have q := mB_L_law_419 _ hm18 h
                  omega
                · replace h := (if_neg q7).symm.trans h
                  by_cases q8 : sk0 = (8 : Int32)
                  · replace h := (if_pos q8).symm.trans h
                    obtain ⟨v429, e429, h⟩ := bO_some h
                    obtain ⟨v434, e434, h⟩ := bO_some h
                    obtain ⟨_, f435, h⟩ := bO_some h
                    obtain ⟨v435, M435, e435, h⟩ := bP_some h
                    obtain ⟨v443, e443, h⟩ := bO_some h
                    obtain ⟨v448, e448, h⟩ := bO_some h
                    obtain ⟨_, f449, h⟩ := bO_some h
                    obtain ⟨v449, M449, e449, h⟩ := bP_some h
                    have q := mB_L_law_452 _ hm18 h
                    omega
                  · replace h := (if_neg q8).symm.trans h
                    by_cases q9 : sk0 = (9 : Int32)
                    · replace h := (if_pos q9).symm.trans h
                      obtain ⟨v462, e462, h⟩ := bO_some h
                      obtain ⟨_, f463, h⟩ := bO_some h
                      obtain ⟨v463, M463, e463, h⟩ := bP_some h
                      obtain ⟨v471, e471, h⟩ := bO_some h
                      obtain ⟨_, f472, h⟩ := bO_some h
                      obtain ⟨v472, M472, e472, h⟩ := bP_some h
                      have q := mB_L_law_475 _ hm18 h
                      omega
                    · replace h := (if_neg q9).symm.trans h
                      by_cases q10 : sk0 = (10 : Int32)
                      · replace h := (if_pos q10).symm.trans h
                        obtain ⟨v485, e485, h⟩ := bO_some h
                        obtain ⟨_, f486, h⟩ := bO_some h
                        obtain ⟨v486, M486, e486, h⟩ := bP_some h
                        obtain ⟨v494, e494, h⟩ := bO_some h
                        obtain ⟨_, f495, h⟩ := bO_some h
                        obtain ⟨v495, M495, e495, h⟩ := bP_some h
                        have q := mB_L_law_498 _ hm18 h
                        omega
                      · replace h := (if_neg q10).symm.trans h
                        by_cases q11 : sk0 = (11 : Int32)
                        · replace h := (if_pos q11).symm.trans h
                          obtain ⟨v508, e508, h⟩ := bO_some h
                          obtain ⟨v513, e513, h⟩ := bO_some h
                          obtain ⟨_, f514, h⟩ := bO_some h
                          obtain ⟨v514, M514, e514, h⟩ := bP_some h
                          obtain ⟨v522, e522, h⟩ := bO_some h
                          obtain ⟨v527, e527, h⟩ := bO_some h
                          obtain ⟨_, f528, h⟩ := bO_some h
                          obtain ⟨v528, M528, e528, h⟩ := bP_some h
                          have q := mB_L_law_531 _ hm18 h
                          omega
                        · replace h := (if_neg q11).symm.trans h
                          by_cases q12 : sk0 = (12 : Int32)
                          · replace h := (if_pos q12).symm.trans h
                            obtain ⟨v541, e541, h⟩ := bO_some h
                            obtain ⟨_, f542, h⟩ := bO_some h
                            obtain ⟨v542, M542, e542, h⟩ := bP_some h
                            obtain ⟨v550, e550, h⟩ := bO_some h
                            obtain ⟨_, f551, h⟩ := bO_some h
                            obtain ⟨v551, M551, e551, h⟩ := bP_some h
                            have q := mB_L_law_554 _ hm18 h
                            omega
                          · replace h := (if_neg q12).symm.trans h
                            by_cases q13 : sk0 = (13 : Int32)
                            · replace h := (if_pos q13).symm.trans h
                              obtain ⟨v564, e564, h⟩ := bO_some h
                              obtain ⟨_, f565, h⟩ := bO_some h
                              obtain ⟨v565, M565, e565, h⟩ := bP_some h
                              obtain ⟨v573, e573, h⟩ := bO_some h
                              obtain ⟨_, f574, h⟩ := bO_some h
                              obtain ⟨v574, M574, e574, h⟩ := bP_some h
                              have q := mB_L_law_577 _ hm18 h
                              omega
                            · replace h := (if_neg q13).symm.trans h
                              by_cases q14 : sk0 = (14 : Int32)
                              · replace h := (if_pos q14).symm.trans h
                                obtain ⟨v587, e587, h⟩ := bO_some h
                                obtain ⟨_, f588, h⟩ := bO_some h
                                obtain ⟨v588, M588, e588, h⟩ := bP_some h
                                obtain ⟨v596, e596, h⟩ := bO_some h
                                obtain ⟨_, f597, h⟩ := bO_some h
                                obtain ⟨v597, M597, e597, h⟩ := bP_some h
                                have q := mB_L_law_600 _ hm18 h
                                omega
                              · replace h := (if_neg q14).symm.trans h
                                by_cases q15 : sk0 = (15 : Int32)
                                · replace h := (if_pos q15).symm.trans h
                                  obtain ⟨v610, e610, h⟩ := bO_some h
                                  obtain ⟨v615, e615, h⟩ := bO_some h
                                  obtain ⟨_, f616, h⟩ := bO_some h
                                  obtain ⟨v616, M616, e616, h⟩ := bP_some h
                                  obtain ⟨v624, e624, h⟩ := bO_some h
                                  obtain ⟨v629, e629, h⟩ := bO_some h
                                  obtain ⟨_, f630, h⟩ := bO_some h
                                  obtain ⟨v630, M630, e630, h⟩ := bP_some h
                                  have q := mB_L_law_633 _ hm18 h
                                  omega
                                · replace h := (if_neg q15).symm.trans h
                                  by_cases q16 : sk0 = (16 : Int32)
                                  · replace h := (if_pos q16).symm.trans h
                                    obtain ⟨v643, e643, h⟩ := bO_some h
                                    obtain ⟨v648, e648, h⟩ := bO_some h
                                    obtain ⟨v653, e653, h⟩ := bO_some h
                                    obtain ⟨_, f654, h⟩ := bO_some h
                                    obtain ⟨v654, M654, e654, h⟩ := bP_some h
                                    obtain ⟨v662, e662, h⟩ := bO_some h
                                    obtain ⟨v667, e667, h⟩ := bO_some h
                                    obtain ⟨v672, e672, h⟩ := bO_some h
                                    obtain ⟨_, f673, h⟩ := bO_some h
                                    obtain ⟨v673, M673, e673, h⟩ := bP_some h
                                    have q := mB_L_law_676 _ hm18 h
                                    omega
                                  · replace h := (if_neg q16).symm.trans h
                                    by_cases q17 : sk0 = (17 : Int32)
                                    · replace h := (if_pos q17).symm.trans h
                                      obtain ⟨v686, e686, h⟩ := bO_some h
                                      obtain ⟨v691, e691, h⟩ := bO_some h
                                      obtain ⟨v696, e696, h⟩ := bO_some h
                                      have q := mB_L_law_697 _ hm18 h
                                      omega
                                    · replace h := (if_neg q17).symm.trans h
                                      by_cases q18 : sk0 = (18 : Int32)
                                      · replace h := (if_pos q18).symm.trans h
                                        obtain ⟨v745, e745, h⟩ := bO_some h
                                        obtain ⟨v750, e750, h⟩ := bO_some h
                                        obtain ⟨_, f751, h⟩ := bO_some h
                                        obtain ⟨v751, M751, e751, h⟩ := bP_some h
                                        obtain ⟨v759, e759, h⟩ := bO_some h
                                        obtain ⟨v764, e764, h⟩ := bO_some h
                                        obtain ⟨_, f765, h⟩ := bO_some h
                                        obtain ⟨v765, M765, e765, h⟩ := bP_some h
                                        have q := mB_L_law_768 _ hm18 h
                                        omega
                                      · replace h := (if_neg q18).symm.trans h
                                        by_cases q19 : sk0 = (19 : Int32)
                                        · replace h := (if_pos q19).symm.trans h
                                          obtain ⟨v778, e778, h⟩ := bO_some h
                                          obtain ⟨v783, e783, h⟩ := bO_some h
                                          obtain ⟨_, f784, h⟩ := bO_some h
                                          obtain ⟨v784, M784, e784, h⟩ := bP_some h
                                          obtain ⟨v792, e792, h⟩ := bO_some h
                                          obtain ⟨v797, e797, h⟩ := bO_some h
                                          obtain ⟨_, f798, h⟩ := bO_some h
                                          obtain ⟨v798, M798, e798, h⟩ := bP_some h
                                          have q := mB_L_law_801 _ hm18 h
                                          omega
                                        · replace h := (if_neg q19).symm.trans h
                                          by_cases q20 : sk0 = (20 : Int32)
                                          · replace h := (if_pos q20).symm.trans h
                                            obtain ⟨v811, e811, h⟩ := bO_some h
                                            obtain ⟨v816, e816, h⟩ := bO_some h
                                            obtain ⟨v821, e821, h⟩ := bO_some h
                                            obtain ⟨v826, e826, h⟩ := bO_some h
                                            obtain ⟨v831, e831, h⟩ := bO_some h
                                            obtain ⟨_, f832, h⟩ := bO_some h
                                            obtain ⟨v832, M832, e832, h⟩ := bP_some h
                                            obtain ⟨v840, e840, h⟩ := bO_some h
                                            obtain ⟨v845, e845, h⟩ := bO_some h
                                            obtain ⟨v850, e850, h⟩ := bO_some h
                                            obtain ⟨v855, e855, h⟩ := bO_some h
                                            obtain ⟨v860, e860, h⟩ := bO_some h
                                            obtain ⟨_, f861, h⟩ := bO_some h
                                            obtain ⟨v861, M861, e861, h⟩ := bP_some h
                                            have q := mB_L_law_864 _ hm18 h
                                            omega
                                          · replace h := (if_neg q20).symm.trans h
                                            by_cases q21 : sk0 = (21 : Int32)
                                            · replace h := (if_pos q21).symm.trans h
                                              obtain ⟨v874, e874, h⟩ := bO_some h
                                              obtain ⟨v879, e879, h⟩ := bO_some h
                                              obtain ⟨v884, e884, h⟩ := bO_some h
                                              obtain ⟨v889, e889, h⟩ := bO_some h
                                              obtain ⟨v894, e894, h⟩ := bO_some h
                                              obtain ⟨_, f895, h⟩ := bO_some h
                                              obtain ⟨v895, M895, e895, h⟩ := bP_some h
                                              obtain ⟨v903, e903, h⟩ := bO_some h
                                              obtain ⟨v908, e908, h⟩ := bO_some h
                                              obtain ⟨v913, e913, h⟩ := bO_some h
                                              obtain ⟨v918, e918, h⟩ := bO_some h
                                              obtain ⟨v923, e923, h⟩ := bO_some h
                                              obtain ⟨_, f924, h⟩ := bO_some h
                                              obtain ⟨v924, M924, e924, h⟩ := bP_some h
                                              have q := mB_L_law_927 _ hm18 h
                                              omega
                                            · replace h := (if_neg q21).symm.trans h
                                              by_cases q22 : sk0 = (22 : Int32)
                                              · replace h := (if_pos q22).symm.trans h
                                                obtain ⟨v937, e937, h⟩ := bO_some h
                                                obtain ⟨v942, e942, h⟩ := bO_some h
                                                obtain ⟨v947, e947, h⟩ := bO_some h
                                                obtain ⟨_, f948, h⟩ := bO_some h
                                                obtain ⟨v948, M948, e948, h⟩ := bP_some h
                                                obtain ⟨v956, e956, h⟩ := bO_some h
                                                obtain ⟨v961, e961, h⟩ := bO_some h
                                                obtain ⟨v966, e966, h⟩ := bO_some h
                                                obtain ⟨_, f967, h⟩ := bO_some h
                                                obtain ⟨v967, M967, e967, h⟩ := bP_some h
                                                have q := mB_L_law_970 _ hm18 h
                                                omega
                                              · replace h := (if_neg q22).symm.trans h
                                                by_cases q23 : sk0 = (23 : Int32)
                                                · replace h := (if_pos q23).symm.trans h
                                                  obtain ⟨v980, e980, h⟩ := bO_some h
                                                  obtain ⟨v985, e985, h⟩ := bO_some h
                                                  obtain ⟨_, f986, h⟩ := bO_some h
                                                  obtain ⟨v986, M986, e986, h⟩ := bP_some h
                                                  obtain ⟨v994, e994, h⟩ := bO_some h
                                                  obtain ⟨v999, e999, h⟩ := bO_some h
                                                  obtain ⟨_, f1000, h⟩ := bO_some h
                                                  obtain ⟨v1000, M1000, e1000, h⟩ := bP_some h
                                                  have q := mB_L_law_1003 _ hm18 h
                                                  omega
                                                · replace h := (if_neg q23).symm.trans h
                                                  by_cases q24 : sk0 = (24 : Int32)
                                                  · replace h := (if_pos q24).symm.trans h
                                                    obtain ⟨v1013, e1013, h⟩ := bO_some h
                                                    obtain ⟨v1018, e1018, h⟩ := bO_some h
                                                    obtain ⟨v1023, e1023, h⟩ := bO_some h
                                                    obtain ⟨v1028, e1028, h⟩ := bO_some h
                                                    obtain ⟨v1033, e1033, h⟩ := bO_some h
                                                    obtain ⟨_, f1034, h⟩ := bO_some h
                                                    obtain ⟨v1034, M1034, e1034, h⟩ := bP_some h
                                                    obtain ⟨v1042, e1042, h⟩ := bO_some h
                                                    obtain ⟨v1047, e1047, h⟩ := bO_some h
                                                    obtain ⟨v1052, e1052, h⟩ := bO_some h
                                                    obtain ⟨v1057, e1057, h⟩ := bO_some h
                                                    obtain ⟨v1062, e1062, h⟩ := bO_some h
                                                    obtain ⟨_, f1063, h⟩ := bO_some h
                                                    obtain ⟨v1063, M1063, e1063, h⟩ := bP_some h
                                                    have q := mB_L_law_1066 _ hm18 h
                                                    omega
                                                  · replace h := (if_neg q24).symm.trans h
                                                    by_cases q25 : sk0 = (25 : Int32)
                                                    · replace h := (if_pos q25).symm.trans h
                                                      obtain ⟨v1076, e1076, h⟩ := bO_some h
                                                      obtain ⟨_, f1077, h⟩ := bO_some h
                                                      obtain ⟨v1077, M1077, z1077, k1077, e1077, h⟩ := bAP_some h
                                                      have g1077 := mP_X11_key e1077
                                                      obtain ⟨v1085, e1085, h⟩ := bO_some h
                                                      obtain ⟨_, f1086, h⟩ := bO_some h
                                                      obtain ⟨v1086, M1086, e1086, h⟩ := bP_some h
                                                      have q := mB_L_law_1089 _ hm18 h
                                                      omega
                                                    · replace h := (if_neg q25).symm.trans h
                                                      by_cases q26 : sk0 = (26 : Int32)
                                                      · replace h := (if_pos q26).symm.trans h
                                                        obtain ⟨v1099, e1099, h⟩ := bO_some h
                                                        obtain ⟨_, f1100, h⟩ := bO_some h
                                                        obtain ⟨v1100, M1100, e1100, h⟩ := bP_some h
                                                        obtain ⟨v1108, e1108, h⟩ := bO_some h
                                                        obtain ⟨_, f1109, h⟩ := bO_some h
                                                        obtain ⟨v1109, M1109, e1109, h⟩ := bP_some h
                                                        have q := mB_L_law_1112 _ hm18 h
                                                        omega
                                                      · replace h := (if_neg q26).symm.trans h
                                                        by_cases q27 : sk0 = (27 : Int32)
                                                        · replace h := (if_pos q27).symm.trans h
                                                          obtain ⟨v1122, e1122, h⟩ := bO_some h
                                                          obtain ⟨v1127, e1127, h⟩ := bO_some h
                                                          obtain ⟨_, f1128, h⟩ := bO_some h
                                                          obtain ⟨v1128, M1128, e1128, h⟩ := bP_some h
                                                          obtain ⟨v1136, e1136, h⟩ := bO_some h
                                                          obtain ⟨v1141, e1141, h⟩ := bO_some h
                                                          obtain ⟨_, f1142, h⟩ := bO_some h
                                                          obtain ⟨v1142, M1142, e1142, h⟩ := bP_some h
                                                          have q := mB_L_law_1145 _ hm18 h
                                                          omega
                                                        · replace h := (if_neg q27).symm.trans h
                                                          by_cases q28 : sk0 = (28 : Int32)
                                                          · replace h := (if_pos q28).symm.trans h
                                                            obtain ⟨v1155, e1155, h⟩ := bO_some h
                                                            obtain ⟨_, f1156, h⟩ := bO_some h
                                                            obtain ⟨v1156, M1156, e1156, h⟩ := bP_some h
                                                            obtain ⟨v1164, e1164, h⟩ := bO_some h
                                                            obtain ⟨_, f1165, h⟩ := bO_some h
                                                            obtain ⟨v1165, M1165, e1165, h⟩ := bP_some h
                                                            have q := mB_L_law_1168 _ hm18 h
                                                            omega
                                                          · replace h := (if_neg q28).symm.trans h
                                                            by_cases q29 : sk0 = (29 : Int32)
                                                            · replace h := (if_pos q29).symm.trans h
                                                              obtain ⟨v1178, e1178, h⟩ := bO_some h
                                                              obtain ⟨v1183, e1183, h⟩ := bO_some h
                                                              obtain ⟨v1188, e1188, h⟩ := bO_some h
                                                              obtain ⟨v1193, e1193, h⟩ := bO_some h
                                                              obtain ⟨v1198, e1198, h⟩ := bO_some h
                                                              obtain ⟨_, f1199, h⟩ := bO_some h
                                                              obtain ⟨v1199, M1199, e1199, h⟩ := bP_some h
                                                              obtain ⟨v1207, e1207, h⟩ := bO_some h
                                                              obtain ⟨v1212, e1212, h⟩ := bO_some h
                                                              obtain ⟨v1217, e1217, h⟩ := bO_some h
                                                              obtain ⟨v1222, e1222, h⟩ := bO_some h
                                                              obtain ⟨v1227, e1227, h⟩ := bO_some h
                                                              obtain ⟨_, f1228, h⟩ := bO_some h
                                                              obtain ⟨v1228, M1228, e1228, h⟩ := bP_some h
                                                              have q := mB_L_law_1231 _ hm18 h
                                                              omega
                                                            · replace h := (if_neg q29).symm.trans h
                                                              by_cases q30 : sk0 = (30 : Int32)
                                                              · replace h := (if_pos q30).symm.trans h
                                                                obtain ⟨v1241, e1241, h⟩ := bO_some h
                                                                obtain ⟨_, f1242, h⟩ := bO_some h
                                                                obtain ⟨v1242, M1242, e1242, h⟩ := bP_some h
                                                                obtain ⟨v1250, e1250, h⟩ := bO_some h
                                                                obtain ⟨_, f1251, h⟩ := bO_some h
                                                                obtain ⟨v1251, M1251, e1251, h⟩ := bP_some h
                                                                have q := mB_L_law_1254 _ hm18 h
                                                                omega
                                                              · replace h := (if_neg q30).symm.trans h
                                                                by_cases q31 : sk0 = (31 : Int32)
                                                                · replace h := (if_pos q31).symm.trans h
                                                                  obtain ⟨v1264, e1264, h⟩ := bO_some h
                                                                  obtain ⟨v1269, e1269, h⟩ := bO_some h
                                                                  obtain ⟨v1274, e1274, h⟩ := bO_some h
                                                                  obtain ⟨v1279, e1279, h⟩ := bO_some h
                                                                  obtain ⟨v1284, e1284, h⟩ := bO_some h
                                                                  obtain ⟨v1290, e1290, h⟩ := bO_some h
                                                                  obtain ⟨v1296, e1296, h⟩ := bO_some h
                                                                  obtain ⟨_, f1297, h⟩ := bO_some h
                                                                  obtain ⟨v1297, M1297, e1297, h⟩ := bP_some h
                                                                  obtain ⟨v1305, e1305, h⟩ := bO_some h
                                                                  obtain ⟨v1310, e1310, h⟩ := bO_some h
                                                                  obtain ⟨v1315, e1315, h⟩ := bO_some h
                                                                  obtain ⟨v1320, e1320, h⟩ := bO_some h
                                                                  obtain ⟨v1325, e1325, h⟩ := bO_some h
                                                                  obtain ⟨v1331, e1331, h⟩ := bO_some h
                                                                  obtain ⟨v1337, e1337, h⟩ := bO_some h
                                                                  obtain ⟨_, f1338, h⟩ := bO_some h
                                                                  obtain ⟨v1338, M1338, e1338, h⟩ := bP_some h
                                                                  have q := mB_L_law_1341 _ hm18 h
                                                                  omega
                                                                · replace h := (if_neg q31).symm.trans h
                                                                  by_cases q32 : sk0 = (32 : Int32)
                                                                  · replace h := (if_pos q32).symm.trans h
                                                                    obtain ⟨v1351, e1351, h⟩ := bO_some h
                                                                    obtain ⟨_, f1352, h⟩ := bO_some h
                                                                    obtain ⟨v1352, M1352, e1352, h⟩ := bP_some h
                                                                    obtain ⟨v1360, e1360, h⟩ := bO_some h
                                                                    obtain ⟨_, f1361, h⟩ := bO_some h
                                                                    obtain ⟨v1361, M1361, e1361, h⟩ := bP_some h
                                                                    have q := mB_L_law_1364 _ hm18 h
                                                                    omega
                                                                  · replace h := (if_neg q32).symm.trans h
                                                                    have q := hm18 _ _ _ _ _ _ _ h
                                                                    omega
set_option maxHeartbeats 4000000 in
set_option maxRecDepth 100000 in
theorem wB_L_law_33 {G : mG} {F : Nat} {x : mXT} {z0 s0 : Nat} {M0 : mM} {Z0 S0 : Nat} (X : mCX G RL cL_law 4 (some .boolean) "law" room_1 x) (hQ : mQW x) (hZm : Z0 - z0 ≤ 600000) (hSm : S0 - s0 ≤ 7302250) (r18 : Nat → Nat → Nat → Int32 → mM → Nat → Nat → Option (Int32 × mM × Nat × Nat)) (hm18 : ∀ (l0 : Nat) (l1 : Nat) (l2 : Nat) (l3 : Int32) (M : mM) (sz : Nat) (sl : Nat), r18 l0 l1 l2 l3 M sz sl = some ((1 : Int32), M0, Z0, S0) → sz ≤ Z0 ∧ sl ≤ S0) (hr18 : ∀ (l0 : Nat) (l1 : Nat) (l2 : Nat) (l3 : Int32) (M : mM) (sz : Nat) (sl : Nat), z0 ≤ sz → s0 ≤ sl → r18 l0 l1 l2 l3 M sz sl = some ((1 : Int32), M0, Z0, S0) → WW x (sz, sz - z0, sl - s0) M 18 [(0, .ref l0), (1, .ref l1), (2, .ref l2), (3, .int l3)] []) {l0 : Nat} {l1 : Nat} {l2 : Nat} {l3 : Int32} {sk0 : Int32} {M : mM} {sz : Nat} {sl : Nat} (hz0 : z0 ≤ sz) (hs0 : s0 ≤ sl) (h : B_L_law_33 G F r18 l0 l1 l2 l3 sk0 M sz sl = some ((1 : Int32), M0, Z0, S0)) : WW x (sz, sz - z0, sl - s0) M 33 [(0, .ref l0), (1, .ref l1), (2, .ref l2), (3, .int l3)] [.int sk0] := by
  unfold B_L_law_33 at h
  by_cases q0 : sk0 = (0 : Int32)
  · replace h := (if_pos q0).symm.trans h
    refine ww_tableIn 33 180 X dL_law_33 (off := 147) (by rw [q0]; decide) (by rw [q0]; decide) (by rw [q0]; decide) (by decide) ?_
    obtain ⟨v185, e185, h⟩ := bO_some h
    obtain ⟨v190, e190, h⟩ := bO_some h
    obtain ⟨v195, e195, h⟩ := bO_some h
    obtain ⟨v200, e200, h⟩ := bO_some h
    obtain ⟨v205, e205, h⟩ := bO_some h
    obtain ⟨_, f206, h⟩ := bO_some h
    obtain ⟨v206, M206, e206, h⟩ := bP_some h
    obtain ⟨v214, e214, h⟩ := bO_some h
    obtain ⟨v219, e219, h⟩ := bO_some h
    obtain ⟨v224, e224, h⟩ := bO_some h
    obtain ⟨v229, e229, h⟩ := bO_some h
    obtain ⟨v234, e234, h⟩ := bO_some h
    obtain ⟨_, f235, h⟩ := bO_some h
    obtain ⟨v235, M235, e235, h⟩ := bP_some h
    have q := mB_L_law_238 _ hm18 h
    refine ww_aload_n 180 X dL_law_180 1 rfl rfl ?_
    refine ww_aload_n 181 X dL_law_181 0 rfl rfl ?_
    refine ww_iload_n 182 X dL_law_182 3 rfl rfl ?_
    refine ww_iconst 183 X (v := (1 : Int32)) dL_law_183 (by decide) ?_
    refine ww_iadd 184 X dL_law_184 ?_
    refine ww_iald 185 X dL_law_185 e185 ?_
    refine ww_aload_n 186 X dL_law_186 0 rfl rfl ?_
    refine ww_iload_n 187 X dL_law_187 3 rfl rfl ?_
    refine ww_iconst 188 X (v := (2 : Int32)) dL_law_188 (by decide) ?_
    refine ww_iadd 189 X dL_law_189 ?_
    refine ww_iald 190 X dL_law_190 e190 ?_
    refine ww_aload_n 191 X dL_law_191 0 rfl rfl ?_
    refine ww_iload_n 192 X dL_law_192 3 rfl rfl ?_
    refine ww_iconst 193 X (v := (3 : Int32)) dL_law_193 (by decide) ?_
    refine ww_iadd 194 X dL_law_194 ?_
    refine ww_iald 195 X dL_law_195 e195 ?_
    refine ww_aload_n 196 X dL_law_196 0 rfl rfl ?_
    refine ww_iload_n 197 X dL_law_197 3 rfl rfl ?_
    refine ww_iconst 198 X (v := (4 : Int32)) dL_law_198 (by decide) ?_
    refine ww_iadd 199 X dL_law_199 ?_
    refine ww_iald 200 X dL_law_200 e200 ?_
    refine ww_aload_n 201 X dL_law_201 0 rfl rfl ?_
    refine ww_iload_n 202 X dL_law_202 3 rfl rfl ?_
    refine ww_iconst 203 X (v := (5 : Int32)) dL_law_203 (by decide) ?_
    refine ww_iadd 204 X dL_law_204 ?_
    refine ww_iald 205 X dL_law_205 e205 ?_
    refine ww_callVIz 206 X (sz := sz) (sl := sl) (z0 := z0) (s0 := s0) dL_law_206 mY_X11_feed mL_L_13 (rcv_spec f206) ⟨_, _, rfl⟩ (by decide) (As := [.int v185, .int v190, .int v195, .int v200, .int v205]) (rest := []) rfl rfl ⟨Nat.le_of_ble_eq_true rfl, Nat.le_of_ble_eq_true rfl⟩ (by show _ ≤ 600000; omega) (by show _ ≤ 7302250; omega) (Nat.le_of_ble_eq_true rfl) (fun l D A => c_X11_feed l D A e206) ?_
    refine ww_aload_n 209 X dL_law_209 2 rfl rfl ?_
    refine ww_aload_n 210 X dL_law_210 0 rfl rfl ?_
    refine ww_iload_n 211 X dL_law_211 3 rfl rfl ?_
    refine ww_iconst 212 X (v := (1 : Int32)) dL_law_212 (by decide) ?_
    refine ww_iadd 213 X dL_law_213 ?_
    refine ww_iald 214 X dL_law_214 e214 ?_
    refine ww_aload_n 215 X dL_law_215 0 rfl rfl ?_
    refine ww_iload_n 216 X dL_law_216 3 rfl rfl ?_
    refine ww_iconst 217 X (v := (2 : Int32)) dL_law_217 (by decide) ?_
    refine ww_iadd 218 X dL_law_218 ?_
    refine ww_iald 219 X dL_law_219 e219 ?_
    refine ww_aload_n 220 X dL_law_220 0 rfl rfl ?_
    refine ww_iload_n 221 X dL_law_221 3 rfl rfl ?_
    refine ww_iconst 222 X (v := (3 : Int32)) dL_law_222 (by decide) ?_
    refine ww_iadd 223 X dL_law_223 ?_
    refine ww_iald 224 X dL_law_224 e224 ?_
    refine ww_aload_n 225 X dL_law_225 0 rfl rfl ?_
    refine ww_iload_n 226 X dL_law_226 3 rfl rfl ?_
    refine ww_iconst 227 X (v := (4 : Int32)) dL_law_227 (by decide) ?_
    refine ww_iadd 228 X dL_law_228 ?_
    refine ww_iald 229 X dL_law_229 e229 ?_
    refine ww_aload_n 230 X dL_law_230 0 rfl rfl ?_
    refine ww_iload_n 231 X dL_law_231 3 rfl rfl ?_
    refine ww_iconst 232 X (v := (5 : Int32)) dL_law_232 (by decide) ?_
    refine ww_iadd 233 X dL_law_233 ?_
    refine ww_iald 234 X dL_law_234 e234 ?_
    refine ww_callVIz 235 X (sz := sz) (sl := sl) (z0 := z0) (s0 := s0) dL_law_235 mY_X13_feed mL_L_17 (rcv_spec f235) ⟨_, _, rfl⟩ (by decide) (As := [.int v214, .int v219, .int v224, .int v229, .int v234]) (rest := [.int v206]) rfl rfl ⟨Nat.le_of_ble_eq_true rfl, Nat.le_of_ble_eq_true rfl⟩ (by show _ ≤ 600000; omega) (by show _ ≤ 7302250; omega) (Nat.le_of_ble_eq_true rfl) (fun l D A => c_X13_feed l D A e235) ?_
    exact (wB_L_law_238 X hQ hZm hSm _ hm18 hr18 (by omega) (by omega) h)
  · replace h := (if_neg q0).symm.trans h
    by_cases q1 : sk0 = (1 : Int32)
    · replace h := (if_pos q1).symm.trans h
      refine ww_tableIn 33 243 X dL_law_33 (off := 210) (by rw [q1]; decide) (by rw [q1]; decide) (by rw [q1]; decide) (by decide) ?_
      obtain ⟨v248, e248, h⟩ := bO_some h
      obtain ⟨_, f249, h⟩ := bO_some h
      obtain ⟨v249, M249, e249, h⟩ := bP_some h
      obtain ⟨v257, e257, h⟩ := bO_some h
      obtain ⟨_, f258, h⟩ := bO_some h
      obtain ⟨v258, M258, e258, h⟩ := bP_some h
      have q := mB_L_law_261 _ hm18 h
      refine ww_aload_n 243 X dL_law_243 1 rfl rfl ?_
      refine ww_aload_n 244 X dL_law_244 0 rfl rfl ?_
      refine ww_iload_n 245 X dL_law_245 3 rfl rfl ?_
      refine ww_iconst 246 X (v := (1 : Int32)) dL_law_246 (by decide) ?_
      refine ww_iadd 247 X dL_law_247 ?_
      refine ww_iald 248 X dL_law_248 e248 ?_
      refine ww_callVIz 249 X (sz := sz) (sl := sl) (z0 := z0) (s0 := s0) dL_law_249 mY_X11_end mL_L_18 (rcv_spec f249) ⟨_, _, rfl⟩ (by decide) (As := [.int v248]) (rest := []) rfl rfl ⟨Nat.le_of_ble_eq_true rfl, Nat.le_of_ble_eq_true rfl⟩ (by show _ ≤ 600000; omega) (by show _ ≤ 7302250; omega) (Nat.le_of_ble_eq_true rfl) (fun l D A => c_X11_end l D A e249) ?_
      refine ww_aload_n 252 X dL_law_252 2 rfl rfl ?_
      refine ww_aload_n 253 X dL_law_253 0 rfl rfl ?_
      refine ww_iload_n 254 X dL_law_254 3 rfl rfl ?_
      refine ww_iconst 255 X (v := (1 : Int32)) dL_law_255 (by decide) ?_
      refine ww_iadd 256 X dL_law_256 ?_
      refine ww_iald 257 X dL_law_257 e257 ?_
      refine ww_callVIz 258 X (sz := sz) (sl := sl) (z0 := z0) (s0 := s0) dL_law_258 mY_X13_end mL_L_22 (rcv_spec f258) ⟨_, _, rfl⟩ (by decide) (As := [.int v257]) (rest := [.int v249]) rfl rfl ⟨Nat.le_of_ble_eq_true rfl, Nat.le_of_ble_eq_true rfl⟩ (by show _ ≤ 600000; omega) (by show _ ≤ 7302250; omega) (Nat.le_of_ble_eq_true rfl) (fun l D A => c_X13_end l D A e258) ?_
      exact (wB_L_law_261 X hQ hZm hSm _ hm18 hr18 (by omega) (by omega) h)
    · replace h := (if_neg q1).symm.trans h
      by_cases q2 : sk0 = (2 : Int32)
      · replace h := (if_pos q2).symm.trans h
        refine ww_tableIn 33 266 X dL_law_33 (off := 233) (by rw [q2]; decide) (by rw [q2]; decide) (by rw [q2]; decide) (by decide) ?_
        obtain ⟨v271, e271, h⟩ := bO_some h
        obtain ⟨_, f272, h⟩ := bO_some h
        obtain ⟨v272, M272, e272, h⟩ := bP_some h
        obtain ⟨v280, e280, h⟩ := bO_some h
        obtain ⟨_, f281, h⟩ := bO_some h
        obtain ⟨v281, M281, e281, h⟩ := bP_some h
        have q := mB_L_law_284 _ hm18 h
        refine ww_aload_n 266 X dL_law_266 1 rfl rfl ?_
        refine ww_aload_n 267 X dL_law_267 0 rfl rfl ?_
        refine ww_iload_n 268 X dL_law_268 3 rfl rfl ?_
        refine ww_iconst 269 X (v := (1 : Int32)) dL_law_269 (by decide) ?_
        refine ww_iadd 270 X dL_law_270 ?_
        refine ww_iald 271 X dL_law_271 e271 ?_
        refine ww_callVIz 272 X (sz := sz) (sl := sl) (z0 := z0) (s0 := s0) dL_law_272 mY_X11_row mL_L_23 (rcv_spec f272) ⟨_, _, rfl⟩ (by decide) (As := [.int v271]) (rest := []) rfl rfl ⟨Nat.le_of_ble_eq_true rfl, Nat.le_of_ble_eq_true rfl⟩ (by show _ ≤ 600000; omega) (by show _ ≤ 7302250; omega) (Nat.le_of_ble_eq_true rfl) (fun l D A => c_X11_row l D A e272) ?_
        refine ww_aload_n 275 X dL_law_275 2 rfl rfl ?_
        refine ww_aload_n 276 X dL_law_276 0 rfl rfl ?_
        refine ww_iload_n 277 X dL_law_277 3 rfl rfl ?_
        refine ww_iconst 278 X (v := (1 : Int32)) dL_law_278 (by decide) ?_
        refine ww_iadd 279 X dL_law_279 ?_
        refine ww_iald 280 X dL_law_280 e280 ?_
        refine ww_callVIz 281 X (sz := sz) (sl := sl) (z0 := z0) (s0 := s0) dL_law_281 mY_X13_row mL_L_26 (rcv_spec f281) ⟨_, _, rfl⟩ (by decide) (As := [.int v280]) (rest := [.int v272]) rfl rfl ⟨Nat.le_of_ble_eq_true rfl, Nat.le_of_ble_eq_true rfl⟩ (by show _ ≤ 600000; omega) (by show _ ≤ 7302250; omega) (Nat.le_of_ble_eq_true rfl) (fun l D A => c_X13_row l D A e281) ?_
        exact (wB_L_law_284 X hQ hZm hSm _ hm18 hr18 (by omega) (by omega) h)
      · replace h := (if_neg q2).symm.trans h
        by_cases q3 : sk0 = (3 : Int32)
        · replace h := (if_pos q3).symm.trans h
          refine ww_tableIn 33 289 X dL_law_33 (off := 256) (by rw [q3]; decide) (by rw [q3]; decide) (by rw [q3]; decide) (by decide) ?_
          obtain ⟨v294, e294, h⟩ := bO_some h
          obtain ⟨_, f295, h⟩ := bO_some h
          obtain ⟨v295, M295, e295, h⟩ := bP_some h
          obtain ⟨v303, e303, h⟩ := bO_some h
          obtain ⟨_, f304, h⟩ := bO_some h
          obtain ⟨v304, M304, e304, h⟩ := bP_some h
          have q := mB_L_law_307 _ hm18 h
          refine ww_aload_n 289 X dL_law_289 1 rfl rfl ?_
          refine ww_aload_n 290 X dL_law_290 0 rfl rfl ?_
          refine ww_iload_n 291 X dL_law_291 3 rfl rfl ?_
          refine ww_iconst 292 X (v := (1 : Int32)) dL_law_292 (by decide) ?_
          refine ww_iadd 293 X dL_law_293 ?_
          refine ww_iald 294 X dL_law_294 e294 ?_
          refine ww_callVIz 295 X (sz := sz) (sl := sl) (z0 := z0) (s0 := s0) dL_law_295 mY_X11_keep mL_L_27 (rcv_spec f295) ⟨_, _, rfl⟩ (by decide) (As := [.int v294]) (rest := []) rfl rfl ⟨Nat.le_of_ble_eq_true rfl, Nat.le_of_ble_eq_true rfl⟩ (by show _ ≤ 600000; omega) (by show _ ≤ 7302250; omega) (Nat.le_of_ble_eq_true rfl) (fun l D A => c_X11_keep l D A e295) ?_
          refine ww_aload_n 298 X dL_law_298 2 rfl rfl ?_
          refine ww_aload_n 299 X dL_law_299 0 rfl rfl ?_
          refine ww_iload_n 300 X dL_law_300 3 rfl rfl ?_
          refine ww_iconst 301 X (v := (1 : Int32)) dL_law_301 (by decide) ?_
          refine ww_iadd 302 X dL_law_302 ?_
          refine ww_iald 303 X dL_law_303 e303 ?_
          refine ww_callVIz 304 X (sz := sz) (sl := sl) (z0 := z0) (s0 := s0) dL_law_304 mY_X13_keep mL_L_30 (rcv_spec f304) ⟨_, _, rfl⟩ (by decide) (As := [.int v303]) (rest := [.int v295]) rfl rfl ⟨Nat.le_of_ble_eq_true rfl, Nat.le_of_ble_eq_true rfl⟩ (by show _ ≤ 600000; omega) (by show _ ≤ 7302250; omega) (Nat.le_of_ble_eq_true rfl) (fun l D A => c_X13_keep l D A e304) ?_
          exact (wB_L_law_307 X hQ hZm hSm _ hm18 hr18 (by omega) (by omega) h)
        · replace h := (if_neg q3).symm.trans h
          by_cases q4 : sk0 = (4 : Int32)
          · replace h := (if_pos q4).symm.trans h
            refine ww_tableIn 33 312 X dL_law_33 (off := 279) (by rw [q4]; decide) (by rw [q4]; decide) (by rw [q4]; decide) (by decide) ?_
            obtain ⟨v317, e317, h⟩ := bO_some h
            obtain ⟨v322, e322, h⟩ := bO_some h
            obtain ⟨v327, e327, h⟩ := bO_some h
            obtain ⟨_, f328, h⟩ := bO_some h
            obtain ⟨v328, M328, e328, h⟩ := bP_some h
            obtain ⟨v336, e336, h⟩ := bO_some h
            obtain ⟨v341, e341, h⟩ := bO_some h
            obtain ⟨v346, e346, h⟩ := bO_some h
            obtain ⟨_, f347, h⟩ := bO_some h
            obtain ⟨v347, M347, e347, h⟩ := bP_some h
            have q := mB_L_law_350 _ hm18 h
            refine ww_aload_n 312 X dL_law_312 1 rfl rfl ?_
            refine ww_aload_n 313 X dL_law_313 0 rfl rfl ?_
            refine ww_iload_n 314 X dL_law_314 3 rfl rfl ?_
            refine ww_iconst 315 X (v := (1 : Int32)) dL_law_315 (by decide) ?_
            refine ww_iadd 316 X dL_law_316 ?_
            refine ww_iald 317 X dL_law_317 e317 ?_
            refine ww_aload_n 318 X dL_law_318 0 rfl rfl ?_
            refine ww_iload_n 319 X dL_law_319 3 rfl rfl ?_
            refine ww_iconst 320 X (v := (2 : Int32)) dL_law_320 (by decide) ?_
            refine ww_iadd 321 X dL_law_321 ?_
            refine ww_iald 322 X dL_law_322 e322 ?_
            refine ww_aload_n 323 X dL_law_323 0 rfl rfl ?_
            refine ww_iload_n 324 X dL_law_324 3 rfl rfl ?_
            refine ww_iconst 325 X (v := (3 : Int32)) dL_law_325 (by decide) ?_
            refine ww_iadd 326 X dL_law_326 ?_
            refine ww_iald 327 X dL_law_327 e327 ?_
            refine ww_callVIz 328 X (sz := sz) (sl := sl) (z0 := z0) (s0 := s0) dL_law_328 mY_X11_poke mL_L_31 (rcv_spec f328) ⟨_, _, rfl⟩ (by decide) (As := [.int v317, .int v322, .int v327]) (rest := []) rfl rfl ⟨Nat.le_of_ble_eq_true rfl, Nat.le_of_ble_eq_true rfl⟩ (by show _ ≤ 600000; omega) (by show _ ≤ 7302250; omega) (Nat.le_of_ble_eq_true rfl) (fun l D A => c_X11_poke l D A e328) ?_
            refine ww_aload_n 331 X dL_law_331 2 rfl rfl ?_
            refine ww_aload_n 332 X dL_law_332 0 rfl rfl ?_
            refine ww_iload_n 333 X dL_law_333 3 rfl rfl ?_
            refine ww_iconst 334 X (v := (1 : Int32)) dL_law_334 (by decide) ?_
            refine ww_iadd 335 X dL_law_335 ?_
            refine ww_iald 336 X dL_law_336 e336 ?_
            refine ww_aload_n 337 X dL_law_337 0 rfl rfl ?_
            refine ww_iload_n 338 X dL_law_338 3 rfl rfl ?_
            refine ww_iconst 339 X (v := (2 : Int32)) dL_law_339 (by decide) ?_
            refine ww_iadd 340 X dL_law_340 ?_
            refine ww_iald 341 X dL_law_341 e341 ?_
            refine ww_aload_n 342 X dL_law_342 0 rfl rfl ?_
            refine ww_iload_n 343 X dL_law_343 3 rfl rfl ?_
            refine ww_iconst 344 X (v := (3 : Int32)) dL_law_344 (by decide) ?_
            refine ww_iadd 345 X dL_law_345 ?_
            refine ww_iald 346 X dL_law_346 e346 ?_
            refine ww_callVIz 347 X (sz := sz) (sl := sl) (z0 := z0) (s0 := s0) dL_law_347 mY_X13_poke mL_L_35 (rcv_spec f347) ⟨_, _, rfl⟩ (by decide) (As := [.int v336, .int v341, .int v346]) (rest := [.int v328]) rfl rfl ⟨Nat.le_of_ble_eq_true rfl, Nat.le_of_ble_eq_true rfl⟩ (by show _ ≤ 600000; omega) (by show _ ≤ 7302250; omega) (Nat.le_of_ble_eq_true rfl) (fun l D A => c_X13_poke l D A e347) ?_
            exact (wB_L_law_350 X hQ hZm hSm _ hm18 hr18 (by omega) (by omega) h)
          · replace h := (if_neg q4).symm.trans h
            by_cases q5 : sk0 = (5 : Int32)
            · replace h := (if_pos q5).symm.trans h
              refine ww_tableIn 33 355 X dL_law_33 (off := 322) (by rw [q5]; decide) (by rw [q5]; decide) (by rw [q5]; decide) (by decide) ?_
              obtain ⟨v360, e360, h⟩ := bO_some h
              obtain ⟨_, f361, h⟩ := bO_some h
              obtain ⟨v361, M361, e361, h⟩ := bP_some h
              obtain ⟨v369, e369, h⟩ := bO_some h
              obtain ⟨_, f370, h⟩ := bO_some h
              obtain ⟨v370, M370, e370, h⟩ := bP_some h
              have q := mB_L_law_373 _ hm18 h
              refine ww_aload_n 355 X dL_law_355 1 rfl rfl ?_
              refine ww_aload_n 356 X dL_law_356 0 rfl rfl ?_
              refine ww_iload_n 357 X dL_law_357 3 rfl rfl ?_
              refine ww_iconst 358 X (v := (1 : Int32)) dL_law_358 (by decide) ?_
              refine ww_iadd 359 X dL_law_359 ?_
              refine ww_iald 360 X dL_law_360 e360 ?_
              refine ww_callVIz 361 X (sz := sz) (sl := sl) (z0 := z0) (s0 := s0) dL_law_361 mY_X11_size mL_L_36 (rcv_spec f361) ⟨_, _, rfl⟩ (by decide) (As := [.int v360]) (rest := []) rfl rfl ⟨Nat.le_of_ble_eq_true rfl, Nat.le_of_ble_eq_true rfl⟩ (by show _ ≤ 600000; omega) (by show _ ≤ 7302250; omega) (Nat.le_of_ble_eq_true rfl) (fun l D A => c_X11_size l D A e361) ?_
              refine ww_aload_n 364 X dL_law_364 2 rfl rfl ?_
              refine ww_aload_n 365 X dL_law_365 0 rfl rfl ?_
              refine ww_iload_n 366 X dL_law_366 3 rfl rfl ?_
              refine ww_iconst 367 X (v := (1 : Int32)) dL_law_367 (by decide) ?_
              refine ww_iadd 368 X dL_law_368 ?_
              refine ww_iald 369 X dL_law_369 e369 ?_
              refine ww_callVIz 370 X (sz := sz) (sl := sl) (z0 := z0) (s0 := s0) dL_law_370 mY_X13_size mL_L_39 (rcv_spec f370) ⟨_, _, rfl⟩ (by decide) (As := [.int v369]) (rest := [.int v361]) rfl rfl ⟨Nat.le_of_ble_eq_true rfl, Nat.le_of_ble_eq_true rfl⟩ (by show _ ≤ 600000; omega) (by show _ ≤ 7302250; omega) (Nat.le_of_ble_eq_true rfl) (fun l D A => c_X13_size l D A e370) ?_
              exact (wB_L_law_373 X hQ hZm hSm _ hm18 hr18 (by omega) (by omega) h)
            · replace h := (if_neg q5).symm.trans h
              by_cases q6 : sk0 = (6 : Int32)
              · replace h := (if_pos q6).symm.trans h
                refine ww_tableIn 33 378 X dL_law_33 (off := 345) (by rw [q6]; decide) (by rw [q6]; decide) (by rw [q6]; decide) (by decide) ?_
                obtain ⟨v383, e383, h⟩ := bO_some h
                obtain ⟨_, f384, h⟩ := bO_some h
                obtain ⟨v384, M384, e384, h⟩ := bP_some h
                obtain ⟨v392, e392, h⟩ := bO_some h
                obtain ⟨_, f393, h⟩ := bO_some h
                obtain ⟨v393, M393, e393, h⟩ := bP_some h
                have q := mB_L_law_396 _ hm18 h
                refine ww_aload_n 378 X dL_law_378 1 rfl rfl ?_
                refine ww_aload_n 379 X dL_law_379 0 rfl rfl ?_
                refine ww_iload_n 380 X dL_law_380 3 rfl rfl ?_
                refine ww_iconst 381 X (v := (1 : Int32)) dL_law_381 (by decide) ?_
                refine ww_iadd 382 X dL_law_382 ?_
                refine ww_iald 383 X dL_law_383 e383 ?_
                refine ww_callVIz 384 X (sz := sz) (sl := sl) (z0 := z0) (s0 := s0) dL_law_384 mY_X11_out mL_L_40 (rcv_spec f384) ⟨_, _, rfl⟩ (by decide) (As := [.int v383]) (rest := []) rfl rfl ⟨Nat.le_of_ble_eq_true rfl, Nat.le_of_ble_eq_true rfl⟩ (by show _ ≤ 600000; omega) (by show _ ≤ 7302250; omega) (Nat.le_of_ble_eq_true rfl) (fun l D A => c_X11_out l D A e384) ?_
                refine ww_aload_n 387 X dL_law_387 2 rfl rfl ?_
                refine ww_aload_n 388 X dL_law_388 0 rfl rfl ?_
                refine ww_iload_n 389 X dL_law_389 3 rfl rfl ?_
                refine ww_iconst 390 X (v := (1 : Int32)) dL_law_390 (by decide) ?_
                refine ww_iadd 391 X dL_law_391 ?_
                refine ww_iald 392 X dL_law_392 e392 ?_
                refine ww_callVIz 393 X (sz := sz) (sl := sl) (z0 := z0) (s0 := s0) dL_law_393 mY_X13_out mL_L_43 (rcv_spec f393) ⟨_, _, rfl⟩ (by decide) (As := [.int v392]) (rest := [.int v384]) rfl rfl ⟨Nat.le_of_ble_eq_true rfl, Nat.le_of_ble_eq_true rfl⟩ (by show _ ≤ 600000; omega) (by show _ ≤ 7302250; omega) (Nat.le_of_ble_eq_true rfl) (fun l D A => c_X13_out l D A e393) ?_
                exact (wB_L_law_396 X hQ hZm hSm _ hm18 hr18 (by omega) (by omega) h)
              · replace h := (if_neg q6).symm.trans h
                by_cases q7 : sk0 = (7 : Int32)
                · replace h := (if_pos q7).symm.trans h
                  refine ww_tableIn 33 401 X dL_law_33 (off := 368) (by rw [q7]; decide) (by rw [q7]; decide) (by rw [q7]; decide) (by decide) ?_
                  obtain ⟨v406, e406, h⟩ := bO_some h
                  obtain ⟨_, f407, h⟩ := bO_some h
                  obtain ⟨v407, M407, e407, h⟩ := bP_some h
                  obtain ⟨v415, e415, h⟩ := bO_some h
                  obtain ⟨_, f416, h⟩ := bO_some h
                  obtain ⟨v416, M416, e416, h⟩ := bP_some h
                  have q := mB_L_law_419 _ hm18 h
                  refine ww_aload_n 401 X dL_law_401 1 rfl rfl ?_
                  refine ww_aload_n 402 X dL_law_402 0 rfl rfl ?_
                  refine ww_iload_n 403 X dL_law_403 3 rfl rfl ?_
                  refine ww_iconst 404 X (v := (1 : Int32)) dL_law_404 (by decide) ?_
                  refine ww_iadd 405 X dL_law_405 ?_
                  refine ww_iald 406 X dL_law_406 e406 ?_
                  refine ww_callVIz 407 X (sz := sz) (sl := sl) (z0 := z0) (s0 := s0) dL_law_407 mY_X11_json mL_L_44 (rcv_spec f407) ⟨_, _, rfl⟩ (by decide) (As := [.int v406]) (rest := []) rfl rfl ⟨Nat.le_of_ble_eq_true rfl, Nat.le_of_ble_eq_true rfl⟩ (by show _ ≤ 600000; omega) (by show _ ≤ 7302250; omega) (Nat.le_of_ble_eq_true rfl) (fun l D A => c_X11_json l D A e407) ?_
                  refine ww_aload_n 410 X dL_law_410 2 rfl rfl ?_
                  refine ww_aload_n 411 X dL_law_411 0 rfl rfl ?_
                  refine ww_iload_n 412 X dL_law_412 3 rfl rfl ?_
                  refine ww_iconst 413 X (v := (1 : Int32)) dL_law_413 (by decide) ?_
                  refine ww_iadd 414 X dL_law_414 ?_
                  refine ww_iald 415 X dL_law_415 e415 ?_
                  refine ww_callVIz 416 X (sz := sz) (sl := sl) (z0 := z0) (s0 := s0) dL_law_416 mY_X13_json mL_L_47 (rcv_spec f416) ⟨_, _, rfl⟩ (by decide) (As := [.int v415]) (rest := [.int v407]) rfl rfl ⟨Nat.le_of_ble_eq_true rfl, Nat.le_of_ble_eq_true rfl⟩ (by show _ ≤ 600000; omega) (by show _ ≤ 7302250; omega) (Nat.le_of_ble_eq_true rfl) (fun l D A => c_X13_json l D A e416) ?_
                  exact (wB_L_law_419 X hQ hZm hSm _ hm18 hr18 (by omega) (by omega) h)
                · replace h := (if_neg q7).symm.trans h
                  by_cases q8 : sk0 = (8 : Int32)
                  · replace h := (if_pos q8).symm.trans h
                    refine ww_tableIn 33 424 X dL_law_33 (off := 391) (by rw [q8]; decide) (by rw [q8]; decide) (by rw [q8]; decide) (by decide) ?_
                    obtain ⟨v429, e429, h⟩ := bO_some h
                    obtain ⟨v434, e434, h⟩ := bO_some h
                    obtain ⟨_, f435, h⟩ := bO_some h
                    obtain ⟨v435, M435, e435, h⟩ := bP_some h
                    obtain ⟨v443, e443, h⟩ := bO_some h
                    obtain ⟨v448, e448, h⟩ := bO_some h
                    obtain ⟨_, f449, h⟩ := bO_some h
                    obtain ⟨v449, M449, e449, h⟩ := bP_some h
                    have q := mB_L_law_452 _ hm18 h
                    refine ww_aload_n 424 X dL_law_424 1 rfl rfl ?_
                    refine ww_aload_n 425 X dL_law_425 0 rfl rfl ?_
                    refine ww_iload_n 426 X dL_law_426 3 rfl rfl ?_
                    refine ww_iconst 427 X (v := (1 : Int32)) dL_law_427 (by decide) ?_
                    refine ww_iadd 428 X dL_law_428 ?_
                    refine ww_iald 429 X dL_law_429 e429 ?_
                    refine ww_aload_n 430 X dL_law_430 0 rfl rfl ?_
                    refine ww_iload_n 431 X dL_law_431 3 rfl rfl ?_
                    refine ww_iconst 432 X (v := (2 : Int32)) dL_law_432 (by decide) ?_
                    refine ww_iadd 433 X dL_law_433 ?_
                    refine ww_iald 434 X dL_law_434 e434 ?_
                    refine ww_callVIz 435 X (sz := sz) (sl := sl) (z0 := z0) (s0 := s0) dL_law_435 mY_X11_value mL_L_48 (rcv_spec f435) ⟨_, _, rfl⟩ (by decide) (As := [.int v429, .int v434]) (rest := []) rfl rfl ⟨Nat.le_of_ble_eq_true rfl, Nat.le_of_ble_eq_true rfl⟩ (by show _ ≤ 600000; omega) (by show _ ≤ 7302250; omega) (Nat.le_of_ble_eq_true rfl) (fun l D A => c_X11_value l D A e435) ?_
                    refine ww_aload_n 438 X dL_law_438 2 rfl rfl ?_
                    refine ww_aload_n 439 X dL_law_439 0 rfl rfl ?_
                    refine ww_iload_n 440 X dL_law_440 3 rfl rfl ?_
                    refine ww_iconst 441 X (v := (1 : Int32)) dL_law_441 (by decide) ?_
                    refine ww_iadd 442 X dL_law_442 ?_
                    refine ww_iald 443 X dL_law_443 e443 ?_
                    refine ww_aload_n 444 X dL_law_444 0 rfl rfl ?_
                    refine ww_iload_n 445 X dL_law_445 3 rfl rfl ?_
                    refine ww_iconst 446 X (v := (2 : Int32)) dL_law_446 (by decide) ?_
                    refine ww_iadd 447 X dL_law_447 ?_
                    refine ww_iald 448 X dL_law_448 e448 ?_
                    refine ww_callVIz 449 X (sz := sz) (sl := sl) (z0 := z0) (s0 := s0) dL_law_449 mY_X13_value mL_L_52 (rcv_spec f449) ⟨_, _, rfl⟩ (by decide) (As := [.int v443, .int v448]) (rest := [.int v435]) rfl rfl ⟨Nat.le_of_ble_eq_true rfl, Nat.le_of_ble_eq_true rfl⟩ (by show _ ≤ 600000; omega) (by show _ ≤ 7302250; omega) (Nat.le_of_ble_eq_true rfl) (fun l D A => c_X13_value l D A e449) ?_
                    exact (wB_L_law_452 X hQ hZm hSm _ hm18 hr18 (by omega) (by omega) h)
                  · replace h := (if_neg q8).symm.trans h
                    by_cases q9 : sk0 = (9 : Int32)
                    · replace h := (if_pos q9).symm.trans h
                      refine ww_tableIn 33 457 X dL_law_33 (off := 424) (by rw [q9]; decide) (by rw [q9]; decide) (by rw [q9]; decide) (by decide) ?_
                      obtain ⟨v462, e462, h⟩ := bO_some h
                      obtain ⟨_, f463, h⟩ := bO_some h
                      obtain ⟨v463, M463, e463, h⟩ := bP_some h
                      obtain ⟨v471, e471, h⟩ := bO_some h
                      obtain ⟨_, f472, h⟩ := bO_some h
                      obtain ⟨v472, M472, e472, h⟩ := bP_some h
                      have q := mB_L_law_475 _ hm18 h
                      refine ww_aload_n 457 X dL_law_457 1 rfl rfl ?_
                      refine ww_aload_n 458 X dL_law_458 0 rfl rfl ?_
                      refine ww_iload_n 459 X dL_law_459 3 rfl rfl ?_
                      refine ww_iconst 460 X (v := (1 : Int32)) dL_law_460 (by decide) ?_
                      refine ww_iadd 461 X dL_law_461 ?_
                      refine ww_iald 462 X dL_law_462 e462 ?_
                      refine ww_callVIz 463 X (sz := sz) (sl := sl) (z0 := z0) (s0 := s0) dL_law_463 mY_X11_text mL_L_53 (rcv_spec f463) ⟨_, _, rfl⟩ (by decide) (As := [.int v462]) (rest := []) rfl rfl ⟨Nat.le_of_ble_eq_true rfl, Nat.le_of_ble_eq_true rfl⟩ (by show _ ≤ 600000; omega) (by show _ ≤ 7302250; omega) (Nat.le_of_ble_eq_true rfl) (fun l D A => c_X11_text l D A e463) ?_
                      refine ww_aload_n 466 X dL_law_466 2 rfl rfl ?_
                      refine ww_aload_n 467 X dL_law_467 0 rfl rfl ?_
                      refine ww_iload_n 468 X dL_law_468 3 rfl rfl ?_
                      refine ww_iconst 469 X (v := (1 : Int32)) dL_law_469 (by decide) ?_
                      refine ww_iadd 470 X dL_law_470 ?_
                      refine ww_iald 471 X dL_law_471 e471 ?_
                      refine ww_callVIz 472 X (sz := sz) (sl := sl) (z0 := z0) (s0 := s0) dL_law_472 mY_X13_text mL_L_56 (rcv_spec f472) ⟨_, _, rfl⟩ (by decide) (As := [.int v471]) (rest := [.int v463]) rfl rfl ⟨Nat.le_of_ble_eq_true rfl, Nat.le_of_ble_eq_true rfl⟩ (by show _ ≤ 600000; omega) (by show _ ≤ 7302250; omega) (Nat.le_of_ble_eq_true rfl) (fun l D A => c_X13_text l D A e472) ?_
                      exact (wB_L_law_475 X hQ hZm hSm _ hm18 hr18 (by omega) (by omega) h)
                    · replace h := (if_neg q9).symm.trans h
                      by_cases q10 : sk0 = (10 : Int32)
                      · replace h := (if_pos q10).symm.trans h
                        refine ww_tableIn 33 480 X dL_law_33 (off := 447) (by rw [q10]; decide) (by rw [q10]; decide) (by rw [q10]; decide) (by decide) ?_
                        obtain ⟨v485, e485, h⟩ := bO_some h
                        obtain ⟨_, f486, h⟩ := bO_some h
                        obtain ⟨v486, M486, e486, h⟩ := bP_some h
                        obtain ⟨v494, e494, h⟩ := bO_some h
                        obtain ⟨_, f495, h⟩ := bO_some h
                        obtain ⟨v495, M495, e495, h⟩ := bP_some h
                        have q := mB_L_law_498 _ hm18 h
                        refine ww_aload_n 480 X dL_law_480 1 rfl rfl ?_
                        refine ww_aload_n 481 X dL_law_481 0 rfl rfl ?_
                        refine ww_iload_n 482 X dL_law_482 3 rfl rfl ?_
                        refine ww_iconst 483 X (v := (1 : Int32)) dL_law_483 (by decide) ?_
                        refine ww_iadd 484 X dL_law_484 ?_
                        refine ww_iald 485 X dL_law_485 e485 ?_
                        refine ww_callVIz 486 X (sz := sz) (sl := sl) (z0 := z0) (s0 := s0) dL_law_486 mY_X11_name mL_L_57 (rcv_spec f486) ⟨_, _, rfl⟩ (by decide) (As := [.int v485]) (rest := []) rfl rfl ⟨Nat.le_of_ble_eq_true rfl, Nat.le_of_ble_eq_true rfl⟩ (by show _ ≤ 600000; omega) (by show _ ≤ 7302250; omega) (Nat.le_of_ble_eq_true rfl) (fun l D A => c_X11_name l D A e486) ?_
                        refine ww_aload_n 489 X dL_law_489 2 rfl rfl ?_
                        refine ww_aload_n 490 X dL_law_490 0 rfl rfl ?_
                        refine ww_iload_n 491 X dL_law_491 3 rfl rfl ?_
                        refine ww_iconst 492 X (v := (1 : Int32)) dL_law_492 (by decide) ?_
                        refine ww_iadd 493 X dL_law_493 ?_
                        refine ww_iald 494 X dL_law_494 e494 ?_
                        refine ww_callVIz 495 X (sz := sz) (sl := sl) (z0 := z0) (s0 := s0) dL_law_495 mY_X13_name mL_L_60 (rcv_spec f495) ⟨_, _, rfl⟩ (by decide) (As := [.int v494]) (rest := [.int v486]) rfl rfl ⟨Nat.le_of_ble_eq_true rfl, Nat.le_of_ble_eq_true rfl⟩ (by show _ ≤ 600000; omega) (by show _ ≤ 7302250; omega) (Nat.le_of_ble_eq_true rfl) (fun l D A => c_X13_name l D A e495) ?_
                        exact (wB_L_law_498 X hQ hZm hSm _ hm18 hr18 (by omega) (by omega) h)
                      · replace h := (if_neg q10).symm.trans h
                        by_cases q11 : sk0 = (11 : Int32)
                        · replace h := (if_pos q11).symm.trans h
                          refine ww_tableIn 33 503 X dL_law_33 (off := 470) (by rw [q11]; decide) (by rw [q11]; decide) (by rw [q11]; decide) (by decide) ?_
                          obtain ⟨v508, e508, h⟩ := bO_some h
                          obtain ⟨v513, e513, h⟩ := bO_some h
                          obtain ⟨_, f514, h⟩ := bO_some h
                          obtain ⟨v514, M514, e514, h⟩ := bP_some h
                          obtain ⟨v522, e522, h⟩ := bO_some h
                          obtain ⟨v527, e527, h⟩ := bO_some h
                          obtain ⟨_, f528, h⟩ := bO_some h
                          obtain ⟨v528, M528, e528, h⟩ := bP_some h
                          have q := mB_L_law_531 _ hm18 h
                          refine ww_aload_n 503 X dL_law_503 1 rfl rfl ?_
                          refine ww_aload_n 504 X dL_law_504 0 rfl rfl ?_
                          refine ww_iload_n 505 X dL_law_505 3 rfl rfl ?_
                          refine ww_iconst 506 X (v := (1 : Int32)) dL_law_506 (by decide) ?_
                          refine ww_iadd 507 X dL_law_507 ?_
                          refine ww_iald 508 X dL_law_508 e508 ?_
                          refine ww_aload_n 509 X dL_law_509 0 rfl rfl ?_
                          refine ww_iload_n 510 X dL_law_510 3 rfl rfl ?_
                          refine ww_iconst 511 X (v := (2 : Int32)) dL_law_511 (by decide) ?_
                          refine ww_iadd 512 X dL_law_512 ?_
                          refine ww_iald 513 X dL_law_513 e513 ?_
                          refine ww_callVIz 514 X (sz := sz) (sl := sl) (z0 := z0) (s0 := s0) dL_law_514 mY_X11_member mL_L_61 (rcv_spec f514) ⟨_, _, rfl⟩ (by decide) (As := [.int v508, .int v513]) (rest := []) rfl rfl ⟨Nat.le_of_ble_eq_true rfl, Nat.le_of_ble_eq_true rfl⟩ (by show _ ≤ 600000; omega) (by show _ ≤ 7302250; omega) (Nat.le_of_ble_eq_true rfl) (fun l D A => c_X11_member l D A e514) ?_
                          refine ww_aload_n 517 X dL_law_517 2 rfl rfl ?_
                          refine ww_aload_n 518 X dL_law_518 0 rfl rfl ?_
                          refine ww_iload_n 519 X dL_law_519 3 rfl rfl ?_
                          refine ww_iconst 520 X (v := (1 : Int32)) dL_law_520 (by decide) ?_
                          refine ww_iadd 521 X dL_law_521 ?_
                          refine ww_iald 522 X dL_law_522 e522 ?_
                          refine ww_aload_n 523 X dL_law_523 0 rfl rfl ?_
                          refine ww_iload_n 524 X dL_law_524 3 rfl rfl ?_
                          refine ww_iconst 525 X (v := (2 : Int32)) dL_law_525 (by decide) ?_
                          refine ww_iadd 526 X dL_law_526 ?_
                          refine ww_iald 527 X dL_law_527 e527 ?_
                          refine ww_callVIz 528 X (sz := sz) (sl := sl) (z0 := z0) (s0 := s0) dL_law_528 mY_X13_member mL_L_64 (rcv_spec f528) ⟨_, _, rfl⟩ (by decide) (As := [.int v522, .int v527]) (rest := [.int v514]) rfl rfl ⟨Nat.le_of_ble_eq_true rfl, Nat.le_of_ble_eq_true rfl⟩ (by show _ ≤ 600000; omega) (by show _ ≤ 7302250; omega) (Nat.le_of_ble_eq_true rfl) (fun l D A => c_X13_member l D A e528) ?_
                          exact (wB_L_law_531 X hQ hZm hSm _ hm18 hr18 (by omega) (by omega) h)
                        · replace h := (if_neg q11).symm.trans h
                          by_cases q12 : sk0 = (12 : Int32)
                          · replace h := (if_pos q12).symm.trans h
                            refine ww_tableIn 33 536 X dL_law_33 (off := 503) (by rw [q12]; decide) (by rw [q12]; decide) (by rw [q12]; decide) (by decide) ?_
                            obtain ⟨v541, e541, h⟩ := bO_some h
                            obtain ⟨_, f542, h⟩ := bO_some h
                            obtain ⟨v542, M542, e542, h⟩ := bP_some h
                            obtain ⟨v550, e550, h⟩ := bO_some h
                            obtain ⟨_, f551, h⟩ := bO_some h
                            obtain ⟨v551, M551, e551, h⟩ := bP_some h
                            have q := mB_L_law_554 _ hm18 h
                            refine ww_aload_n 536 X dL_law_536 1 rfl rfl ?_
                            refine ww_aload_n 537 X dL_law_537 0 rfl rfl ?_
                            refine ww_iload_n 538 X dL_law_538 3 rfl rfl ?_
                            refine ww_iconst 539 X (v := (1 : Int32)) dL_law_539 (by decide) ?_
                            refine ww_iadd 540 X dL_law_540 ?_
                            refine ww_iald 541 X dL_law_541 e541 ?_
                            refine ww_callVIz 542 X (sz := sz) (sl := sl) (z0 := z0) (s0 := s0) dL_law_542 mY_X11_write mL_L_65 (rcv_spec f542) ⟨_, _, rfl⟩ (by decide) (As := [.int v541]) (rest := []) rfl rfl ⟨Nat.le_of_ble_eq_true rfl, Nat.le_of_ble_eq_true rfl⟩ (by show _ ≤ 600000; omega) (by show _ ≤ 7302250; omega) (Nat.le_of_ble_eq_true rfl) (fun l D A => c_X11_write l D A e542) ?_
                            refine ww_aload_n 545 X dL_law_545 2 rfl rfl ?_
                            refine ww_aload_n 546 X dL_law_546 0 rfl rfl ?_
                            refine ww_iload_n 547 X dL_law_547 3 rfl rfl ?_
                            refine ww_iconst 548 X (v := (1 : Int32)) dL_law_548 (by decide) ?_
                            refine ww_iadd 549 X dL_law_549 ?_
                            refine ww_iald 550 X dL_law_550 e550 ?_
                            refine ww_callVIz 551 X (sz := sz) (sl := sl) (z0 := z0) (s0 := s0) dL_law_551 mY_X13_write mL_L_68 (rcv_spec f551) ⟨_, _, rfl⟩ (by decide) (As := [.int v550]) (rest := [.int v542]) rfl rfl ⟨Nat.le_of_ble_eq_true rfl, Nat.le_of_ble_eq_true rfl⟩ (by show _ ≤ 600000; omega) (by show _ ≤ 7302250; omega) (Nat.le_of_ble_eq_true rfl) (fun l D A => c_X13_write l D A e551) ?_
                            exact (wB_L_law_554 X hQ hZm hSm _ hm18 hr18 (by omega) (by omega) h)
                          · replace h := (if_neg q12).symm.trans h
                            by_cases q13 : sk0 = (13 : Int32)
                            · replace h := (if_pos q13).symm.trans h
                              refine ww_tableIn 33 559 X dL_law_33 (off := 526) (by rw [q13]; decide) (by rw [q13]; decide) (by rw [q13]; decide) (by decide) ?_
                              obtain ⟨v564, e564, h⟩ := bO_some h
                              obtain ⟨_, f565, h⟩ := bO_some h
                              obtain ⟨v565, M565, e565, h⟩ := bP_some h
                              obtain ⟨v573, e573, h⟩ := bO_some h
                              obtain ⟨_, f574, h⟩ := bO_some h
                              obtain ⟨v574, M574, e574, h⟩ := bP_some h
                              have q := mB_L_law_577 _ hm18 h
                              refine ww_aload_n 559 X dL_law_559 1 rfl rfl ?_
                              refine ww_aload_n 560 X dL_law_560 0 rfl rfl ?_
                              refine ww_iload_n 561 X dL_law_561 3 rfl rfl ?_
                              refine ww_iconst 562 X (v := (1 : Int32)) dL_law_562 (by decide) ?_
                              refine ww_iadd 563 X dL_law_563 ?_
                              refine ww_iald 564 X dL_law_564 e564 ?_
                              refine ww_callVIz 565 X (sz := sz) (sl := sl) (z0 := z0) (s0 := s0) dL_law_565 mY_X11_encode mL_L_69 (rcv_spec f565) ⟨_, _, rfl⟩ (by decide) (As := [.int v564]) (rest := []) rfl rfl ⟨Nat.le_of_ble_eq_true rfl, Nat.le_of_ble_eq_true rfl⟩ (by show _ ≤ 600000; omega) (by show _ ≤ 7302250; omega) (Nat.le_of_ble_eq_true rfl) (fun l D A => c_X11_encode l D A e565) ?_
                              refine ww_aload_n 568 X dL_law_568 2 rfl rfl ?_
                              refine ww_aload_n 569 X dL_law_569 0 rfl rfl ?_
                              refine ww_iload_n 570 X dL_law_570 3 rfl rfl ?_
                              refine ww_iconst 571 X (v := (1 : Int32)) dL_law_571 (by decide) ?_
                              refine ww_iadd 572 X dL_law_572 ?_
                              refine ww_iald 573 X dL_law_573 e573 ?_
                              refine ww_callVIz 574 X (sz := sz) (sl := sl) (z0 := z0) (s0 := s0) dL_law_574 mY_X13_encode mL_L_72 (rcv_spec f574) ⟨_, _, rfl⟩ (by decide) (As := [.int v573]) (rest := [.int v565]) rfl rfl ⟨Nat.le_of_ble_eq_true rfl, Nat.le_of_ble_eq_true rfl⟩ (by show _ ≤ 600000; omega) (by show _ ≤ 7302250; omega) (Nat.le_of_ble_eq_true rfl) (fun l D A => c_X13_encode l D A e574) ?_
                              exact (wB_L_law_577 X hQ hZm hSm _ hm18 hr18 (by omega) (by omega) h)
                            · replace h := (if_neg q13).symm.trans h
                              by_cases q14 : sk0 = (14 : Int32)
                              · replace h := (if_pos q14).symm.trans h
                                refine ww_tableIn 33 582 X dL_law_33 (off := 549) (by rw [q14]; decide) (by rw [q14]; decide) (by rw [q14]; decide) (by decide) ?_
                                obtain ⟨v587, e587, h⟩ := bO_some h
                                obtain ⟨_, f588, h⟩ := bO_some h
                                obtain ⟨v588, M588, e588, h⟩ := bP_some h
                                obtain ⟨v596, e596, h⟩ := bO_some h
                                obtain ⟨_, f597, h⟩ := bO_some h
                                obtain ⟨v597, M597, e597, h⟩ := bP_some h
                                have q := mB_L_law_600 _ hm18 h
                                refine ww_aload_n 582 X dL_law_582 1 rfl rfl ?_
                                refine ww_aload_n 583 X dL_law_583 0 rfl rfl ?_
                                refine ww_iload_n 584 X dL_law_584 3 rfl rfl ?_
                                refine ww_iconst 585 X (v := (1 : Int32)) dL_law_585 (by decide) ?_
                                refine ww_iadd 586 X dL_law_586 ?_
                                refine ww_iald 587 X dL_law_587 e587 ?_
                                refine ww_callVIz 588 X (sz := sz) (sl := sl) (z0 := z0) (s0 := s0) dL_law_588 mY_X11_decode mL_L_73 (rcv_spec f588) ⟨_, _, rfl⟩ (by decide) (As := [.int v587]) (rest := []) rfl rfl ⟨Nat.le_of_ble_eq_true rfl, Nat.le_of_ble_eq_true rfl⟩ (by show _ ≤ 600000; omega) (by show _ ≤ 7302250; omega) (Nat.le_of_ble_eq_true rfl) (fun l D A => c_X11_decode l D A e588) ?_
                                refine ww_aload_n 591 X dL_law_591 2 rfl rfl ?_
                                refine ww_aload_n 592 X dL_law_592 0 rfl rfl ?_
                                refine ww_iload_n 593 X dL_law_593 3 rfl rfl ?_
                                refine ww_iconst 594 X (v := (1 : Int32)) dL_law_594 (by decide) ?_
                                refine ww_iadd 595 X dL_law_595 ?_
                                refine ww_iald 596 X dL_law_596 e596 ?_
                                refine ww_callVIz 597 X (sz := sz) (sl := sl) (z0 := z0) (s0 := s0) dL_law_597 mY_X13_decode mL_L_76 (rcv_spec f597) ⟨_, _, rfl⟩ (by decide) (As := [.int v596]) (rest := [.int v588]) rfl rfl ⟨Nat.le_of_ble_eq_true rfl, Nat.le_of_ble_eq_true rfl⟩ (by show _ ≤ 600000; omega) (by show _ ≤ 7302250; omega) (Nat.le_of_ble_eq_true rfl) (fun l D A => c_X13_decode l D A e597) ?_
                                exact (wB_L_law_600 X hQ hZm hSm _ hm18 hr18 (by omega) (by omega) h)
                              · replace h := (if_neg q14).symm.trans h
                                by_cases q15 : sk0 = (15 : Int32)
                                · replace h := (if_pos q15).symm.trans h
                                  refine ww_tableIn 33 605 X dL_law_33 (off := 572) (by rw [q15]; decide) (by rw [q15]; decide) (by rw [q15]; decide) (by decide) ?_
                                  obtain ⟨v610, e610, h⟩ := bO_some h
                                  obtain ⟨v615, e615, h⟩ := bO_some h
                                  obtain ⟨_, f616, h⟩ := bO_some h
                                  obtain ⟨v616, M616, e616, h⟩ := bP_some h
                                  obtain ⟨v624, e624, h⟩ := bO_some h
                                  obtain ⟨v629, e629, h⟩ := bO_some h
                                  obtain ⟨_, f630, h⟩ := bO_some h
                                  obtain ⟨v630, M630, e630, h⟩ := bP_some h
                                  have q := mB_L_law_633 _ hm18 h
                                  refine ww_aload_n 605 X dL_law_605 1 rfl rfl ?_
                                  refine ww_aload_n 606 X dL_law_606 0 rfl rfl ?_
                                  refine ww_iload_n 607 X dL_law_607 3 rfl rfl ?_
                                  refine ww_iconst 608 X (v := (1 : Int32)) dL_law_608 (by decide) ?_
                                  refine ww_iadd 609 X dL_law_609 ?_
                                  refine ww_iald 610 X dL_law_610 e610 ?_
                                  refine ww_aload_n 611 X dL_law_611 0 rfl rfl ?_
                                  refine ww_iload_n 612 X dL_law_612 3 rfl rfl ?_
                                  refine ww_iconst 613 X (v := (2 : Int32)) dL_law_613 (by decide) ?_
                                  refine ww_iadd 614 X dL_law_614 ?_
                                  refine ww_iald 615 X dL_law_615 e615 ?_
                                  refine ww_callVIz 616 X (sz := sz) (sl := sl) (z0 := z0) (s0 := s0) dL_law_616 mY_X11_hash mL_L_77 (rcv_spec f616) ⟨_, _, rfl⟩ (by decide) (As := [.int v610, .int v615]) (rest := []) rfl rfl ⟨Nat.le_of_ble_eq_true rfl, Nat.le_of_ble_eq_true rfl⟩ (by show _ ≤ 600000; omega) (by show _ ≤ 7302250; omega) (Nat.le_of_ble_eq_true rfl) (fun l D A => c_X11_hash l D A e616) ?_
                                  refine ww_aload_n 619 X dL_law_619 2 rfl rfl ?_
                                  refine ww_aload_n 620 X dL_law_620 0 rfl rfl ?_
                                  refine ww_iload_n 621 X dL_law_621 3 rfl rfl ?_
                                  refine ww_iconst 622 X (v := (1 : Int32)) dL_law_622 (by decide) ?_
                                  refine ww_iadd 623 X dL_law_623 ?_
                                  refine ww_iald 624 X dL_law_624 e624 ?_
                                  refine ww_aload_n 625 X dL_law_625 0 rfl rfl ?_
                                  refine ww_iload_n 626 X dL_law_626 3 rfl rfl ?_
                                  refine ww_iconst 627 X (v := (2 : Int32)) dL_law_627 (by decide) ?_
                                  refine ww_iadd 628 X dL_law_628 ?_
                                  refine ww_iald 629 X dL_law_629 e629 ?_
                                  refine ww_callVIz 630 X (sz := sz) (sl := sl) (z0 := z0) (s0 := s0) dL_law_630 mY_X13_hash mL_L_80 (rcv_spec f630) ⟨_, _, rfl⟩ (by decide) (As := [.int v624, .int v629]) (rest := [.int v616]) rfl rfl ⟨Nat.le_of_ble_eq_true rfl, Nat.le_of_ble_eq_true rfl⟩ (by show _ ≤ 600000; omega) (by show _ ≤ 7302250; omega) (Nat.le_of_ble_eq_true rfl) (fun l D A => c_X13_hash l D A e630) ?_
                                  exact (wB_L_law_633 X hQ hZm hSm _ hm18 hr18 (by omega) (by omega) h)
                                · replace h := (if_neg q15).symm.trans h
                                  by_cases q16 : sk0 = (16 : Int32)
                                  · replace h := (if_pos q16).symm.trans h
                                    refine ww_tableIn 33 638 X dL_law_33 (off := 605) (by rw [q16]; decide) (by rw [q16]; decide) (by rw [q16]; decide) (by decide) ?_
                                    obtain ⟨v643, e643, h⟩ := bO_some h
                                    obtain ⟨v648, e648, h⟩ := bO_some h
                                    obtain ⟨v653, e653, h⟩ := bO_some h
                                    obtain ⟨_, f654, h⟩ := bO_some h
                                    obtain ⟨v654, M654, e654, h⟩ := bP_some h
                                    obtain ⟨v662, e662, h⟩ := bO_some h
                                    obtain ⟨v667, e667, h⟩ := bO_some h
                                    obtain ⟨v672, e672, h⟩ := bO_some h
                                    obtain ⟨_, f673, h⟩ := bO_some h
                                    obtain ⟨v673, M673, e673, h⟩ := bP_some h
                                    have q := mB_L_law_676 _ hm18 h
                                    refine ww_aload_n 638 X dL_law_638 1 rfl rfl ?_
                                    refine ww_aload_n 639 X dL_law_639 0 rfl rfl ?_
                                    refine ww_iload_n 640 X dL_law_640 3 rfl rfl ?_
                                    refine ww_iconst 641 X (v := (1 : Int32)) dL_law_641 (by decide) ?_
                                    refine ww_iadd 642 X dL_law_642 ?_
                                    refine ww_iald 643 X dL_law_643 e643 ?_
                                    refine ww_aload_n 644 X dL_law_644 0 rfl rfl ?_
                                    refine ww_iload_n 645 X dL_law_645 3 rfl rfl ?_
                                    refine ww_iconst 646 X (v := (2 : Int32)) dL_law_646 (by decide) ?_
                                    refine ww_iadd 647 X dL_law_647 ?_
                                    refine ww_iald 648 X dL_law_648 e648 ?_
                                    refine ww_aload_n 649 X dL_law_649 0 rfl rfl ?_
                                    refine ww_iload_n 650 X dL_law_650 3 rfl rfl ?_
                                    refine ww_iconst 651 X (v := (3 : Int32)) dL_law_651 (by decide) ?_
                                    refine ww_iadd 652 X dL_law_652 ?_
                                    refine ww_iald 653 X dL_law_653 e653 ?_
                                    refine ww_callVIz 654 X (sz := sz) (sl := sl) (z0 := z0) (s0 := s0) dL_law_654 mY_X11_code mL_L_81 (rcv_spec f654) ⟨_, _, rfl⟩ (by decide) (As := [.int v643, .int v648, .int v653]) (rest := []) rfl rfl ⟨Nat.le_of_ble_eq_true rfl, Nat.le_of_ble_eq_true rfl⟩ (by show _ ≤ 600000; omega) (by show _ ≤ 7302250; omega) (Nat.le_of_ble_eq_true rfl) (fun l D A => c_X11_code l D A e654) ?_
                                    refine ww_aload_n 657 X dL_law_657 2 rfl rfl ?_
                                    refine ww_aload_n 658 X dL_law_658 0 rfl rfl ?_
                                    refine ww_iload_n 659 X dL_law_659 3 rfl rfl ?_
                                    refine ww_iconst 660 X (v := (1 : Int32)) dL_law_660 (by decide) ?_
                                    refine ww_iadd 661 X dL_law_661 ?_
                                    refine ww_iald 662 X dL_law_662 e662 ?_
                                    refine ww_aload_n 663 X dL_law_663 0 rfl rfl ?_
                                    refine ww_iload_n 664 X dL_law_664 3 rfl rfl ?_
                                    refine ww_iconst 665 X (v := (2 : Int32)) dL_law_665 (by decide) ?_
                                    refine ww_iadd 666 X dL_law_666 ?_
                                    refine ww_iald 667 X dL_law_667 e667 ?_
                                    refine ww_aload_n 668 X dL_law_668 0 rfl rfl ?_
                                    refine ww_iload_n 669 X dL_law_669 3 rfl rfl ?_
                                    refine ww_iconst 670 X (v := (3 : Int32)) dL_law_670 (by decide) ?_
                                    refine ww_iadd 671 X dL_law_671 ?_
                                    refine ww_iald 672 X dL_law_672 e672 ?_
                                    refine ww_callVIz 673 X (sz := sz) (sl := sl) (z0 := z0) (s0 := s0) dL_law_673 mY_X13_code mL_L_84 (rcv_spec f673) ⟨_, _, rfl⟩ (by decide) (As := [.int v662, .int v667, .int v672]) (rest := [.int v654]) rfl rfl ⟨Nat.le_of_ble_eq_true rfl, Nat.le_of_ble_eq_true rfl⟩ (by show _ ≤ 600000; omega) (by show _ ≤ 7302250; omega) (Nat.le_of_ble_eq_true rfl) (fun l D A => c_X13_code l D A e673) ?_
                                    exact (wB_L_law_676 X hQ hZm hSm _ hm18 hr18 (by omega) (by omega) h)
                                  · replace h := (if_neg q16).symm.trans h
                                    by_cases q17 : sk0 = (17 : Int32)
                                    · replace h := (if_pos q17).symm.trans h
                                      refine ww_tableIn 33 681 X dL_law_33 (off := 648) (by rw [q17]; decide) (by rw [q17]; decide) (by rw [q17]; decide) (by decide) ?_
                                      obtain ⟨v686, e686, h⟩ := bO_some h
                                      obtain ⟨v691, e691, h⟩ := bO_some h
                                      obtain ⟨v696, e696, h⟩ := bO_some h
                                      have q := mB_L_law_697 _ hm18 h
                                      refine ww_aload_n 681 X dL_law_681 1 rfl rfl ?_
                                      refine ww_aload_n 682 X dL_law_682 0 rfl rfl ?_
                                      refine ww_iload_n 683 X dL_law_683 3 rfl rfl ?_
                                      refine ww_iconst 684 X (v := (1 : Int32)) dL_law_684 (by decide) ?_
                                      refine ww_iadd 685 X dL_law_685 ?_
                                      refine ww_iald 686 X dL_law_686 e686 ?_
                                      refine ww_aload_n 687 X dL_law_687 0 rfl rfl ?_
                                      refine ww_iload_n 688 X dL_law_688 3 rfl rfl ?_
                                      refine ww_iconst 689 X (v := (2 : Int32)) dL_law_689 (by decide) ?_
                                      refine ww_iadd 690 X dL_law_690 ?_
                                      refine ww_iald 691 X dL_law_691 e691 ?_
                                      refine ww_aload_n 692 X dL_law_692 0 rfl rfl ?_
                                      refine ww_iload_n 693 X dL_law_693 3 rfl rfl ?_
                                      refine ww_iconst 694 X (v := (3 : Int32)) dL_law_694 (by decide) ?_
                                      refine ww_iadd 695 X dL_law_695 ?_
                                      refine ww_iald 696 X dL_law_696 e696 ?_
                                      exact (wB_L_law_697 X hQ hZm hSm _ hm18 hr18 (by omega) (by omega) h)
                                    · replace h := (if_neg q17).symm.trans h
                                      by_cases q18 : sk0 = (18 : Int32)
                                      · replace h := (if_pos q18).symm.trans h
                                        refine ww_tableIn 33 740 X dL_law_33 (off := 707) (by rw [q18]; decide) (by rw [q18]; decide) (by rw [q18]; decide) (by decide) ?_
                                        obtain ⟨v745, e745, h⟩ := bO_some h
                                        obtain ⟨v750, e750, h⟩ := bO_some h
                                        obtain ⟨_, f751, h⟩ := bO_some h
                                        obtain ⟨v751, M751, e751, h⟩ := bP_some h
                                        obtain ⟨v759, e759, h⟩ := bO_some h
                                        obtain ⟨v764, e764, h⟩ := bO_some h
                                        obtain ⟨_, f765, h⟩ := bO_some h
                                        obtain ⟨v765, M765, e765, h⟩ := bP_some h
                                        have q := mB_L_law_768 _ hm18 h
                                        refine ww_aload_n 740 X dL_law_740 1 rfl rfl ?_
                                        refine ww_aload_n 741 X dL_law_741 0 rfl rfl ?_
                                        refine ww_iload_n 742 X dL_law_742 3 rfl rfl ?_
                                        refine ww_iconst 743 X (v := (1 : Int32)) dL_law_743 (by decide) ?_
                                        refine ww_iadd 744 X dL_law_744 ?_
                                        refine ww_iald 745 X dL_law_745 e745 ?_
                                        refine ww_aload_n 746 X dL_law_746 0 rfl rfl ?_
                                        refine ww_iload_n 747 X dL_law_747 3 rfl rfl ?_
                                        refine ww_iconst 748 X (v := (2 : Int32)) dL_law_748 (by decide) ?_
                                        refine ww_iadd 749 X dL_law_749 ?_
                                        refine ww_iald 750 X dL_law_750 e750 ?_
                                        refine ww_callVIz 751 X (sz := sz) (sl := sl) (z0 := z0) (s0 := s0) dL_law_751 mY_X11_wrap mL_L_90 (rcv_spec f751) ⟨_, _, rfl⟩ (by decide) (As := [.int v745, .int v750]) (rest := []) rfl rfl ⟨Nat.le_of_ble_eq_true rfl, Nat.le_of_ble_eq_true rfl⟩ (by show _ ≤ 600000; omega) (by show _ ≤ 7302250; omega) (Nat.le_of_ble_eq_true rfl) (fun l D A => c_X11_wrap l D A e751) ?_
                                        refine ww_aload_n 754 X dL_law_754 2 rfl rfl ?_
                                        refine ww_aload_n 755 X dL_law_755 0 rfl rfl ?_
                                        refine ww_iload_n 756 X dL_law_756 3 rfl rfl ?_
                                        refine ww_iconst 757 X (v := (1 : Int32)) dL_law_757 (by decide) ?_
                                        refine ww_iadd 758 X dL_law_758 ?_
                                        refine ww_iald 759 X dL_law_759 e759 ?_
                                        refine ww_aload_n 760 X dL_law_760 0 rfl rfl ?_
                                        refine ww_iload_n 761 X dL_law_761 3 rfl rfl ?_
                                        refine ww_iconst 762 X (v := (2 : Int32)) dL_law_762 (by decide) ?_
                                        refine ww_iadd 763 X dL_law_763 ?_
                                        refine ww_iald 764 X dL_law_764 e764 ?_
                                        refine ww_callVIz 765 X (sz := sz) (sl := sl) (z0 := z0) (s0 := s0) dL_law_765 mY_X13_wrap mL_L_93 (rcv_spec f765) ⟨_, _, rfl⟩ (by decide) (As := [.int v759, .int v764]) (rest := [.int v751]) rfl rfl ⟨Nat.le_of_ble_eq_true rfl, Nat.le_of_ble_eq_true rfl⟩ (by show _ ≤ 600000; omega) (by show _ ≤ 7302250; omega) (Nat.le_of_ble_eq_true rfl) (fun l D A => c_X13_wrap l D A e765) ?_
                                        exact (wB_L_law_768 X hQ hZm hSm _ hm18 hr18 (by omega) (by omega) h)
                                      · replace h := (if_neg q18).symm.trans h
                                        by_cases q19 : sk0 = (19 : Int32)
                                        · replace h := (if_pos q19).symm.trans h
                                          refine ww_tableIn 33 773 X dL_law_33 (off := 740) (by rw [q19]; decide) (by rw [q19]; decide) (by rw [q19]; decide) (by decide) ?_
                                          obtain ⟨v778, e778, h⟩ := bO_some h
                                          obtain ⟨v783, e783, h⟩ := bO_some h
                                          obtain ⟨_, f784, h⟩ := bO_some h
                                          obtain ⟨v784, M784, e784, h⟩ := bP_some h
                                          obtain ⟨v792, e792, h⟩ := bO_some h
                                          obtain ⟨v797, e797, h⟩ := bO_some h
                                          obtain ⟨_, f798, h⟩ := bO_some h
                                          obtain ⟨v798, M798, e798, h⟩ := bP_some h
                                          have q := mB_L_law_801 _ hm18 h
                                          refine ww_aload_n 773 X dL_law_773 1 rfl rfl ?_
                                          refine ww_aload_n 774 X dL_law_774 0 rfl rfl ?_
                                          refine ww_iload_n 775 X dL_law_775 3 rfl rfl ?_
                                          refine ww_iconst 776 X (v := (1 : Int32)) dL_law_776 (by decide) ?_
                                          refine ww_iadd 777 X dL_law_777 ?_
                                          refine ww_iald 778 X dL_law_778 e778 ?_
                                          refine ww_aload_n 779 X dL_law_779 0 rfl rfl ?_
                                          refine ww_iload_n 780 X dL_law_780 3 rfl rfl ?_
                                          refine ww_iconst 781 X (v := (2 : Int32)) dL_law_781 (by decide) ?_
                                          refine ww_iadd 782 X dL_law_782 ?_
                                          refine ww_iald 783 X dL_law_783 e783 ?_
                                          refine ww_callVIz 784 X (sz := sz) (sl := sl) (z0 := z0) (s0 := s0) dL_law_784 mY_X11_unwrap mL_L_94 (rcv_spec f784) ⟨_, _, rfl⟩ (by decide) (As := [.int v778, .int v783]) (rest := []) rfl rfl ⟨Nat.le_of_ble_eq_true rfl, Nat.le_of_ble_eq_true rfl⟩ (by show _ ≤ 600000; omega) (by show _ ≤ 7302250; omega) (Nat.le_of_ble_eq_true rfl) (fun l D A => c_X11_unwrap l D A e784) ?_
                                          refine ww_aload_n 787 X dL_law_787 2 rfl rfl ?_
                                          refine ww_aload_n 788 X dL_law_788 0 rfl rfl ?_
                                          refine ww_iload_n 789 X dL_law_789 3 rfl rfl ?_
                                          refine ww_iconst 790 X (v := (1 : Int32)) dL_law_790 (by decide) ?_
                                          refine ww_iadd 791 X dL_law_791 ?_
                                          refine ww_iald 792 X dL_law_792 e792 ?_
                                          refine ww_aload_n 793 X dL_law_793 0 rfl rfl ?_
                                          refine ww_iload_n 794 X dL_law_794 3 rfl rfl ?_
                                          refine ww_iconst 795 X (v := (2 : Int32)) dL_law_795 (by decide) ?_
                                          refine ww_iadd 796 X dL_law_796 ?_
                                          refine ww_iald 797 X dL_law_797 e797 ?_
                                          refine ww_callVIz 798 X (sz := sz) (sl := sl) (z0 := z0) (s0 := s0) dL_law_798 mY_X13_unwrap mL_L_97 (rcv_spec f798) ⟨_, _, rfl⟩ (by decide) (As := [.int v792, .int v797]) (rest := [.int v784]) rfl rfl ⟨Nat.le_of_ble_eq_true rfl, Nat.le_of_ble_eq_true rfl⟩ (by show _ ≤ 600000; omega) (by show _ ≤ 7302250; omega) (Nat.le_of_ble_eq_true rfl) (fun l D A => c_X13_unwrap l D A e798) ?_
                                          exact (wB_L_law_801 X hQ hZm hSm _ hm18 hr18 (by omega) (by omega) h)
                                        · replace h := (if_neg q19).symm.trans h
                                          by_cases q20 : sk0 = (20 : Int32)
                                          · replace h := (if_pos q20).symm.trans h
                                            refine ww_tableIn 33 806 X dL_law_33 (off := 773) (by rw [q20]; decide) (by rw [q20]; decide) (by rw [q20]; decide) (by decide) ?_
                                            obtain ⟨v811, e811, h⟩ := bO_some h
                                            obtain ⟨v816, e816, h⟩ := bO_some h
                                            obtain ⟨v821, e821, h⟩ := bO_some h
                                            obtain ⟨v826, e826, h⟩ := bO_some h
                                            obtain ⟨v831, e831, h⟩ := bO_some h
                                            obtain ⟨_, f832, h⟩ := bO_some h
                                            obtain ⟨v832, M832, e832, h⟩ := bP_some h
                                            obtain ⟨v840, e840, h⟩ := bO_some h
                                            obtain ⟨v845, e845, h⟩ := bO_some h
                                            obtain ⟨v850, e850, h⟩ := bO_some h
                                            obtain ⟨v855, e855, h⟩ := bO_some h
                                            obtain ⟨v860, e860, h⟩ := bO_some h
                                            obtain ⟨_, f861, h⟩ := bO_some h
                                            obtain ⟨v861, M861, e861, h⟩ := bP_some h
                                            have q := mB_L_law_864 _ hm18 h
                                            refine ww_aload_n 806 X dL_law_806 1 rfl rfl ?_
                                            refine ww_aload_n 807 X dL_law_807 0 rfl rfl ?_
                                            refine ww_iload_n 808 X dL_law_808 3 rfl rfl ?_
                                            refine ww_iconst 809 X (v := (1 : Int32)) dL_law_809 (by decide) ?_
                                            refine ww_iadd 810 X dL_law_810 ?_
                                            refine ww_iald 811 X dL_law_811 e811 ?_
                                            refine ww_aload_n 812 X dL_law_812 0 rfl rfl ?_
                                            refine ww_iload_n 813 X dL_law_813 3 rfl rfl ?_
                                            refine ww_iconst 814 X (v := (2 : Int32)) dL_law_814 (by decide) ?_
                                            refine ww_iadd 815 X dL_law_815 ?_
                                            refine ww_iald 816 X dL_law_816 e816 ?_
                                            refine ww_aload_n 817 X dL_law_817 0 rfl rfl ?_
                                            refine ww_iload_n 818 X dL_law_818 3 rfl rfl ?_
                                            refine ww_iconst 819 X (v := (3 : Int32)) dL_law_819 (by decide) ?_
                                            refine ww_iadd 820 X dL_law_820 ?_
                                            refine ww_iald 821 X dL_law_821 e821 ?_
                                            refine ww_aload_n 822 X dL_law_822 0 rfl rfl ?_
                                            refine ww_iload_n 823 X dL_law_823 3 rfl rfl ?_
                                            refine ww_iconst 824 X (v := (4 : Int32)) dL_law_824 (by decide) ?_
                                            refine ww_iadd 825 X dL_law_825 ?_
                                            refine ww_iald 826 X dL_law_826 e826 ?_
                                            refine ww_aload_n 827 X dL_law_827 0 rfl rfl ?_
                                            refine ww_iload_n 828 X dL_law_828 3 rfl rfl ?_
                                            refine ww_iconst 829 X (v := (5 : Int32)) dL_law_829 (by decide) ?_
                                            refine ww_iadd 830 X dL_law_830 ?_
                                            refine ww_iald 831 X dL_law_831 e831 ?_
                                            refine ww_callVIz 832 X (sz := sz) (sl := sl) (z0 := z0) (s0 := s0) dL_law_832 mY_X11_seal mL_L_98 (rcv_spec f832) ⟨_, _, rfl⟩ (by decide) (As := [.int v811, .int v816, .int v821, .int v826, .int v831]) (rest := []) rfl rfl ⟨Nat.le_of_ble_eq_true rfl, Nat.le_of_ble_eq_true rfl⟩ (by show _ ≤ 600000; omega) (by show _ ≤ 7302250; omega) (Nat.le_of_ble_eq_true rfl) (fun l D A => c_X11_seal l D A e832) ?_
                                            refine ww_aload_n 835 X dL_law_835 2 rfl rfl ?_
                                            refine ww_aload_n 836 X dL_law_836 0 rfl rfl ?_
                                            refine ww_iload_n 837 X dL_law_837 3 rfl rfl ?_
                                            refine ww_iconst 838 X (v := (1 : Int32)) dL_law_838 (by decide) ?_
                                            refine ww_iadd 839 X dL_law_839 ?_
                                            refine ww_iald 840 X dL_law_840 e840 ?_
                                            refine ww_aload_n 841 X dL_law_841 0 rfl rfl ?_
                                            refine ww_iload_n 842 X dL_law_842 3 rfl rfl ?_
                                            refine ww_iconst 843 X (v := (2 : Int32)) dL_law_843 (by decide) ?_
                                            refine ww_iadd 844 X dL_law_844 ?_
                                            refine ww_iald 845 X dL_law_845 e845 ?_
                                            refine ww_aload_n 846 X dL_law_846 0 rfl rfl ?_
                                            refine ww_iload_n 847 X dL_law_847 3 rfl rfl ?_
                                            refine ww_iconst 848 X (v := (3 : Int32)) dL_law_848 (by decide) ?_
                                            refine ww_iadd 849 X dL_law_849 ?_
                                            refine ww_iald 850 X dL_law_850 e850 ?_
                                            refine ww_aload_n 851 X dL_law_851 0 rfl rfl ?_
                                            refine ww_iload_n 852 X dL_law_852 3 rfl rfl ?_
                                            refine ww_iconst 853 X (v := (4 : Int32)) dL_law_853 (by decide) ?_
                                            refine ww_iadd 854 X dL_law_854 ?_
                                            refine ww_iald 855 X dL_law_855 e855 ?_
                                            refine ww_aload_n 856 X dL_law_856 0 rfl rfl ?_
                                            refine ww_iload_n 857 X dL_law_857 3 rfl rfl ?_
                                            refine ww_iconst 858 X (v := (5 : Int32)) dL_law_858 (by decide) ?_
                                            refine ww_iadd 859 X dL_law_859 ?_
                                            refine ww_iald 860 X dL_law_860 e860 ?_
                                            refine ww_callVIz 861 X (sz := sz) (sl := sl) (z0 := z0) (s0 := s0) dL_law_861 mY_X13_seal mL_L_101 (rcv_spec f861) ⟨_, _, rfl⟩ (by decide) (As := [.int v840, .int v845, .int v850, .int v855, .int v860]) (rest := [.int v832]) rfl rfl ⟨Nat.le_of_ble_eq_true rfl, Nat.le_of_ble_eq_true rfl⟩ (by show _ ≤ 600000; omega) (by show _ ≤ 7302250; omega) (Nat.le_of_ble_eq_true rfl) (fun l D A => c_X13_seal l D A e861) ?_
                                            exact (wB_L_law_864 X hQ hZm hSm _ hm18 hr18 (by omega) (by omega) h)
                                          · replace h := (if_neg q20).symm.trans h
                                            by_cases q21 : sk0 = (21 : Int32)
                                            · replace h := (if_pos q21).symm.trans h
                                              refine ww_tableIn 33 869 X dL_law_33 (off := 836) (by rw [q21]; decide) (by rw [q21]; decide) (by rw [q21]; decide) (by decide) ?_
                                              obtain ⟨v874, e874, h⟩ := bO_some h
                                              obtain ⟨v879, e879, h⟩ := bO_some h
                                              obtain ⟨v884, e884, h⟩ := bO_some h
                                              obtain ⟨v889, e889, h⟩ := bO_some h
                                              obtain ⟨v894, e894, h⟩ := bO_some h
                                              obtain ⟨_, f895, h⟩ := bO_some h
                                              obtain ⟨v895, M895, e895, h⟩ := bP_some h
                                              obtain ⟨v903, e903, h⟩ := bO_some h
                                              obtain ⟨v908, e908, h⟩ := bO_some h
                                              obtain ⟨v913, e913, h⟩ := bO_some h
                                              obtain ⟨v918, e918, h⟩ := bO_some h
                                              obtain ⟨v923, e923, h⟩ := bO_some h
                                              obtain ⟨_, f924, h⟩ := bO_some h
                                              obtain ⟨v924, M924, e924, h⟩ := bP_some h
                                              have q := mB_L_law_927 _ hm18 h
                                              refine ww_aload_n 869 X dL_law_869 1 rfl rfl ?_
                                              refine ww_aload_n 870 X dL_law_870 0 rfl rfl ?_
                                              refine ww_iload_n 871 X dL_law_871 3 rfl rfl ?_
                                              refine ww_iconst 872 X (v := (1 : Int32)) dL_law_872 (by decide) ?_
                                              refine ww_iadd 873 X dL_law_873 ?_
                                              refine ww_iald 874 X dL_law_874 e874 ?_
                                              refine ww_aload_n 875 X dL_law_875 0 rfl rfl ?_
                                              refine ww_iload_n 876 X dL_law_876 3 rfl rfl ?_
                                              refine ww_iconst 877 X (v := (2 : Int32)) dL_law_877 (by decide) ?_
                                              refine ww_iadd 878 X dL_law_878 ?_
                                              refine ww_iald 879 X dL_law_879 e879 ?_
                                              refine ww_aload_n 880 X dL_law_880 0 rfl rfl ?_
                                              refine ww_iload_n 881 X dL_law_881 3 rfl rfl ?_
                                              refine ww_iconst 882 X (v := (3 : Int32)) dL_law_882 (by decide) ?_
                                              refine ww_iadd 883 X dL_law_883 ?_
                                              refine ww_iald 884 X dL_law_884 e884 ?_
                                              refine ww_aload_n 885 X dL_law_885 0 rfl rfl ?_
                                              refine ww_iload_n 886 X dL_law_886 3 rfl rfl ?_
                                              refine ww_iconst 887 X (v := (4 : Int32)) dL_law_887 (by decide) ?_
                                              refine ww_iadd 888 X dL_law_888 ?_
                                              refine ww_iald 889 X dL_law_889 e889 ?_
                                              refine ww_aload_n 890 X dL_law_890 0 rfl rfl ?_
                                              refine ww_iload_n 891 X dL_law_891 3 rfl rfl ?_
                                              refine ww_iconst 892 X (v := (5 : Int32)) dL_law_892 (by decide) ?_
                                              refine ww_iadd 893 X dL_law_893 ?_
                                              refine ww_iald 894 X dL_law_894 e894 ?_
                                              refine ww_callVIz 895 X (sz := sz) (sl := sl) (z0 := z0) (s0 := s0) dL_law_895 mY_X11_open mL_L_102 (rcv_spec f895) ⟨_, _, rfl⟩ (by decide) (As := [.int v874, .int v879, .int v884, .int v889, .int v894]) (rest := []) rfl rfl ⟨Nat.le_of_ble_eq_true rfl, Nat.le_of_ble_eq_true rfl⟩ (by show _ ≤ 600000; omega) (by show _ ≤ 7302250; omega) (Nat.le_of_ble_eq_true rfl) (fun l D A => c_X11_open l D A e895) ?_
                                              refine ww_aload_n 898 X dL_law_898 2 rfl rfl ?_
                                              refine ww_aload_n 899 X dL_law_899 0 rfl rfl ?_
                                              refine ww_iload_n 900 X dL_law_900 3 rfl rfl ?_
                                              refine ww_iconst 901 X (v := (1 : Int32)) dL_law_901 (by decide) ?_
                                              refine ww_iadd 902 X dL_law_902 ?_
                                              refine ww_iald 903 X dL_law_903 e903 ?_
                                              refine ww_aload_n 904 X dL_law_904 0 rfl rfl ?_
                                              refine ww_iload_n 905 X dL_law_905 3 rfl rfl ?_
                                              refine ww_iconst 906 X (v := (2 : Int32)) dL_law_906 (by decide) ?_
                                              refine ww_iadd 907 X dL_law_907 ?_
                                              refine ww_iald 908 X dL_law_908 e908 ?_
                                              refine ww_aload_n 909 X dL_law_909 0 rfl rfl ?_
                                              refine ww_iload_n 910 X dL_law_910 3 rfl rfl ?_
                                              refine ww_iconst 911 X (v := (3 : Int32)) dL_law_911 (by decide) ?_
                                              refine ww_iadd 912 X dL_law_912 ?_
                                              refine ww_iald 913 X dL_law_913 e913 ?_
                                              refine ww_aload_n 914 X dL_law_914 0 rfl rfl ?_
                                              refine ww_iload_n 915 X dL_law_915 3 rfl rfl ?_
                                              refine ww_iconst 916 X (v := (4 : Int32)) dL_law_916 (by decide) ?_
                                              refine ww_iadd 917 X dL_law_917 ?_
                                              refine ww_iald 918 X dL_law_918 e918 ?_
                                              refine ww_aload_n 919 X dL_law_919 0 rfl rfl ?_
                                              refine ww_iload_n 920 X dL_law_920 3 rfl rfl ?_
                                              refine ww_iconst 921 X (v := (5 : Int32)) dL_law_921 (by decide) ?_
                                              refine ww_iadd 922 X dL_law_922 ?_
                                              refine ww_iald 923 X dL_law_923 e923 ?_
                                              refine ww_callVIz 924 X (sz := sz) (sl := sl) (z0 := z0) (s0 := s0) dL_law_924 mY_X13_open mL_L_105 (rcv_spec f924) ⟨_, _, rfl⟩ (by decide) (As := [.int v903, .int v908, .int v913, .int v918, .int v923]) (rest := [.int v895]) rfl rfl ⟨Nat.le_of_ble_eq_true rfl, Nat.le_of_ble_eq_true rfl⟩ (by show _ ≤ 600000; omega) (by show _ ≤ 7302250; omega) (Nat.le_of_ble_eq_true rfl) (fun l D A => c_X13_open l D A e924) ?_
                                              exact (wB_L_law_927 X hQ hZm hSm _ hm18 hr18 (by omega) (by omega) h)
                                            · replace h := (if_neg q21).symm.trans h
                                              by_cases q22 : sk0 = (22 : Int32)
                                              · replace h := (if_pos q22).symm.trans h
                                                refine ww_tableIn 33 932 X dL_law_33 (off := 899) (by rw [q22]; decide) (by rw [q22]; decide) (by rw [q22]; decide) (by decide) ?_
                                                obtain ⟨v937, e937, h⟩ := bO_some h
                                                obtain ⟨v942, e942, h⟩ := bO_some h
                                                obtain ⟨v947, e947, h⟩ := bO_some h
                                                obtain ⟨_, f948, h⟩ := bO_some h
                                                obtain ⟨v948, M948, e948, h⟩ := bP_some h
                                                obtain ⟨v956, e956, h⟩ := bO_some h
                                                obtain ⟨v961, e961, h⟩ := bO_some h
                                                obtain ⟨v966, e966, h⟩ := bO_some h
                                                obtain ⟨_, f967, h⟩ := bO_some h
                                                obtain ⟨v967, M967, e967, h⟩ := bP_some h
                                                have q := mB_L_law_970 _ hm18 h
                                                refine ww_aload_n 932 X dL_law_932 1 rfl rfl ?_
                                                refine ww_aload_n 933 X dL_law_933 0 rfl rfl ?_
                                                refine ww_iload_n 934 X dL_law_934 3 rfl rfl ?_
                                                refine ww_iconst 935 X (v := (1 : Int32)) dL_law_935 (by decide) ?_
                                                refine ww_iadd 936 X dL_law_936 ?_
                                                refine ww_iald 937 X dL_law_937 e937 ?_
                                                refine ww_aload_n 938 X dL_law_938 0 rfl rfl ?_
                                                refine ww_iload_n 939 X dL_law_939 3 rfl rfl ?_
                                                refine ww_iconst 940 X (v := (2 : Int32)) dL_law_940 (by decide) ?_
                                                refine ww_iadd 941 X dL_law_941 ?_
                                                refine ww_iald 942 X dL_law_942 e942 ?_
                                                refine ww_aload_n 943 X dL_law_943 0 rfl rfl ?_
                                                refine ww_iload_n 944 X dL_law_944 3 rfl rfl ?_
                                                refine ww_iconst 945 X (v := (3 : Int32)) dL_law_945 (by decide) ?_
                                                refine ww_iadd 946 X dL_law_946 ?_
                                                refine ww_iald 947 X dL_law_947 e947 ?_
                                                refine ww_callVIz 948 X (sz := sz) (sl := sl) (z0 := z0) (s0 := s0) dL_law_948 mY_X11_power mL_L_106 (rcv_spec f948) ⟨_, _, rfl⟩ (by decide) (As := [.int v937, .int v942, .int v947]) (rest := []) rfl rfl ⟨Nat.le_of_ble_eq_true rfl, Nat.le_of_ble_eq_true rfl⟩ (by show _ ≤ 600000; omega) (by show _ ≤ 7302250; omega) (Nat.le_of_ble_eq_true rfl) (fun l D A => c_X11_power l D A e948) ?_
                                                refine ww_aload_n 951 X dL_law_951 2 rfl rfl ?_
                                                refine ww_aload_n 952 X dL_law_952 0 rfl rfl ?_
                                                refine ww_iload_n 953 X dL_law_953 3 rfl rfl ?_
                                                refine ww_iconst 954 X (v := (1 : Int32)) dL_law_954 (by decide) ?_
                                                refine ww_iadd 955 X dL_law_955 ?_
                                                refine ww_iald 956 X dL_law_956 e956 ?_
                                                refine ww_aload_n 957 X dL_law_957 0 rfl rfl ?_
                                                refine ww_iload_n 958 X dL_law_958 3 rfl rfl ?_
                                                refine ww_iconst 959 X (v := (2 : Int32)) dL_law_959 (by decide) ?_
                                                refine ww_iadd 960 X dL_law_960 ?_
                                                refine ww_iald 961 X dL_law_961 e961 ?_
                                                refine ww_aload_n 962 X dL_law_962 0 rfl rfl ?_
                                                refine ww_iload_n 963 X dL_law_963 3 rfl rfl ?_
                                                refine ww_iconst 964 X (v := (3 : Int32)) dL_law_964 (by decide) ?_
                                                refine ww_iadd 965 X dL_law_965 ?_
                                                refine ww_iald 966 X dL_law_966 e966 ?_
                                                refine ww_callVIz 967 X (sz := sz) (sl := sl) (z0 := z0) (s0 := s0) dL_law_967 mY_X13_power mL_L_109 (rcv_spec f967) ⟨_, _, rfl⟩ (by decide) (As := [.int v956, .int v961, .int v966]) (rest := [.int v948]) rfl rfl ⟨Nat.le_of_ble_eq_true rfl, Nat.le_of_ble_eq_true rfl⟩ (by show _ ≤ 600000; omega) (by show _ ≤ 7302250; omega) (Nat.le_of_ble_eq_true rfl) (fun l D A => c_X13_power l D A e967) ?_
                                                exact (wB_L_law_970 X hQ hZm hSm _ hm18 hr18 (by omega) (by omega) h)
                                              · replace h := (if_neg q22).symm.trans h
                                                by_cases q23 : sk0 = (23 : Int32)
                                                · replace h := (if_pos q23).symm.trans h
                                                  refine ww_tableIn 33 975 X dL_law_33 (off := 942) (by rw [q23]; decide) (by rw [q23]; decide) (by rw [q23]; decide) (by decide) ?_
                                                  obtain ⟨v980, e980, h⟩ := bO_some h
                                                  obtain ⟨v985, e985, h⟩ := bO_some h
                                                  obtain ⟨_, f986, h⟩ := bO_some h
                                                  obtain ⟨v986, M986, e986, h⟩ := bP_some h
                                                  obtain ⟨v994, e994, h⟩ := bO_some h
                                                  obtain ⟨v999, e999, h⟩ := bO_some h
                                                  obtain ⟨_, f1000, h⟩ := bO_some h
                                                  obtain ⟨v1000, M1000, e1000, h⟩ := bP_some h
                                                  have q := mB_L_law_1003 _ hm18 h
                                                  refine ww_aload_n 975 X dL_law_975 1 rfl rfl ?_
                                                  refine ww_aload_n 976 X dL_law_976 0 rfl rfl ?_
                                                  refine ww_iload_n 977 X dL_law_977 3 rfl rfl ?_
                                                  refine ww_iconst 978 X (v := (1 : Int32)) dL_law_978 (by decide) ?_
                                                  refine ww_iadd 979 X dL_law_979 ?_
                                                  refine ww_iald 980 X dL_law_980 e980 ?_
                                                  refine ww_aload_n 981 X dL_law_981 0 rfl rfl ?_
                                                  refine ww_iload_n 982 X dL_law_982 3 rfl rfl ?_
                                                  refine ww_iconst 983 X (v := (2 : Int32)) dL_law_983 (by decide) ?_
                                                  refine ww_iadd 984 X dL_law_984 ?_
                                                  refine ww_iald 985 X dL_law_985 e985 ?_
                                                  refine ww_callVIz 986 X (sz := sz) (sl := sl) (z0 := z0) (s0 := s0) dL_law_986 mY_X11_multiply mL_L_110 (rcv_spec f986) ⟨_, _, rfl⟩ (by decide) (As := [.int v980, .int v985]) (rest := []) rfl rfl ⟨Nat.le_of_ble_eq_true rfl, Nat.le_of_ble_eq_true rfl⟩ (by show _ ≤ 600000; omega) (by show _ ≤ 7302250; omega) (Nat.le_of_ble_eq_true rfl) (fun l D A => c_X11_multiply l D A e986) ?_
                                                  refine ww_aload_n 989 X dL_law_989 2 rfl rfl ?_
                                                  refine ww_aload_n 990 X dL_law_990 0 rfl rfl ?_
                                                  refine ww_iload_n 991 X dL_law_991 3 rfl rfl ?_
                                                  refine ww_iconst 992 X (v := (1 : Int32)) dL_law_992 (by decide) ?_
                                                  refine ww_iadd 993 X dL_law_993 ?_
                                                  refine ww_iald 994 X dL_law_994 e994 ?_
                                                  refine ww_aload_n 995 X dL_law_995 0 rfl rfl ?_
                                                  refine ww_iload_n 996 X dL_law_996 3 rfl rfl ?_
                                                  refine ww_iconst 997 X (v := (2 : Int32)) dL_law_997 (by decide) ?_
                                                  refine ww_iadd 998 X dL_law_998 ?_
                                                  refine ww_iald 999 X dL_law_999 e999 ?_
                                                  refine ww_callVIz 1000 X (sz := sz) (sl := sl) (z0 := z0) (s0 := s0) dL_law_1000 mY_X13_multiply mL_L_113 (rcv_spec f1000) ⟨_, _, rfl⟩ (by decide) (As := [.int v994, .int v999]) (rest := [.int v986]) rfl rfl ⟨Nat.le_of_ble_eq_true rfl, Nat.le_of_ble_eq_true rfl⟩ (by show _ ≤ 600000; omega) (by show _ ≤ 7302250; omega) (Nat.le_of_ble_eq_true rfl) (fun l D A => c_X13_multiply l D A e1000) ?_
                                                  exact (wB_L_law_1003 X hQ hZm hSm _ hm18 hr18 (by omega) (by omega) h)
                                                · replace h := (if_neg q23).symm.trans h
                                                  by_cases q24 : sk0 = (24 : Int32)
                                                  · replace h := (if_pos q24).symm.trans h
                                                    refine ww_tableIn 33 1008 X dL_law_33 (off := 975) (by rw [q24]; decide) (by rw [q24]; decide) (by rw [q24]; decide) (by decide) ?_
                                                    obtain ⟨v1013, e1013, h⟩ := bO_some h
                                                    obtain ⟨v1018, e1018, h⟩ := bO_some h
                                                    obtain ⟨v1023, e1023, h⟩ := bO_some h
                                                    obtain ⟨v1028, e1028, h⟩ := bO_some h
                                                    obtain ⟨v1033, e1033, h⟩ := bO_some h
                                                    obtain ⟨_, f1034, h⟩ := bO_some h
                                                    obtain ⟨v1034, M1034, e1034, h⟩ := bP_some h
                                                    obtain ⟨v1042, e1042, h⟩ := bO_some h
                                                    obtain ⟨v1047, e1047, h⟩ := bO_some h
                                                    obtain ⟨v1052, e1052, h⟩ := bO_some h
                                                    obtain ⟨v1057, e1057, h⟩ := bO_some h
                                                    obtain ⟨v1062, e1062, h⟩ := bO_some h
                                                    obtain ⟨_, f1063, h⟩ := bO_some h
                                                    obtain ⟨v1063, M1063, e1063, h⟩ := bP_some h
                                                    have q := mB_L_law_1066 _ hm18 h
                                                    refine ww_aload_n 1008 X dL_law_1008 1 rfl rfl ?_
                                                    refine ww_aload_n 1009 X dL_law_1009 0 rfl rfl ?_
                                                    refine ww_iload_n 1010 X dL_law_1010 3 rfl rfl ?_
                                                    refine ww_iconst 1011 X (v := (1 : Int32)) dL_law_1011 (by decide) ?_
                                                    refine ww_iadd 1012 X dL_law_1012 ?_
                                                    refine ww_iald 1013 X dL_law_1013 e1013 ?_
                                                    refine ww_aload_n 1014 X dL_law_1014 0 rfl rfl ?_
                                                    refine ww_iload_n 1015 X dL_law_1015 3 rfl rfl ?_
                                                    refine ww_iconst 1016 X (v := (2 : Int32)) dL_law_1016 (by decide) ?_
                                                    refine ww_iadd 1017 X dL_law_1017 ?_
                                                    refine ww_iald 1018 X dL_law_1018 e1018 ?_
                                                    refine ww_aload_n 1019 X dL_law_1019 0 rfl rfl ?_
                                                    refine ww_iload_n 1020 X dL_law_1020 3 rfl rfl ?_
                                                    refine ww_iconst 1021 X (v := (3 : Int32)) dL_law_1021 (by decide) ?_
                                                    refine ww_iadd 1022 X dL_law_1022 ?_
                                                    refine ww_iald 1023 X dL_law_1023 e1023 ?_
                                                    refine ww_aload_n 1024 X dL_law_1024 0 rfl rfl ?_
                                                    refine ww_iload_n 1025 X dL_law_1025 3 rfl rfl ?_
                                                    refine ww_iconst 1026 X (v := (4 : Int32)) dL_law_1026 (by decide) ?_
                                                    refine ww_iadd 1027 X dL_law_1027 ?_
                                                    refine ww_iald 1028 X dL_law_1028 e1028 ?_
                                                    refine ww_aload_n 1029 X dL_law_1029 0 rfl rfl ?_
                                                    refine ww_iload_n 1030 X dL_law_1030 3 rfl rfl ?_
                                                    refine ww_iconst 1031 X (v := (5 : Int32)) dL_law_1031 (by decide) ?_
                                                    refine ww_iadd 1032 X dL_law_1032 ?_
                                                    refine ww_iald 1033 X dL_law_1033 e1033 ?_
                                                    refine ww_callVIz 1034 X (sz := sz) (sl := sl) (z0 := z0) (s0 := s0) dL_law_1034 mY_X11_derive mL_L_114 (rcv_spec f1034) ⟨_, _, rfl⟩ (by decide) (As := [.int v1013, .int v1018, .int v1023, .int v1028, .int v1033]) (rest := []) rfl rfl ⟨Nat.le_of_ble_eq_true rfl, Nat.le_of_ble_eq_true rfl⟩ (by show _ ≤ 600000; omega) (by show _ ≤ 7302250; omega) (Nat.le_of_ble_eq_true rfl) (fun l D A => c_X11_derive l D A e1034) ?_
                                                    refine ww_aload_n 1037 X dL_law_1037 2 rfl rfl ?_
                                                    refine ww_aload_n 1038 X dL_law_1038 0 rfl rfl ?_
                                                    refine ww_iload_n 1039 X dL_law_1039 3 rfl rfl ?_
                                                    refine ww_iconst 1040 X (v := (1 : Int32)) dL_law_1040 (by decide) ?_
                                                    refine ww_iadd 1041 X dL_law_1041 ?_
                                                    refine ww_iald 1042 X dL_law_1042 e1042 ?_
                                                    refine ww_aload_n 1043 X dL_law_1043 0 rfl rfl ?_
                                                    refine ww_iload_n 1044 X dL_law_1044 3 rfl rfl ?_
                                                    refine ww_iconst 1045 X (v := (2 : Int32)) dL_law_1045 (by decide) ?_
                                                    refine ww_iadd 1046 X dL_law_1046 ?_
                                                    refine ww_iald 1047 X dL_law_1047 e1047 ?_
                                                    refine ww_aload_n 1048 X dL_law_1048 0 rfl rfl ?_
                                                    refine ww_iload_n 1049 X dL_law_1049 3 rfl rfl ?_
                                                    refine ww_iconst 1050 X (v := (3 : Int32)) dL_law_1050 (by decide) ?_
                                                    refine ww_iadd 1051 X dL_law_1051 ?_
                                                    refine ww_iald 1052 X dL_law_1052 e1052 ?_
                                                    refine ww_aload_n 1053 X dL_law_1053 0 rfl rfl ?_
                                                    refine ww_iload_n 1054 X dL_law_1054 3 rfl rfl ?_
                                                    refine ww_iconst 1055 X (v := (4 : Int32)) dL_law_1055 (by decide) ?_
                                                    refine ww_iadd 1056 X dL_law_1056 ?_
                                                    refine ww_iald 1057 X dL_law_1057 e1057 ?_
                                                    refine ww_aload_n 1058 X dL_law_1058 0 rfl rfl ?_
                                                    refine ww_iload_n 1059 X dL_law_1059 3 rfl rfl ?_
                                                    refine ww_iconst 1060 X (v := (5 : Int32)) dL_law_1060 (by decide) ?_
                                                    refine ww_iadd 1061 X dL_law_1061 ?_
                                                    refine ww_iald 1062 X dL_law_1062 e1062 ?_
                                                    refine ww_callVIz 1063 X (sz := sz) (sl := sl) (z0 := z0) (s0 := s0) dL_law_1063 mY_X13_derive mL_L_117 (rcv_spec f1063) ⟨_, _, rfl⟩ (by decide) (As := [.int v1042, .int v1047, .int v1052, .int v1057, .int v1062]) (rest := [.int v1034]) rfl rfl ⟨Nat.le_of_ble_eq_true rfl, Nat.le_of_ble_eq_true rfl⟩ (by show _ ≤ 600000; omega) (by show _ ≤ 7302250; omega) (Nat.le_of_ble_eq_true rfl) (fun l D A => c_X13_derive l D A e1063) ?_
                                                    exact (wB_L_law_1066 X hQ hZm hSm _ hm18 hr18 (by omega) (by omega) h)
                                                  · replace h := (if_neg q24).symm.trans h
                                                    by_cases q25 : sk0 = (25 : Int32)
                                                    · replace h := (if_pos q25).symm.trans h
                                                      refine ww_tableIn 33 1071 X dL_law_33 (off := 1038) (by rw [q25]; decide) (by rw [q25]; decide) (by rw [q25]; decide) (by decide) ?_
                                                      obtain ⟨v1076, e1076, h⟩ := bO_some h
                                                      obtain ⟨_, f1077, h⟩ := bO_some h
                                                      obtain ⟨v1077, M1077, z1077, k1077, e1077, h⟩ := bAP_some h
                                                      have g1077 := mP_X11_key e1077
                                                      obtain ⟨v1085, e1085, h⟩ := bO_some h
                                                      obtain ⟨_, f1086, h⟩ := bO_some h
                                                      obtain ⟨v1086, M1086, e1086, h⟩ := bP_some h
                                                      have q := mB_L_law_1089 _ hm18 h
                                                      refine ww_aload_n 1071 X dL_law_1071 1 rfl rfl ?_
                                                      refine ww_aload_n 1072 X dL_law_1072 0 rfl rfl ?_
                                                      refine ww_iload_n 1073 X dL_law_1073 3 rfl rfl ?_
                                                      refine ww_iconst 1074 X (v := (1 : Int32)) dL_law_1074 (by decide) ?_
                                                      refine ww_iadd 1075 X dL_law_1075 ?_
                                                      refine ww_iald 1076 X dL_law_1076 e1076 ?_
                                                      refine ww_callVIa 1077 X (sz := sz) (sl := sl) (z0 := z0) (s0 := s0) dL_law_1077 mY_X11_key mL_L_118 (rcv_spec f1077) ⟨_, _, rfl⟩ (by decide) (As := [.int v1076]) (rest := []) rfl rfl ⟨Nat.le_of_ble_eq_true rfl, Nat.le_of_ble_eq_true rfl⟩ (by omega) (by omega) (by omega) (by omega) (by show _ ≤ 600000; omega) (by show _ ≤ 7302250; omega) (Nat.le_of_ble_eq_true rfl) (fun l D A => c_X11_key l D A e1077) ?_
                                                      refine ww_aload_n 1080 X dL_law_1080 2 rfl rfl ?_
                                                      refine ww_aload_n 1081 X dL_law_1081 0 rfl rfl ?_
                                                      refine ww_iload_n 1082 X dL_law_1082 3 rfl rfl ?_
                                                      refine ww_iconst 1083 X (v := (1 : Int32)) dL_law_1083 (by decide) ?_
                                                      refine ww_iadd 1084 X dL_law_1084 ?_
                                                      refine ww_iald 1085 X dL_law_1085 e1085 ?_
                                                      refine ww_callVIz 1086 X (sz := z1077) (sl := k1077) (z0 := z0) (s0 := s0) dL_law_1086 mY_X13_key mL_L_121 (rcv_spec f1086) ⟨_, _, rfl⟩ (by decide) (As := [.int v1085]) (rest := [.int v1077]) rfl rfl ⟨Nat.le_of_ble_eq_true rfl, Nat.le_of_ble_eq_true rfl⟩ (by show _ ≤ 600000; omega) (by show _ ≤ 7302250; omega) (Nat.le_of_ble_eq_true rfl) (fun l D A => c_X13_key l D A e1086) ?_
                                                      exact (wB_L_law_1089 X hQ hZm hSm _ hm18 hr18 (by omega) (by omega) h)
                                                    · replace h := (if_neg q25).symm.trans h
                                                      by_cases q26 : sk0 = (26 : Int32)
                                                      · replace h := (if_pos q26).symm.trans h
                                                        refine ww_tableIn 33 1094 X dL_law_33 (off := 1061) (by rw [q26]; decide) (by rw [q26]; decide) (by rw [q26]; decide) (by decide) ?_
                                                        obtain ⟨v1099, e1099, h⟩ := bO_some h
                                                        obtain ⟨_, f1100, h⟩ := bO_some h
                                                        obtain ⟨v1100, M1100, e1100, h⟩ := bP_some h
                                                        obtain ⟨v1108, e1108, h⟩ := bO_some h
                                                        obtain ⟨_, f1109, h⟩ := bO_some h
                                                        obtain ⟨v1109, M1109, e1109, h⟩ := bP_some h
                                                        have q := mB_L_law_1112 _ hm18 h
                                                        refine ww_aload_n 1094 X dL_law_1094 1 rfl rfl ?_
                                                        refine ww_aload_n 1095 X dL_law_1095 0 rfl rfl ?_
                                                        refine ww_iload_n 1096 X dL_law_1096 3 rfl rfl ?_
                                                        refine ww_iconst 1097 X (v := (1 : Int32)) dL_law_1097 (by decide) ?_
                                                        refine ww_iadd 1098 X dL_law_1098 ?_
                                                        refine ww_iald 1099 X dL_law_1099 e1099 ?_
                                                        refine ww_callVIz 1100 X (sz := sz) (sl := sl) (z0 := z0) (s0 := s0) dL_law_1100 mY_X11_drop mL_L_122 (rcv_spec f1100) ⟨_, _, rfl⟩ (by decide) (As := [.int v1099]) (rest := []) rfl rfl ⟨Nat.le_of_ble_eq_true rfl, Nat.le_of_ble_eq_true rfl⟩ (by show _ ≤ 600000; omega) (by show _ ≤ 7302250; omega) (Nat.le_of_ble_eq_true rfl) (fun l D A => c_X11_drop l D A e1100) ?_
                                                        refine ww_aload_n 1103 X dL_law_1103 2 rfl rfl ?_
                                                        refine ww_aload_n 1104 X dL_law_1104 0 rfl rfl ?_
                                                        refine ww_iload_n 1105 X dL_law_1105 3 rfl rfl ?_
                                                        refine ww_iconst 1106 X (v := (1 : Int32)) dL_law_1106 (by decide) ?_
                                                        refine ww_iadd 1107 X dL_law_1107 ?_
                                                        refine ww_iald 1108 X dL_law_1108 e1108 ?_
                                                        refine ww_callVIz 1109 X (sz := sz) (sl := sl) (z0 := z0) (s0 := s0) dL_law_1109 mY_X13_drop mL_L_125 (rcv_spec f1109) ⟨_, _, rfl⟩ (by decide) (As := [.int v1108]) (rest := [.int v1100]) rfl rfl ⟨Nat.le_of_ble_eq_true rfl, Nat.le_of_ble_eq_true rfl⟩ (by show _ ≤ 600000; omega) (by show _ ≤ 7302250; omega) (Nat.le_of_ble_eq_true rfl) (fun l D A => c_X13_drop l D A e1109) ?_
                                                        exact (wB_L_law_1112 X hQ hZm hSm _ hm18 hr18 (by omega) (by omega) h)
                                                      · replace h := (if_neg q26).symm.trans h
                                                        by_cases q27 : sk0 = (27 : Int32)
                                                        · replace h := (if_pos q27).symm.trans h
                                                          refine ww_tableIn 33 1117 X dL_law_33 (off := 1084) (by rw [q27]; decide) (by rw [q27]; decide) (by rw [q27]; decide) (by decide) ?_
                                                          obtain ⟨v1122, e1122, h⟩ := bO_some h
                                                          obtain ⟨v1127, e1127, h⟩ := bO_some h
                                                          obtain ⟨_, f1128, h⟩ := bO_some h
                                                          obtain ⟨v1128, M1128, e1128, h⟩ := bP_some h
                                                          obtain ⟨v1136, e1136, h⟩ := bO_some h
                                                          obtain ⟨v1141, e1141, h⟩ := bO_some h
                                                          obtain ⟨_, f1142, h⟩ := bO_some h
                                                          obtain ⟨v1142, M1142, e1142, h⟩ := bP_some h
                                                          have q := mB_L_law_1145 _ hm18 h
                                                          refine ww_aload_n 1117 X dL_law_1117 1 rfl rfl ?_
                                                          refine ww_aload_n 1118 X dL_law_1118 0 rfl rfl ?_
                                                          refine ww_iload_n 1119 X dL_law_1119 3 rfl rfl ?_
                                                          refine ww_iconst 1120 X (v := (1 : Int32)) dL_law_1120 (by decide) ?_
                                                          refine ww_iadd 1121 X dL_law_1121 ?_
                                                          refine ww_iald 1122 X dL_law_1122 e1122 ?_
                                                          refine ww_aload_n 1123 X dL_law_1123 0 rfl rfl ?_
                                                          refine ww_iload_n 1124 X dL_law_1124 3 rfl rfl ?_
                                                          refine ww_iconst 1125 X (v := (2 : Int32)) dL_law_1125 (by decide) ?_
                                                          refine ww_iadd 1126 X dL_law_1126 ?_
                                                          refine ww_iald 1127 X dL_law_1127 e1127 ?_
                                                          refine ww_callVIz 1128 X (sz := sz) (sl := sl) (z0 := z0) (s0 := s0) dL_law_1128 mY_X11_told mL_L_126 (rcv_spec f1128) ⟨_, _, rfl⟩ (by decide) (As := [.int v1122, .int v1127]) (rest := []) rfl rfl ⟨Nat.le_of_ble_eq_true rfl, Nat.le_of_ble_eq_true rfl⟩ (by show _ ≤ 600000; omega) (by show _ ≤ 7302250; omega) (Nat.le_of_ble_eq_true rfl) (fun l D A => c_X11_told l D A e1128) ?_
                                                          refine ww_aload_n 1131 X dL_law_1131 2 rfl rfl ?_
                                                          refine ww_aload_n 1132 X dL_law_1132 0 rfl rfl ?_
                                                          refine ww_iload_n 1133 X dL_law_1133 3 rfl rfl ?_
                                                          refine ww_iconst 1134 X (v := (1 : Int32)) dL_law_1134 (by decide) ?_
                                                          refine ww_iadd 1135 X dL_law_1135 ?_
                                                          refine ww_iald 1136 X dL_law_1136 e1136 ?_
                                                          refine ww_aload_n 1137 X dL_law_1137 0 rfl rfl ?_
                                                          refine ww_iload_n 1138 X dL_law_1138 3 rfl rfl ?_
                                                          refine ww_iconst 1139 X (v := (2 : Int32)) dL_law_1139 (by decide) ?_
                                                          refine ww_iadd 1140 X dL_law_1140 ?_
                                                          refine ww_iald 1141 X dL_law_1141 e1141 ?_
                                                          refine ww_callVIz 1142 X (sz := sz) (sl := sl) (z0 := z0) (s0 := s0) dL_law_1142 mY_X13_told mL_L_129 (rcv_spec f1142) ⟨_, _, rfl⟩ (by decide) (As := [.int v1136, .int v1141]) (rest := [.int v1128]) rfl rfl ⟨Nat.le_of_ble_eq_true rfl, Nat.le_of_ble_eq_true rfl⟩ (by show _ ≤ 600000; omega) (by show _ ≤ 7302250; omega) (Nat.le_of_ble_eq_true rfl) (fun l D A => c_X13_told l D A e1142) ?_
                                                          exact (wB_L_law_1145 X hQ hZm hSm _ hm18 hr18 (by omega) (by omega) h)
                                                        · replace h := (if_neg q27).symm.trans h
                                                          by_cases q28 : sk0 = (28 : Int32)
                                                          · replace h := (if_pos q28).symm.trans h
                                                            refine ww_tableIn 33 1150 X dL_law_33 (off := 1117) (by rw [q28]; decide) (by rw [q28]; decide) (by rw [q28]; decide) (by decide) ?_
                                                            obtain ⟨v1155, e1155, h⟩ := bO_some h
                                                            obtain ⟨_, f1156, h⟩ := bO_some h
                                                            obtain ⟨v1156, M1156, e1156, h⟩ := bP_some h
                                                            obtain ⟨v1164, e1164, h⟩ := bO_some h
                                                            obtain ⟨_, f1165, h⟩ := bO_some h
                                                            obtain ⟨v1165, M1165, e1165, h⟩ := bP_some h
                                                            have q := mB_L_law_1168 _ hm18 h
                                                            refine ww_aload_n 1150 X dL_law_1150 1 rfl rfl ?_
                                                            refine ww_aload_n 1151 X dL_law_1151 0 rfl rfl ?_
                                                            refine ww_iload_n 1152 X dL_law_1152 3 rfl rfl ?_
                                                            refine ww_iconst 1153 X (v := (1 : Int32)) dL_law_1153 (by decide) ?_
                                                            refine ww_iadd 1154 X dL_law_1154 ?_
                                                            refine ww_iald 1155 X dL_law_1155 e1155 ?_
                                                            refine ww_callVIz 1156 X (sz := sz) (sl := sl) (z0 := z0) (s0 := s0) dL_law_1156 mY_X11_print mL_L_130 (rcv_spec f1156) ⟨_, _, rfl⟩ (by decide) (As := [.int v1155]) (rest := []) rfl rfl ⟨Nat.le_of_ble_eq_true rfl, Nat.le_of_ble_eq_true rfl⟩ (by show _ ≤ 600000; omega) (by show _ ≤ 7302250; omega) (Nat.le_of_ble_eq_true rfl) (fun l D A => c_X11_print l D A e1156) ?_
                                                            refine ww_aload_n 1159 X dL_law_1159 2 rfl rfl ?_
                                                            refine ww_aload_n 1160 X dL_law_1160 0 rfl rfl ?_
                                                            refine ww_iload_n 1161 X dL_law_1161 3 rfl rfl ?_
                                                            refine ww_iconst 1162 X (v := (1 : Int32)) dL_law_1162 (by decide) ?_
                                                            refine ww_iadd 1163 X dL_law_1163 ?_
                                                            refine ww_iald 1164 X dL_law_1164 e1164 ?_
                                                            refine ww_callVIz 1165 X (sz := sz) (sl := sl) (z0 := z0) (s0 := s0) dL_law_1165 mY_X13_print mL_L_133 (rcv_spec f1165) ⟨_, _, rfl⟩ (by decide) (As := [.int v1164]) (rest := [.int v1156]) rfl rfl ⟨Nat.le_of_ble_eq_true rfl, Nat.le_of_ble_eq_true rfl⟩ (by show _ ≤ 600000; omega) (by show _ ≤ 7302250; omega) (Nat.le_of_ble_eq_true rfl) (fun l D A => c_X13_print l D A e1165) ?_
                                                            exact (wB_L_law_1168 X hQ hZm hSm _ hm18 hr18 (by omega) (by omega) h)
                                                          · replace h := (if_neg q28).symm.trans h
                                                            by_cases q29 : sk0 = (29 : Int32)
                                                            · replace h := (if_pos q29).symm.trans h
                                                              refine ww_tableIn 33 1173 X dL_law_33 (off := 1140) (by rw [q29]; decide) (by rw [q29]; decide) (by rw [q29]; decide) (by decide) ?_
                                                              obtain ⟨v1178, e1178, h⟩ := bO_some h
                                                              obtain ⟨v1183, e1183, h⟩ := bO_some h
                                                              obtain ⟨v1188, e1188, h⟩ := bO_some h
                                                              obtain ⟨v1193, e1193, h⟩ := bO_some h
                                                              obtain ⟨v1198, e1198, h⟩ := bO_some h
                                                              obtain ⟨_, f1199, h⟩ := bO_some h
                                                              obtain ⟨v1199, M1199, e1199, h⟩ := bP_some h
                                                              obtain ⟨v1207, e1207, h⟩ := bO_some h
                                                              obtain ⟨v1212, e1212, h⟩ := bO_some h
                                                              obtain ⟨v1217, e1217, h⟩ := bO_some h
                                                              obtain ⟨v1222, e1222, h⟩ := bO_some h
                                                              obtain ⟨v1227, e1227, h⟩ := bO_some h
                                                              obtain ⟨_, f1228, h⟩ := bO_some h
                                                              obtain ⟨v1228, M1228, e1228, h⟩ := bP_some h
                                                              have q := mB_L_law_1231 _ hm18 h
                                                              refine ww_aload_n 1173 X dL_law_1173 1 rfl rfl ?_
                                                              refine ww_aload_n 1174 X dL_law_1174 0 rfl rfl ?_
                                                              refine ww_iload_n 1175 X dL_law_1175 3 rfl rfl ?_
                                                              refine ww_iconst 1176 X (v := (1 : Int32)) dL_law_1176 (by decide) ?_
                                                              refine ww_iadd 1177 X dL_law_1177 ?_
                                                              refine ww_iald 1178 X dL_law_1178 e1178 ?_
                                                              refine ww_aload_n 1179 X dL_law_1179 0 rfl rfl ?_
                                                              refine ww_iload_n 1180 X dL_law_1180 3 rfl rfl ?_
                                                              refine ww_iconst 1181 X (v := (2 : Int32)) dL_law_1181 (by decide) ?_
                                                              refine ww_iadd 1182 X dL_law_1182 ?_
                                                              refine ww_iald 1183 X dL_law_1183 e1183 ?_
                                                              refine ww_aload_n 1184 X dL_law_1184 0 rfl rfl ?_
                                                              refine ww_iload_n 1185 X dL_law_1185 3 rfl rfl ?_
                                                              refine ww_iconst 1186 X (v := (3 : Int32)) dL_law_1186 (by decide) ?_
                                                              refine ww_iadd 1187 X dL_law_1187 ?_
                                                              refine ww_iald 1188 X dL_law_1188 e1188 ?_
                                                              refine ww_aload_n 1189 X dL_law_1189 0 rfl rfl ?_
                                                              refine ww_iload_n 1190 X dL_law_1190 3 rfl rfl ?_
                                                              refine ww_iconst 1191 X (v := (4 : Int32)) dL_law_1191 (by decide) ?_
                                                              refine ww_iadd 1192 X dL_law_1192 ?_
                                                              refine ww_iald 1193 X dL_law_1193 e1193 ?_
                                                              refine ww_aload_n 1194 X dL_law_1194 0 rfl rfl ?_
                                                              refine ww_iload_n 1195 X dL_law_1195 3 rfl rfl ?_
                                                              refine ww_iconst 1196 X (v := (5 : Int32)) dL_law_1196 (by decide) ?_
                                                              refine ww_iadd 1197 X dL_law_1197 ?_
                                                              refine ww_iald 1198 X dL_law_1198 e1198 ?_
                                                              refine ww_callVIz 1199 X (sz := sz) (sl := sl) (z0 := z0) (s0 := s0) dL_law_1199 mY_X11_sign mL_L_134 (rcv_spec f1199) ⟨_, _, rfl⟩ (by decide) (As := [.int v1178, .int v1183, .int v1188, .int v1193, .int v1198]) (rest := []) rfl rfl ⟨Nat.le_of_ble_eq_true rfl, Nat.le_of_ble_eq_true rfl⟩ (by show _ ≤ 600000; omega) (by show _ ≤ 7302250; omega) (Nat.le_of_ble_eq_true rfl) (fun l D A => c_X11_sign l D A e1199) ?_
                                                              refine ww_aload_n 1202 X dL_law_1202 2 rfl rfl ?_
                                                              refine ww_aload_n 1203 X dL_law_1203 0 rfl rfl ?_
                                                              refine ww_iload_n 1204 X dL_law_1204 3 rfl rfl ?_
                                                              refine ww_iconst 1205 X (v := (1 : Int32)) dL_law_1205 (by decide) ?_
                                                              refine ww_iadd 1206 X dL_law_1206 ?_
                                                              refine ww_iald 1207 X dL_law_1207 e1207 ?_
                                                              refine ww_aload_n 1208 X dL_law_1208 0 rfl rfl ?_
                                                              refine ww_iload_n 1209 X dL_law_1209 3 rfl rfl ?_
                                                              refine ww_iconst 1210 X (v := (2 : Int32)) dL_law_1210 (by decide) ?_
                                                              refine ww_iadd 1211 X dL_law_1211 ?_
                                                              refine ww_iald 1212 X dL_law_1212 e1212 ?_
                                                              refine ww_aload_n 1213 X dL_law_1213 0 rfl rfl ?_
                                                              refine ww_iload_n 1214 X dL_law_1214 3 rfl rfl ?_
                                                              refine ww_iconst 1215 X (v := (3 : Int32)) dL_law_1215 (by decide) ?_
                                                              refine ww_iadd 1216 X dL_law_1216 ?_
                                                              refine ww_iald 1217 X dL_law_1217 e1217 ?_
                                                              refine ww_aload_n 1218 X dL_law_1218 0 rfl rfl ?_
                                                              refine ww_iload_n 1219 X dL_law_1219 3 rfl rfl ?_
                                                              refine ww_iconst 1220 X (v := (4 : Int32)) dL_law_1220 (by decide) ?_
                                                              refine ww_iadd 1221 X dL_law_1221 ?_
                                                              refine ww_iald 1222 X dL_law_1222 e1222 ?_
                                                              refine ww_aload_n 1223 X dL_law_1223 0 rfl rfl ?_
                                                              refine ww_iload_n 1224 X dL_law_1224 3 rfl rfl ?_
                                                              refine ww_iconst 1225 X (v := (5 : Int32)) dL_law_1225 (by decide) ?_
                                                              refine ww_iadd 1226 X dL_law_1226 ?_
                                                              refine ww_iald 1227 X dL_law_1227 e1227 ?_
                                                              refine ww_callVIz 1228 X (sz := sz) (sl := sl) (z0 := z0) (s0 := s0) dL_law_1228 mY_X13_sign mL_L_137 (rcv_spec f1228) ⟨_, _, rfl⟩ (by decide) (As := [.int v1207, .int v1212, .int v1217, .int v1222, .int v1227]) (rest := [.int v1199]) rfl rfl ⟨Nat.le_of_ble_eq_true rfl, Nat.le_of_ble_eq_true rfl⟩ (by show _ ≤ 600000; omega) (by show _ ≤ 7302250; omega) (Nat.le_of_ble_eq_true rfl) (fun l D A => c_X13_sign l D A e1228) ?_
                                                              exact (wB_L_law_1231 X hQ hZm hSm _ hm18 hr18 (by omega) (by omega) h)
                                                            · replace h := (if_neg q29).symm.trans h
                                                              by_cases q30 : sk0 = (30 : Int32)
                                                              · replace h := (if_pos q30).symm.trans h
                                                                refine ww_tableIn 33 1236 X dL_law_33 (off := 1203) (by rw [q30]; decide) (by rw [q30]; decide) (by rw [q30]; decide) (by decide) ?_
                                                                obtain ⟨v1241, e1241, h⟩ := bO_some h
                                                                obtain ⟨_, f1242, h⟩ := bO_some h
                                                                obtain ⟨v1242, M1242, e1242, h⟩ := bP_some h
                                                                obtain ⟨v1250, e1250, h⟩ := bO_some h
                                                                obtain ⟨_, f1251, h⟩ := bO_some h
                                                                obtain ⟨v1251, M1251, e1251, h⟩ := bP_some h
                                                                have q := mB_L_law_1254 _ hm18 h
                                                                refine ww_aload_n 1236 X dL_law_1236 1 rfl rfl ?_
                                                                refine ww_aload_n 1237 X dL_law_1237 0 rfl rfl ?_
                                                                refine ww_iload_n 1238 X dL_law_1238 3 rfl rfl ?_
                                                                refine ww_iconst 1239 X (v := (1 : Int32)) dL_law_1239 (by decide) ?_
                                                                refine ww_iadd 1240 X dL_law_1240 ?_
                                                                refine ww_iald 1241 X dL_law_1241 e1241 ?_
                                                                refine ww_callVIz 1242 X (sz := sz) (sl := sl) (z0 := z0) (s0 := s0) dL_law_1242 mY_X11_verify mL_L_138 (rcv_spec f1242) ⟨_, _, rfl⟩ (by decide) (As := [.int v1241]) (rest := []) rfl rfl ⟨Nat.le_of_ble_eq_true rfl, Nat.le_of_ble_eq_true rfl⟩ (by show _ ≤ 600000; omega) (by show _ ≤ 7302250; omega) (Nat.le_of_ble_eq_true rfl) (fun l D A => c_X11_verify l D A e1242) ?_
                                                                refine ww_aload_n 1245 X dL_law_1245 2 rfl rfl ?_
                                                                refine ww_aload_n 1246 X dL_law_1246 0 rfl rfl ?_
                                                                refine ww_iload_n 1247 X dL_law_1247 3 rfl rfl ?_
                                                                refine ww_iconst 1248 X (v := (1 : Int32)) dL_law_1248 (by decide) ?_
                                                                refine ww_iadd 1249 X dL_law_1249 ?_
                                                                refine ww_iald 1250 X dL_law_1250 e1250 ?_
                                                                refine ww_callVIz 1251 X (sz := sz) (sl := sl) (z0 := z0) (s0 := s0) dL_law_1251 mY_X13_verify mL_L_141 (rcv_spec f1251) ⟨_, _, rfl⟩ (by decide) (As := [.int v1250]) (rest := [.int v1242]) rfl rfl ⟨Nat.le_of_ble_eq_true rfl, Nat.le_of_ble_eq_true rfl⟩ (by show _ ≤ 600000; omega) (by show _ ≤ 7302250; omega) (Nat.le_of_ble_eq_true rfl) (fun l D A => c_X13_verify l D A e1251) ?_
                                                                exact (wB_L_law_1254 X hQ hZm hSm _ hm18 hr18 (by omega) (by omega) h)
                                                              · replace h := (if_neg q30).symm.trans h
                                                                by_cases q31 : sk0 = (31 : Int32)
                                                                · replace h := (if_pos q31).symm.trans h
                                                                  refine ww_tableIn 33 1259 X dL_law_33 (off := 1226) (by rw [q31]; decide) (by rw [q31]; decide) (by rw [q31]; decide) (by decide) ?_
                                                                  obtain ⟨v1264, e1264, h⟩ := bO_some h
                                                                  obtain ⟨v1269, e1269, h⟩ := bO_some h
                                                                  obtain ⟨v1274, e1274, h⟩ := bO_some h
                                                                  obtain ⟨v1279, e1279, h⟩ := bO_some h
                                                                  obtain ⟨v1284, e1284, h⟩ := bO_some h
                                                                  obtain ⟨v1290, e1290, h⟩ := bO_some h
                                                                  obtain ⟨v1296, e1296, h⟩ := bO_some h
                                                                  obtain ⟨_, f1297, h⟩ := bO_some h
                                                                  obtain ⟨v1297, M1297, e1297, h⟩ := bP_some h
                                                                  obtain ⟨v1305, e1305, h⟩ := bO_some h
                                                                  obtain ⟨v1310, e1310, h⟩ := bO_some h
                                                                  obtain ⟨v1315, e1315, h⟩ := bO_some h
                                                                  obtain ⟨v1320, e1320, h⟩ := bO_some h
                                                                  obtain ⟨v1325, e1325, h⟩ := bO_some h
                                                                  obtain ⟨v1331, e1331, h⟩ := bO_some h
                                                                  obtain ⟨v1337, e1337, h⟩ := bO_some h
                                                                  obtain ⟨_, f1338, h⟩ := bO_some h
                                                                  obtain ⟨v1338, M1338, e1338, h⟩ := bP_some h
                                                                  have q := mB_L_law_1341 _ hm18 h
                                                                  refine ww_aload_n 1259 X dL_law_1259 1 rfl rfl ?_
                                                                  refine ww_aload_n 1260 X dL_law_1260 0 rfl rfl ?_
                                                                  refine ww_iload_n 1261 X dL_law_1261 3 rfl rfl ?_
                                                                  refine ww_iconst 1262 X (v := (1 : Int32)) dL_law_1262 (by decide) ?_
                                                                  refine ww_iadd 1263 X dL_law_1263 ?_
                                                                  refine ww_iald 1264 X dL_law_1264 e1264 ?_
                                                                  refine ww_aload_n 1265 X dL_law_1265 0 rfl rfl ?_
                                                                  refine ww_iload_n 1266 X dL_law_1266 3 rfl rfl ?_
                                                                  refine ww_iconst 1267 X (v := (2 : Int32)) dL_law_1267 (by decide) ?_
                                                                  refine ww_iadd 1268 X dL_law_1268 ?_
                                                                  refine ww_iald 1269 X dL_law_1269 e1269 ?_
                                                                  refine ww_aload_n 1270 X dL_law_1270 0 rfl rfl ?_
                                                                  refine ww_iload_n 1271 X dL_law_1271 3 rfl rfl ?_
                                                                  refine ww_iconst 1272 X (v := (3 : Int32)) dL_law_1272 (by decide) ?_
                                                                  refine ww_iadd 1273 X dL_law_1273 ?_
                                                                  refine ww_iald 1274 X dL_law_1274 e1274 ?_
                                                                  refine ww_aload_n 1275 X dL_law_1275 0 rfl rfl ?_
                                                                  refine ww_iload_n 1276 X dL_law_1276 3 rfl rfl ?_
                                                                  refine ww_iconst 1277 X (v := (4 : Int32)) dL_law_1277 (by decide) ?_
                                                                  refine ww_iadd 1278 X dL_law_1278 ?_
                                                                  refine ww_iald 1279 X dL_law_1279 e1279 ?_
                                                                  refine ww_aload_n 1280 X dL_law_1280 0 rfl rfl ?_
                                                                  refine ww_iload_n 1281 X dL_law_1281 3 rfl rfl ?_
                                                                  refine ww_iconst 1282 X (v := (5 : Int32)) dL_law_1282 (by decide) ?_
                                                                  refine ww_iadd 1283 X dL_law_1283 ?_
                                                                  refine ww_iald 1284 X dL_law_1284 e1284 ?_
                                                                  refine ww_aload_n 1285 X dL_law_1285 0 rfl rfl ?_
                                                                  refine ww_iload_n 1286 X dL_law_1286 3 rfl rfl ?_
                                                                  refine ww_bipush 1287 X (v := (6 : Int32)) dL_law_1287 (by decide) ?_
                                                                  refine ww_iadd 1289 X dL_law_1289 ?_
                                                                  refine ww_iald 1290 X dL_law_1290 e1290 ?_
                                                                  refine ww_aload_n 1291 X dL_law_1291 0 rfl rfl ?_
                                                                  refine ww_iload_n 1292 X dL_law_1292 3 rfl rfl ?_
                                                                  refine ww_bipush 1293 X (v := (7 : Int32)) dL_law_1293 (by decide) ?_
                                                                  refine ww_iadd 1295 X dL_law_1295 ?_
                                                                  refine ww_iald 1296 X dL_law_1296 e1296 ?_
                                                                  refine ww_callVIz 1297 X (sz := sz) (sl := sl) (z0 := z0) (s0 := s0) dL_law_1297 mY_X11_encrypt mL_L_142 (rcv_spec f1297) ⟨_, _, rfl⟩ (by decide) (As := [.int v1264, .int v1269, .int v1274, .int v1279, .int v1284, .int v1290, .int v1296]) (rest := []) rfl rfl ⟨Nat.le_of_ble_eq_true rfl, Nat.le_of_ble_eq_true rfl⟩ (by show _ ≤ 600000; omega) (by show _ ≤ 7302250; omega) (Nat.le_of_ble_eq_true rfl) (fun l D A => c_X11_encrypt l D A e1297) ?_
                                                                  refine ww_aload_n 1300 X dL_law_1300 2 rfl rfl ?_
                                                                  refine ww_aload_n 1301 X dL_law_1301 0 rfl rfl ?_
                                                                  refine ww_iload_n 1302 X dL_law_1302 3 rfl rfl ?_
                                                                  refine ww_iconst 1303 X (v := (1 : Int32)) dL_law_1303 (by decide) ?_
                                                                  refine ww_iadd 1304 X dL_law_1304 ?_
                                                                  refine ww_iald 1305 X dL_law_1305 e1305 ?_
                                                                  refine ww_aload_n 1306 X dL_law_1306 0 rfl rfl ?_
                                                                  refine ww_iload_n 1307 X dL_law_1307 3 rfl rfl ?_
                                                                  refine ww_iconst 1308 X (v := (2 : Int32)) dL_law_1308 (by decide) ?_
                                                                  refine ww_iadd 1309 X dL_law_1309 ?_
                                                                  refine ww_iald 1310 X dL_law_1310 e1310 ?_
                                                                  refine ww_aload_n 1311 X dL_law_1311 0 rfl rfl ?_
                                                                  refine ww_iload_n 1312 X dL_law_1312 3 rfl rfl ?_
                                                                  refine ww_iconst 1313 X (v := (3 : Int32)) dL_law_1313 (by decide) ?_
                                                                  refine ww_iadd 1314 X dL_law_1314 ?_
                                                                  refine ww_iald 1315 X dL_law_1315 e1315 ?_
                                                                  refine ww_aload_n 1316 X dL_law_1316 0 rfl rfl ?_
                                                                  refine ww_iload_n 1317 X dL_law_1317 3 rfl rfl ?_
                                                                  refine ww_iconst 1318 X (v := (4 : Int32)) dL_law_1318 (by decide) ?_
                                                                  refine ww_iadd 1319 X dL_law_1319 ?_
                                                                  refine ww_iald 1320 X dL_law_1320 e1320 ?_
                                                                  refine ww_aload_n 1321 X dL_law_1321 0 rfl rfl ?_
                                                                  refine ww_iload_n 1322 X dL_law_1322 3 rfl rfl ?_
                                                                  refine ww_iconst 1323 X (v := (5 : Int32)) dL_law_1323 (by decide) ?_
                                                                  refine ww_iadd 1324 X dL_law_1324 ?_
                                                                  refine ww_iald 1325 X dL_law_1325 e1325 ?_
                                                                  refine ww_aload_n 1326 X dL_law_1326 0 rfl rfl ?_
                                                                  refine ww_iload_n 1327 X dL_law_1327 3 rfl rfl ?_
                                                                  refine ww_bipush 1328 X (v := (6 : Int32)) dL_law_1328 (by decide) ?_
                                                                  refine ww_iadd 1330 X dL_law_1330 ?_
                                                                  refine ww_iald 1331 X dL_law_1331 e1331 ?_
                                                                  refine ww_aload_n 1332 X dL_law_1332 0 rfl rfl ?_
                                                                  refine ww_iload_n 1333 X dL_law_1333 3 rfl rfl ?_
                                                                  refine ww_bipush 1334 X (v := (7 : Int32)) dL_law_1334 (by decide) ?_
                                                                  refine ww_iadd 1336 X dL_law_1336 ?_
                                                                  refine ww_iald 1337 X dL_law_1337 e1337 ?_
                                                                  refine ww_callVIz 1338 X (sz := sz) (sl := sl) (z0 := z0) (s0 := s0) dL_law_1338 mY_X13_encrypt mL_L_146 (rcv_spec f1338) ⟨_, _, rfl⟩ (by decide) (As := [.int v1305, .int v1310, .int v1315, .int v1320, .int v1325, .int v1331, .int v1337]) (rest := [.int v1297]) rfl rfl ⟨Nat.le_of_ble_eq_true rfl, Nat.le_of_ble_eq_true rfl⟩ (by show _ ≤ 600000; omega) (by show _ ≤ 7302250; omega) (Nat.le_of_ble_eq_true rfl) (fun l D A => c_X13_encrypt l D A e1338) ?_
                                                                  exact (wB_L_law_1341 X hQ hZm hSm _ hm18 hr18 (by omega) (by omega) h)
                                                                · replace h := (if_neg q31).symm.trans h
                                                                  by_cases q32 : sk0 = (32 : Int32)
                                                                  · replace h := (if_pos q32).symm.trans h
                                                                    refine ww_tableIn 33 1346 X dL_law_33 (off := 1313) (by rw [q32]; decide) (by rw [q32]; decide) (by rw [q32]; decide) (by decide) ?_
                                                                    obtain ⟨v1351, e1351, h⟩ := bO_some h
                                                                    obtain ⟨_, f1352, h⟩ := bO_some h
                                                                    obtain ⟨v1352, M1352, e1352, h⟩ := bP_some h
                                                                    obtain ⟨v1360, e1360, h⟩ := bO_some h
                                                                    obtain ⟨_, f1361, h⟩ := bO_some h
                                                                    obtain ⟨v1361, M1361, e1361, h⟩ := bP_some h
                                                                    have q := mB_L_law_1364 _ hm18 h
                                                                    refine ww_aload_n 1346 X dL_law_1346 1 rfl rfl ?_
                                                                    refine ww_aload_n 1347 X dL_law_1347 0 rfl rfl ?_
                                                                    refine ww_iload_n 1348 X dL_law_1348 3 rfl rfl ?_
                                                                    refine ww_iconst 1349 X (v := (1 : Int32)) dL_law_1349 (by decide) ?_
                                                                    refine ww_iadd 1350 X dL_law_1350 ?_
                                                                    refine ww_iald 1351 X dL_law_1351 e1351 ?_
                                                                    refine ww_callVIz 1352 X (sz := sz) (sl := sl) (z0 := z0) (s0 := s0) dL_law_1352 mY_X11_decrypt mL_L_147 (rcv_spec f1352) ⟨_, _, rfl⟩ (by decide) (As := [.int v1351]) (rest := []) rfl rfl ⟨Nat.le_of_ble_eq_true rfl, Nat.le_of_ble_eq_true rfl⟩ (by show _ ≤ 600000; omega) (by show _ ≤ 7302250; omega) (Nat.le_of_ble_eq_true rfl) (fun l D A => c_X11_decrypt l D A e1352) ?_
                                                                    refine ww_aload_n 1355 X dL_law_1355 2 rfl rfl ?_
                                                                    refine ww_aload_n 1356 X dL_law_1356 0 rfl rfl ?_
                                                                    refine ww_iload_n 1357 X dL_law_1357 3 rfl rfl ?_
                                                                    refine ww_iconst 1358 X (v := (1 : Int32)) dL_law_1358 (by decide) ?_
                                                                    refine ww_iadd 1359 X dL_law_1359 ?_
                                                                    refine ww_iald 1360 X dL_law_1360 e1360 ?_
                                                                    refine ww_callVIz 1361 X (sz := sz) (sl := sl) (z0 := z0) (s0 := s0) dL_law_1361 mY_X13_decrypt mL_L_150 (rcv_spec f1361) ⟨_, _, rfl⟩ (by decide) (As := [.int v1360]) (rest := [.int v1352]) rfl rfl ⟨Nat.le_of_ble_eq_true rfl, Nat.le_of_ble_eq_true rfl⟩ (by show _ ≤ 600000; omega) (by show _ ≤ 7302250; omega) (Nat.le_of_ble_eq_true rfl) (fun l D A => c_X13_decrypt l D A e1361) ?_
                                                                    exact (wB_L_law_1364 X hQ hZm hSm _ hm18 hr18 (by omega) (by omega) h)
                                                                  · replace h := (if_neg q32).symm.trans h
                                                                    have z0 := lv_neT q0 (show (0 : Int32).toInt = 0 by decide)
                                                                    have z1 := lv_neT q1 (show (1 : Int32).toInt = 1 by decide)
                                                                    have z2 := lv_neT q2 (show (2 : Int32).toInt = 2 by decide)
                                                                    have z3 := lv_neT q3 (show (3 : Int32).toInt = 3 by decide)
                                                                    have z4 := lv_neT q4 (show (4 : Int32).toInt = 4 by decide)
                                                                    have z5 := lv_neT q5 (show (5 : Int32).toInt = 5 by decide)
                                                                    have z6 := lv_neT q6 (show (6 : Int32).toInt = 6 by decide)
                                                                    have z7 := lv_neT q7 (show (7 : Int32).toInt = 7 by decide)
                                                                    have z8 := lv_neT q8 (show (8 : Int32).toInt = 8 by decide)
                                                                    have z9 := lv_neT q9 (show (9 : Int32).toInt = 9 by decide)
                                                                    have z10 := lv_neT q10 (show (10 : Int32).toInt = 10 by decide)
                                                                    have z11 := lv_neT q11 (show (11 : Int32).toInt = 11 by decide)
                                                                    have z12 := lv_neT q12 (show (12 : Int32).toInt = 12 by decide)
                                                                    have z13 := lv_neT q13 (show (13 : Int32).toInt = 13 by decide)
                                                                    have z14 := lv_neT q14 (show (14 : Int32).toInt = 14 by decide)
                                                                    have z15 := lv_neT q15 (show (15 : Int32).toInt = 15 by decide)
                                                                    have z16 := lv_neT q16 (show (16 : Int32).toInt = 16 by decide)
                                                                    have z17 := lv_neT q17 (show (17 : Int32).toInt = 17 by decide)
                                                                    have z18 := lv_neT q18 (show (18 : Int32).toInt = 18 by decide)
                                                                    have z19 := lv_neT q19 (show (19 : Int32).toInt = 19 by decide)
                                                                    have z20 := lv_neT q20 (show (20 : Int32).toInt = 20 by decide)
                                                                    have z21 := lv_neT q21 (show (21 : Int32).toInt = 21 by decide)
                                                                    have z22 := lv_neT q22 (show (22 : Int32).toInt = 22 by decide)
                                                                    have z23 := lv_neT q23 (show (23 : Int32).toInt = 23 by decide)
                                                                    have z24 := lv_neT q24 (show (24 : Int32).toInt = 24 by decide)
                                                                    have z25 := lv_neT q25 (show (25 : Int32).toInt = 25 by decide)
                                                                    have z26 := lv_neT q26 (show (26 : Int32).toInt = 26 by decide)
                                                                    have z27 := lv_neT q27 (show (27 : Int32).toInt = 27 by decide)
                                                                    have z28 := lv_neT q28 (show (28 : Int32).toInt = 28 by decide)
                                                                    have z29 := lv_neT q29 (show (29 : Int32).toInt = 29 by decide)
                                                                    have z30 := lv_neT q30 (show (30 : Int32).toInt = 30 by decide)
                                                                    have z31 := lv_neT q31 (show (31 : Int32).toInt = 31 by decide)
                                                                    have z32 := lv_neT q32 (show (32 : Int32).toInt = 32 by decide)
                                                                    refine ww_tableOut 33 1369 X dL_law_33 (by omega) (by decide) ?_
                                                                    have q := hm18 _ _ _ _ _ _ _ h
                                                                    refine ww_iinc 1369 X dL_law_1369 (lv' := [(0, .ref l0), (1, .ref l1), (2, .ref l2), (3, .int (l3 + 8))]) 3 rfl rfl (by decide) [1, 2, 3, 0] rfl ?_
                                                                    refine ww_goto 1372 18 X dL_law_1372 (by decide) ?_
                                                                    exact (hr18 _ _ _ _ _ _ _ (by omega) (by omega) h)
theorem mB_L_law_24 {G : mG} {F : Nat} {M0 : mM} {Z0 S0 : Nat} (r18 : Nat → Nat → Nat → Int32 → mM → Nat → Nat → Option (Int32 × mM × Nat × Nat)) (hm18 : ∀ (l0 : Nat) (l1 : Nat) (l2 : Nat) (l3 : Int32) (M : mM) (sz : Nat) (sl : Nat), r18 l0 l1 l2 l3 M sz sl = some ((1 : Int32), M0, Z0, S0) → sz ≤ Z0 ∧ sl ≤ S0) {l0 : Nat} {l1 : Nat} {l2 : Nat} {l3 : Int32} {sk0 : Int32} {sk1 : Int32} {M : mM} {sz : Nat} {sl : Nat} (h : B_L_law_24 G F r18 l0 l1 l2 l3 sk0 sk1 M sz sl = some ((1 : Int32), M0, Z0, S0)) : sz ≤ Z0 ∧ sl ≤ S0 := by
  unfold B_L_law_24 at h
  by_cases q : sk1 < sk0
  · replace h := (if_pos q).symm.trans h
    have q := retZA_p h
    omega
  · replace h := (if_neg q).symm.trans h
    obtain ⟨v29, e29, h⟩ := bO_some h
    have q := mB_L_law_33 _ hm18 h
    omega
set_option maxHeartbeats 4000000 in
set_option maxRecDepth 100000 in
theorem wB_L_law_24 {G : mG} {F : Nat} {x : mXT} {z0 s0 : Nat} {M0 : mM} {Z0 S0 : Nat} (X : mCX G RL cL_law 4 (some .boolean) "law" room_1 x) (hQ : mQW x) (hZm : Z0 - z0 ≤ 600000) (hSm : S0 - s0 ≤ 7302250) (r18 : Nat → Nat → Nat → Int32 → mM → Nat → Nat → Option (Int32 × mM × Nat × Nat)) (hm18 : ∀ (l0 : Nat) (l1 : Nat) (l2 : Nat) (l3 : Int32) (M : mM) (sz : Nat) (sl : Nat), r18 l0 l1 l2 l3 M sz sl = some ((1 : Int32), M0, Z0, S0) → sz ≤ Z0 ∧ sl ≤ S0) (hr18 : ∀ (l0 : Nat) (l1 : Nat) (l2 : Nat) (l3 : Int32) (M : mM) (sz : Nat) (sl : Nat), z0 ≤ sz → s0 ≤ sl → r18 l0 l1 l2 l3 M sz sl = some ((1 : Int32), M0, Z0, S0) → WW x (sz, sz - z0, sl - s0) M 18 [(0, .ref l0), (1, .ref l1), (2, .ref l2), (3, .int l3)] []) {l0 : Nat} {l1 : Nat} {l2 : Nat} {l3 : Int32} {sk0 : Int32} {sk1 : Int32} {M : mM} {sz : Nat} {sl : Nat} (hz0 : z0 ≤ sz) (hs0 : s0 ≤ sl) (h : B_L_law_24 G F r18 l0 l1 l2 l3 sk0 sk1 M sz sl = some ((1 : Int32), M0, Z0, S0)) : WW x (sz, sz - z0, sl - s0) M 24 [(0, .ref l0), (1, .ref l1), (2, .ref l2), (3, .int l3)] [.int sk1, .int sk0] := by
  unfold B_L_law_24 at h
  refine ww_icmp_gt 24 1375 X dL_law_24 (by decide) (fun q => ?_) (fun q => ?_)
  · replace h := (if_pos q).symm.trans h
    have q := retZA_p h
    refine ww_iconst 1375 X (v := (1 : Int32)) dL_law_1375 (by decide) ?_
    exact ww_lawret 1376 X hQ hZm hSm dL_law_1376 h
  · replace h := (if_neg q).symm.trans h
    obtain ⟨v29, e29, h⟩ := bO_some h
    have q := mB_L_law_33 _ hm18 h
    refine ww_aload_n 27 X dL_law_27 0 rfl rfl ?_
    refine ww_iload_n 28 X dL_law_28 3 rfl rfl ?_
    refine ww_iald 29 X dL_law_29 e29 ?_
    refine ww_bipush 30 X (v := (63 : Int32)) dL_law_30 (by decide) ?_
    refine ww_iand 32 X dL_law_32 ?_
    exact (wB_L_law_33 X hQ hZm hSm _ hm18 hr18 (by omega) (by omega) h)
theorem mB_L_law_18 {G : mG} {F : Nat} {M0 : mM} {Z0 S0 : Nat} : ∀ (n : Nat) (l0 : Nat) (l1 : Nat) (l2 : Nat) (l3 : Int32) (M : mM) (sz : Nat) (sl : Nat), B_L_law_18 G F n l0 l1 l2 l3 M sz sl = some ((1 : Int32), M0, Z0, S0) → sz ≤ Z0 ∧ sl ≤ S0 := by
  intro n
  induction n with
  | zero =>
    intro l0 l1 l2 l3 M sz sl h
    exact nomatch (show (none : Option (Int32 × mM × Nat × Nat)) = some ((1 : Int32), M0, Z0, S0) from h)
  | succ n ih =>
    intro l0 l1 l2 l3 M sz sl h
    rw [B_L_law_18] at h
    obtain ⟨v20, e20, h⟩ := bO_some h
    have q := mB_L_law_24 _ ih h
    omega
set_option maxHeartbeats 4000000 in
set_option maxRecDepth 100000 in
theorem wB_L_law_18 {G : mG} {F : Nat} {x : mXT} {z0 s0 : Nat} {M0 : mM} {Z0 S0 : Nat} (X : mCX G RL cL_law 4 (some .boolean) "law" room_1 x) (hQ : mQW x) (hZm : Z0 - z0 ≤ 600000) (hSm : S0 - s0 ≤ 7302250) : ∀ (n : Nat) (l0 : Nat) (l1 : Nat) (l2 : Nat) (l3 : Int32) (M : mM) (sz : Nat) (sl : Nat), z0 ≤ sz → s0 ≤ sl → B_L_law_18 G F n l0 l1 l2 l3 M sz sl = some ((1 : Int32), M0, Z0, S0) → WW x (sz, sz - z0, sl - s0) M 18 [(0, .ref l0), (1, .ref l1), (2, .ref l2), (3, .int l3)] [] := by
  intro n
  induction n with
  | zero =>
    intro l0 l1 l2 l3 M sz sl hz0 hs0 h
    exact nomatch (show (none : Option (Int32 × mM × Nat × Nat)) = some ((1 : Int32), M0, Z0, S0) from h)
  | succ n ih =>
    intro l0 l1 l2 l3 M sz sl hz0 hs0 h
    rw [B_L_law_18] at h
    obtain ⟨v20, e20, h⟩ := bO_some h
    have q := mB_L_law_24 _ (mB_L_law_18 n) h
    refine ww_iload_n 18 X dL_law_18 3 rfl rfl ?_
    refine ww_aload_n 19 X dL_law_19 0 rfl rfl ?_
    refine ww_alen 20 X dL_law_20 e20 ?_
    refine ww_bipush 21 X (v := (8 : Int32)) dL_law_21 (by decide) ?_
    refine ww_isub 23 X dL_law_23 ?_
    exact (wB_L_law_24 X hQ hZm hSm _ (mB_L_law_18 n) ih (by omega) (by omega) h)
theorem mP_L_law {G : mG} {F : Nat} {M0 : mM} {Z0 S0 : Nat} {l0 : Nat} {M : mM} {sz : Nat} {sl : Nat} (h : P_L_law G F l0 M sz sl = some ((1 : Int32), M0, Z0, S0)) : sz ≤ Z0 ∧ sl ≤ S0 := by
  unfold P_L_law at h
  obtain ⟨Ma, ⟨⟩, h⟩ := bO_some h
  obtain ⟨M4, z4, k4, e4, h⟩ := bA_some h
  have g4 := mP_X11_init e4
  obtain ⟨M8, ⟨⟩, h⟩ := bO_some h
  obtain ⟨M12, z12, k12, e12, h⟩ := bA_some h
  have g12 := mP_X13_init e12
  have q := mB_L_law_18 F _ _ _ _ _ _ _ h
  omega
set_option maxHeartbeats 4000000 in
set_option maxRecDepth 100000 in
theorem wP_L_law {G : mG} {F : Nat} {x : mXT} {z0 s0 : Nat} {M0 : mM} {Z0 S0 : Nat} (X : mCX G RL cL_law 4 (some .boolean) "law" room_1 x) (hQ : mQW x) (hZm : Z0 - z0 ≤ 600000) (hSm : S0 - s0 ≤ 7302250) {l0 : Nat} {M : mM} {sz : Nat} {sl : Nat} (hz0 : z0 ≤ sz) (hs0 : s0 ≤ sl) (h : P_L_law G F l0 M sz sl = some ((1 : Int32), M0, Z0, S0)) : WW x (sz, sz - z0, sl - s0) M 0 [(0, .ref l0)] [] := by
  unfold P_L_law at h
  obtain ⟨Ma, ⟨⟩, h⟩ := bO_some h
  obtain ⟨M4, z4, k4, e4, h⟩ := bA_some h
  have g4 := mP_X11_init e4
  obtain ⟨M8, ⟨⟩, h⟩ := bO_some h
  obtain ⟨M12, z12, k12, e12, h⟩ := bA_some h
  have g12 := mP_X13_init e12
  have q := mB_L_law_18 F _ _ _ _ _ _ _ h
  refine ww_newO 0 X (sz := sz) (sl := sl) (z0 := z0) (s0 := s0) dL_law_0 nW_L_7 (by omega) (by omega) (by show _ ≤ 600000; omega) (by show _ ≤ 7302250; omega) ?_
  refine ww_dup 3 X dL_law_3 rfl ?_
  refine ww_callIVa 4 X (sz := (sz + 1)) (sl := (sl + 18)) (z0 := z0) (s0 := s0) dL_law_4 mY_X11_init mL_L_9 (As := []) (rest := [.ref sz]) rfl rfl ⟨Nat.le_of_ble_eq_true rfl, Nat.le_of_ble_eq_true rfl⟩ (by omega) (by omega) (by omega) (by omega) (by show _ ≤ 600000; omega) (by show _ ≤ 7302250; omega) (Nat.le_of_ble_eq_true rfl) (fun l D A => c_X11_init l D A e4) ?_
  refine ww_astore_n 7 X dL_law_7 (lv' := [(0, .ref l0), (1, .ref sz)]) rfl (by decide) [1, 0] rfl ?_
  refine ww_newO 8 X (sz := z4) (sl := k4) (z0 := z0) (s0 := s0) dL_law_8 nW_L_10 (by omega) (by omega) (by show _ ≤ 600000; omega) (by show _ ≤ 7302250; omega) ?_
  refine ww_dup 11 X dL_law_11 rfl ?_
  refine ww_callIVa 12 X (sz := (z4 + 1)) (sl := (k4 + 134)) (z0 := z0) (s0 := s0) dL_law_12 mY_X13_init mL_L_12 (As := []) (rest := [.ref z4]) rfl rfl ⟨Nat.le_of_ble_eq_true rfl, Nat.le_of_ble_eq_true rfl⟩ (by omega) (by omega) (by omega) (by omega) (by show _ ≤ 600000; omega) (by show _ ≤ 7302250; omega) (Nat.le_of_ble_eq_true rfl) (fun l D A => c_X13_init l D A e12) ?_
  refine ww_astore_n 15 X dL_law_15 (lv' := [(0, .ref l0), (1, .ref sz), (2, .ref z4)]) rfl (by decide) [1, 2, 0] rfl ?_
  refine ww_iconst 16 X (v := (0 : Int32)) dL_law_16 (by decide) ?_
  refine ww_istore_n 17 X dL_law_17 (lv' := [(0, .ref l0), (1, .ref sz), (2, .ref z4), (3, .int (0 : Int32))]) rfl (by decide) [1, 2, 3, 0] rfl ?_
  exact (wB_L_law_18 X hQ hZm hSm F _ _ _ _ _ _ _ (by omega) (by omega) h)
