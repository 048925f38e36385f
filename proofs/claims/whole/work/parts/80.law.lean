/-! THE CLAIM OUT OF ONE WALK OF THE LAW'S BODY. Your part is whole_start (and what it stands on); all else here is the same for every law, but numbers. -/
def R_law : String := "DistanceLabelsLaw"
def lw_P (b : Addr) (xs : List Int32) (args : Array Value) (s : State) : Prop := args = #[.ref b] ∧ s.IntsAt b xs ∧ xs.length ≤ 2560 ∧ (Jvm.Cond.and given_1 narrow_1).before args s = true
def lw_Q (_ : Array Value) (s : State) (o : Outcome) (t : State) : Prop := o = .returned (some (.int 1)) ∧ Framed s o t [] 600000 7302250
def lw_Z (below : List Frame) (a : Array Value) (s : State) : State → Prop := fun t => ∃ o, t.status = .running ∧ Ended t below o ∧ lw_Q a s o t
/-- the law's own end, with 1 on the stack, nothing written that was there before, its room as the claim has it -/
theorem lw_ret {p : Program} {l : Launch} {e : Env} {s : State} {m : MethodId} {below : List Frame} {meth : Method} {c : Code} {b : Nat} (hx : p.tables.exec = Jvm.exec) (hb : c.code = code) (hr : meth.sig.returnType = ret) (hlocks : meth.locks = false) {pc : Nat} {H : Heap} {ls : Array Slot} (hdg : decode code pc = .ok (.ireturn, 1)) : W p l e room_1 s m #[Value.ref b] below meth c H [] 600000 7302250 (lw_Z below #[Value.ref b] s) (F0 m pc ls [.int 1]) := by
  intro T hT X
  obtain ⟨fs, hret, hrun, hended, hW, hframe⟩ := X.leave (v := some (.int 1)) (hlocks := hlocks) (fun h => by rw [hr] at h; cases h)
  have hmeth' : T.vm.method? m = some meth := X.method'
  refine ⟨T.setFrames fs, ?_, .returned (some (.int 1)), hrun, hended, rfl, ⟨_, rfl⟩, hW, hframe⟩
  jvm_step X.here [X.here.top, hx, hb, hdg, hmeth', hr, ret, narrow_b1]
  (try refine ⟨rfl, ?_⟩); (try refine ⟨rfl, ?_⟩)
  first | (intro acts; rw [hret _ acts rfl rfl rfl]) | rw [hret _ _ rfl rfl rfl]
  exact Steps.refl _
/-- what holds at the law's entry: the machine, the code, the tables' words (any of lw_tbl by 'hts w (by decide +kernel)'), the script of L ints xs at the cell b, what the Statement gives of the start (any of its parts by flat_of_before) -/
def lw_At (p : Program) (s : State) (m : MethodId) (meth : Method) (c : Code) (b L : Nat) (xs : Nat → Int32) : Prop :=
  p.tables.exec = Jvm.exec ∧ c.code = code ∧ meth.sig.returnType = ret ∧ c.maxLocals = 4 ∧ s.vm.findClass R_law = some m.cls ∧ (∀ w ∈ lw_tbl, w.before #[Value.ref b] s = true) ∧ va_X b L xs s s.heap ∧ b < s.heap.size ∧ meth.locks = false ∧ (Jvm.Cond.and given_1 narrow_1).before #[Value.ref b] s = true
theorem k_204 : Cond.methodLink "DistanceLabelsLaw" 41 y_R_landmark ∈ hm_big := hm_inT 473 (by decide +kernel) (by decide +kernel)
theorem k_205 : Cond.instanceMethod y_R_landmark ∈ hm_big := hm_inT 474 (by decide +kernel) (by decide +kernel)
theorem k_206 : Cond.selects "DistanceLabelsModel" y_R_landmark y_R_landmark ∈ hm_big := hm_inT 475 (by decide +kernel) (by decide +kernel)
theorem k_207 : Cond.methodLink "DistanceLabelsLaw" 37 y_D_landmark ∈ hm_big := hm_inT 179 (by decide +kernel) (by decide +kernel)
theorem k_208 : Cond.instanceMethod y_D_landmark ∈ hm_big := hm_inT 180 (by decide +kernel) (by decide +kernel)
theorem k_209 : Cond.selects "DistanceLabels" y_D_landmark y_D_landmark ∈ hm_big := hm_inT 181 (by decide +kernel) (by decide +kernel)
theorem k_210 : Cond.methodLink "DistanceLabelsLaw" 13 y_D_node ∈ hm_big := hm_inT 130 (by decide +kernel) (by decide +kernel)
theorem k_211 : Cond.instanceMethod y_D_node ∈ hm_big := hm_inT 131 (by decide +kernel) (by decide +kernel)
theorem k_212 : Cond.selects "DistanceLabels" y_D_node y_D_node ∈ hm_big := hm_inT 132 (by decide +kernel) (by decide +kernel)
theorem k_213 : Cond.methodLink "DistanceLabelsLaw" 17 y_R_node ∈ hm_big := hm_inT 438 (by decide +kernel) (by decide +kernel)
theorem k_214 : Cond.instanceMethod y_R_node ∈ hm_big := hm_inT 439 (by decide +kernel) (by decide +kernel)
theorem k_215 : Cond.selects "DistanceLabelsModel" y_R_node y_R_node ∈ hm_big := hm_inT 440 (by decide +kernel) (by decide +kernel)
theorem k_216 : Cond.methodLink "DistanceLabelsLaw" 18 y_D_arc ∈ hm_big := hm_inT 142 (by decide +kernel) (by decide +kernel)
theorem k_217 : Cond.instanceMethod y_D_arc ∈ hm_big := hm_inT 143 (by decide +kernel) (by decide +kernel)
theorem k_218 : Cond.selects "DistanceLabels" y_D_arc y_D_arc ∈ hm_big := hm_inT 144 (by decide +kernel) (by decide +kernel)
theorem k_219 : Cond.methodLink "DistanceLabelsLaw" 22 y_R_arc ∈ hm_big := hm_inT 442 (by decide +kernel) (by decide +kernel)
theorem k_220 : Cond.instanceMethod y_R_arc ∈ hm_big := hm_inT 443 (by decide +kernel) (by decide +kernel)
theorem k_221 : Cond.selects "DistanceLabelsModel" y_R_arc y_R_arc ∈ hm_big := hm_inT 444 (by decide +kernel) (by decide +kernel)
theorem k_222 : Cond.methodLink "DistanceLabelsLaw" 23 y_D_lose ∈ hm_big := hm_inT 158 (by decide +kernel) (by decide +kernel)
theorem k_223 : Cond.instanceMethod y_D_lose ∈ hm_big := hm_inT 159 (by decide +kernel) (by decide +kernel)
theorem k_224 : Cond.selects "DistanceLabels" y_D_lose y_D_lose ∈ hm_big := hm_inT 160 (by decide +kernel) (by decide +kernel)
theorem k_225 : Cond.methodLink "DistanceLabelsLaw" 27 y_R_lose ∈ hm_big := hm_inT 457 (by decide +kernel) (by decide +kernel)
theorem k_226 : Cond.instanceMethod y_R_lose ∈ hm_big := hm_inT 458 (by decide +kernel) (by decide +kernel)
theorem k_227 : Cond.selects "DistanceLabelsModel" y_R_lose y_R_lose ∈ hm_big := hm_inT 459 (by decide +kernel) (by decide +kernel)
theorem k_228 : Cond.methodLink "DistanceLabelsLaw" 28 y_D_rank ∈ hm_big := hm_inT 166 (by decide +kernel) (by decide +kernel)
theorem k_229 : Cond.instanceMethod y_D_rank ∈ hm_big := hm_inT 167 (by decide +kernel) (by decide +kernel)
theorem k_230 : Cond.selects "DistanceLabels" y_D_rank y_D_rank ∈ hm_big := hm_inT 168 (by decide +kernel) (by decide +kernel)
theorem k_231 : Cond.methodLink "DistanceLabelsLaw" 31 y_R_rank ∈ hm_big := hm_inT 461 (by decide +kernel) (by decide +kernel)
theorem k_232 : Cond.instanceMethod y_R_rank ∈ hm_big := hm_inT 462 (by decide +kernel) (by decide +kernel)
theorem k_233 : Cond.selects "DistanceLabelsModel" y_R_rank y_R_rank ∈ hm_big := hm_inT 463 (by decide +kernel) (by decide +kernel)
theorem k_234 : Cond.methodLink "DistanceLabelsLaw" 32 y_D_ranked ∈ hm_big := hm_inT 175 (by decide +kernel) (by decide +kernel)
theorem k_235 : Cond.instanceMethod y_D_ranked ∈ hm_big := hm_inT 176 (by decide +kernel) (by decide +kernel)
theorem k_236 : Cond.selects "DistanceLabels" y_D_ranked y_D_ranked ∈ hm_big := hm_inT 177 (by decide +kernel) (by decide +kernel)
theorem k_237 : Cond.methodLink "DistanceLabelsLaw" 36 y_R_ranked ∈ hm_big := hm_inT 469 (by decide +kernel) (by decide +kernel)
theorem k_238 : Cond.instanceMethod y_R_ranked ∈ hm_big := hm_inT 470 (by decide +kernel) (by decide +kernel)
theorem k_239 : Cond.selects "DistanceLabelsModel" y_R_ranked y_R_ranked ∈ hm_big := hm_inT 471 (by decide +kernel) (by decide +kernel)
theorem k_240 : Cond.methodLink "DistanceLabelsLaw" 42 y_D_make ∈ hm_big := hm_inT 183 (by decide +kernel) (by decide +kernel)
theorem k_241 : Cond.instanceMethod y_D_make ∈ hm_big := hm_inT 184 (by decide +kernel) (by decide +kernel)
theorem k_242 : Cond.selects "DistanceLabels" y_D_make y_D_make ∈ hm_big := hm_inT 185 (by decide +kernel) (by decide +kernel)
theorem k_243 : Cond.methodLink "DistanceLabelsLaw" 45 y_R_make ∈ hm_big := hm_inT 481 (by decide +kernel) (by decide +kernel)
theorem k_244 : Cond.instanceMethod y_R_make ∈ hm_big := hm_inT 482 (by decide +kernel) (by decide +kernel)
theorem k_245 : Cond.selects "DistanceLabelsModel" y_R_make y_R_make ∈ hm_big := hm_inT 483 (by decide +kernel) (by decide +kernel)
theorem k_246 : Cond.methodLink "DistanceLabelsLaw" 46 y_D_label ∈ hm_big := hm_inT 234 (by decide +kernel) (by decide +kernel)
theorem k_247 : Cond.instanceMethod y_D_label ∈ hm_big := hm_inT 235 (by decide +kernel) (by decide +kernel)
theorem k_248 : Cond.selects "DistanceLabels" y_D_label y_D_label ∈ hm_big := hm_inT 236 (by decide +kernel) (by decide +kernel)
theorem k_249 : Cond.methodLink "DistanceLabelsLaw" 50 y_R_label ∈ hm_big := hm_inT 501 (by decide +kernel) (by decide +kernel)
theorem k_250 : Cond.instanceMethod y_R_label ∈ hm_big := hm_inT 502 (by decide +kernel) (by decide +kernel)
theorem k_251 : Cond.selects "DistanceLabelsModel" y_R_label y_R_label ∈ hm_big := hm_inT 503 (by decide +kernel) (by decide +kernel)
theorem k_252 : Cond.methodLink "DistanceLabelsLaw" 51 y_D_ask ∈ hm_big := hm_inT 253 (by decide +kernel) (by decide +kernel)
theorem k_253 : Cond.instanceMethod y_D_ask ∈ hm_big := hm_inT 254 (by decide +kernel) (by decide +kernel)
theorem k_254 : Cond.selects "DistanceLabels" y_D_ask y_D_ask ∈ hm_big := hm_inT 255 (by decide +kernel) (by decide +kernel)
theorem k_255 : Cond.methodLink "DistanceLabelsLaw" 54 y_R_ask ∈ hm_big := hm_inT 509 (by decide +kernel) (by decide +kernel)
theorem k_256 : Cond.instanceMethod y_R_ask ∈ hm_big := hm_inT 510 (by decide +kernel) (by decide +kernel)
theorem k_257 : Cond.selects "DistanceLabelsModel" y_R_ask y_R_ask ∈ hm_big := hm_inT 511 (by decide +kernel) (by decide +kernel)
theorem k_258 : Cond.methodLink "DistanceLabelsLaw" 55 y_D_meeting ∈ hm_big := hm_inT 269 (by decide +kernel) (by decide +kernel)
theorem k_259 : Cond.instanceMethod y_D_meeting ∈ hm_big := hm_inT 270 (by decide +kernel) (by decide +kernel)
theorem k_260 : Cond.selects "DistanceLabels" y_D_meeting y_D_meeting ∈ hm_big := hm_inT 271 (by decide +kernel) (by decide +kernel)
theorem k_261 : Cond.methodLink "DistanceLabelsLaw" 58 y_R_meeting ∈ hm_big := hm_inT 517 (by decide +kernel) (by decide +kernel)
theorem k_262 : Cond.instanceMethod y_R_meeting ∈ hm_big := hm_inT 518 (by decide +kernel) (by decide +kernel)
theorem k_263 : Cond.selects "DistanceLabelsModel" y_R_meeting y_R_meeting ∈ hm_big := hm_inT 519 (by decide +kernel) (by decide +kernel)
theorem k_264 : Cond.methodLink "DistanceLabelsLaw" 59 y_D_redone ∈ hm_big := hm_inT 273 (by decide +kernel) (by decide +kernel)
theorem k_265 : Cond.instanceMethod y_D_redone ∈ hm_big := hm_inT 274 (by decide +kernel) (by decide +kernel)
theorem k_266 : Cond.selects "DistanceLabels" y_D_redone y_D_redone ∈ hm_big := hm_inT 275 (by decide +kernel) (by decide +kernel)
theorem k_267 : Cond.methodLink "DistanceLabelsLaw" 62 y_R_redone ∈ hm_big := hm_inT 521 (by decide +kernel) (by decide +kernel)
theorem k_268 : Cond.instanceMethod y_R_redone ∈ hm_big := hm_inT 522 (by decide +kernel) (by decide +kernel)
theorem k_269 : Cond.selects "DistanceLabelsModel" y_R_redone y_R_redone ∈ hm_big := hm_inT 523 (by decide +kernel) (by decide +kernel)
theorem k_270 : Cond.methodLink "DistanceLabelsLaw" 63 y_D_damage ∈ hm_big := hm_inT 277 (by decide +kernel) (by decide +kernel)
theorem k_271 : Cond.instanceMethod y_D_damage ∈ hm_big := hm_inT 278 (by decide +kernel) (by decide +kernel)
theorem k_272 : Cond.selects "DistanceLabels" y_D_damage y_D_damage ∈ hm_big := hm_inT 279 (by decide +kernel) (by decide +kernel)
theorem k_273 : Cond.methodLink "DistanceLabelsLaw" 66 y_R_damage ∈ hm_big := hm_inT 525 (by decide +kernel) (by decide +kernel)
theorem k_274 : Cond.instanceMethod y_R_damage ∈ hm_big := hm_inT 526 (by decide +kernel) (by decide +kernel)
theorem k_275 : Cond.selects "DistanceLabelsModel" y_R_damage y_R_damage ∈ hm_big := hm_inT 527 (by decide +kernel) (by decide +kernel)
theorem k_276 : Cond.methodLink "DistanceLabelsLaw" 67 y_D_check ∈ hm_big := hm_inT 282 (by decide +kernel) (by decide +kernel)
theorem k_277 : Cond.instanceMethod y_D_check ∈ hm_big := hm_inT 283 (by decide +kernel) (by decide +kernel)
theorem k_278 : Cond.selects "DistanceLabels" y_D_check y_D_check ∈ hm_big := hm_inT 284 (by decide +kernel) (by decide +kernel)
theorem k_279 : Cond.methodLink "DistanceLabelsLaw" 70 y_R_check ∈ hm_big := hm_inT 530 (by decide +kernel) (by decide +kernel)
theorem k_280 : Cond.instanceMethod y_R_check ∈ hm_big := hm_inT 531 (by decide +kernel) (by decide +kernel)
theorem k_281 : Cond.selects "DistanceLabelsModel" y_R_check y_R_check ∈ hm_big := hm_inT 532 (by decide +kernel) (by decide +kernel)
theorem k_282 : Cond.methodLink "DistanceLabelsLaw" 71 y_D_shortcut ∈ hm_big := hm_inT 286 (by decide +kernel) (by decide +kernel)
theorem k_283 : Cond.instanceMethod y_D_shortcut ∈ hm_big := hm_inT 287 (by decide +kernel) (by decide +kernel)
theorem k_284 : Cond.selects "DistanceLabels" y_D_shortcut y_D_shortcut ∈ hm_big := hm_inT 288 (by decide +kernel) (by decide +kernel)
theorem k_285 : Cond.methodLink "DistanceLabelsLaw" 74 y_R_shortcut ∈ hm_big := hm_inT 534 (by decide +kernel) (by decide +kernel)
theorem k_286 : Cond.instanceMethod y_R_shortcut ∈ hm_big := hm_inT 535 (by decide +kernel) (by decide +kernel)
theorem k_287 : Cond.selects "DistanceLabelsModel" y_R_shortcut y_R_shortcut ∈ hm_big := hm_inT 536 (by decide +kernel) (by decide +kernel)
theorem k_288 : Cond.methodLink "DistanceLabelsLaw" 75 y_D_climb ∈ hm_big := hm_inT 302 (by decide +kernel) (by decide +kernel)
theorem k_289 : Cond.instanceMethod y_D_climb ∈ hm_big := hm_inT 303 (by decide +kernel) (by decide +kernel)
theorem k_290 : Cond.selects "DistanceLabels" y_D_climb y_D_climb ∈ hm_big := hm_inT 304 (by decide +kernel) (by decide +kernel)
theorem k_291 : Cond.methodLink "DistanceLabelsLaw" 78 y_R_climb ∈ hm_big := hm_inT 538 (by decide +kernel) (by decide +kernel)
theorem k_292 : Cond.instanceMethod y_R_climb ∈ hm_big := hm_inT 539 (by decide +kernel) (by decide +kernel)
theorem k_293 : Cond.selects "DistanceLabelsModel" y_R_climb y_R_climb ∈ hm_big := hm_inT 540 (by decide +kernel) (by decide +kernel)
theorem k_294 : Cond.methodLink "DistanceLabelsLaw" 79 y_D_way ∈ hm_big := hm_inT 324 (by decide +kernel) (by decide +kernel)
theorem k_295 : Cond.instanceMethod y_D_way ∈ hm_big := hm_inT 325 (by decide +kernel) (by decide +kernel)
theorem k_296 : Cond.selects "DistanceLabels" y_D_way y_D_way ∈ hm_big := hm_inT 326 (by decide +kernel) (by decide +kernel)
theorem k_297 : Cond.methodLink "DistanceLabelsLaw" 82 y_R_way ∈ hm_big := hm_inT 542 (by decide +kernel) (by decide +kernel)
theorem k_298 : Cond.instanceMethod y_R_way ∈ hm_big := hm_inT 543 (by decide +kernel) (by decide +kernel)
theorem k_299 : Cond.selects "DistanceLabelsModel" y_R_way y_R_way ∈ hm_big := hm_inT 544 (by decide +kernel) (by decide +kernel)
theorem k_300 : Cond.methodLink "DistanceLabelsLaw" 83 y_D_least ∈ hm_big := hm_inT 332 (by decide +kernel) (by decide +kernel)
theorem k_301 : Cond.instanceMethod y_D_least ∈ hm_big := hm_inT 333 (by decide +kernel) (by decide +kernel)
theorem k_302 : Cond.selects "DistanceLabels" y_D_least y_D_least ∈ hm_big := hm_inT 334 (by decide +kernel) (by decide +kernel)
theorem k_303 : Cond.methodLink "DistanceLabelsLaw" 86 y_R_least ∈ hm_big := hm_inT 550 (by decide +kernel) (by decide +kernel)
theorem k_304 : Cond.instanceMethod y_R_least ∈ hm_big := hm_inT 551 (by decide +kernel) (by decide +kernel)
theorem k_305 : Cond.selects "DistanceLabelsModel" y_R_least y_R_least ∈ hm_big := hm_inT 552 (by decide +kernel) (by decide +kernel)
theorem k_306 : Cond.methodLink "DistanceLabelsLaw" 87 y_D_most ∈ hm_big := hm_inT 346 (by decide +kernel) (by decide +kernel)
theorem k_307 : Cond.instanceMethod y_D_most ∈ hm_big := hm_inT 347 (by decide +kernel) (by decide +kernel)
theorem k_308 : Cond.selects "DistanceLabels" y_D_most y_D_most ∈ hm_big := hm_inT 348 (by decide +kernel) (by decide +kernel)
theorem k_309 : Cond.methodLink "DistanceLabelsLaw" 90 y_R_most ∈ hm_big := hm_inT 558 (by decide +kernel) (by decide +kernel)
theorem k_310 : Cond.instanceMethod y_R_most ∈ hm_big := hm_inT 559 (by decide +kernel) (by decide +kernel)
theorem k_311 : Cond.selects "DistanceLabelsModel" y_R_most y_R_most ∈ hm_big := hm_inT 560 (by decide +kernel) (by decide +kernel)
theorem k_312 : Cond.methodLink "DistanceLabelsLaw" 91 y_D_count ∈ hm_big := hm_inT 351 (by decide +kernel) (by decide +kernel)
theorem k_313 : Cond.instanceMethod y_D_count ∈ hm_big := hm_inT 352 (by decide +kernel) (by decide +kernel)
theorem k_314 : Cond.selects "DistanceLabels" y_D_count y_D_count ∈ hm_big := hm_inT 353 (by decide +kernel) (by decide +kernel)
theorem k_315 : Cond.methodLink "DistanceLabelsLaw" 94 y_R_count ∈ hm_big := hm_inT 562 (by decide +kernel) (by decide +kernel)
theorem k_316 : Cond.instanceMethod y_R_count ∈ hm_big := hm_inT 563 (by decide +kernel) (by decide +kernel)
theorem k_317 : Cond.selects "DistanceLabelsModel" y_R_count y_R_count ∈ hm_big := hm_inT 564 (by decide +kernel) (by decide +kernel)
theorem k_318 : Cond.classLink "DistanceLabelsLaw" 7 "DistanceLabels" ∈ hm_big := hm_inT 8 (by decide +kernel) (by decide +kernel)
theorem k_319 : Cond.instantiable "DistanceLabels" 9 ∈ hm_big := hm_inT 9 (by decide +kernel) (by decide +kernel)
theorem k_320 : Cond.initialized "DistanceLabels" ∈ hm_big := hm_inT 1 (by decide +kernel) (by decide +kernel)
theorem k_321 : Cond.methodLink "DistanceLabelsLaw" 9 y_D_init ∈ hm_big := hm_inT 10 (by decide +kernel) (by decide +kernel)
theorem k_322 : Cond.instanceMethod y_D_init ∈ hm_big := hm_inT 11 (by decide +kernel) (by decide +kernel)
theorem k_323 : Cond.classLink "DistanceLabelsLaw" 10 "DistanceLabelsModel" ∈ hm_big := hm_inT 355 (by decide +kernel) (by decide +kernel)
theorem k_324 : Cond.instantiable "DistanceLabelsModel" 25 ∈ hm_big := hm_inT 356 (by decide +kernel) (by decide +kernel)
theorem k_325 : Cond.initialized "DistanceLabelsModel" ∈ hm_big := hm_inT 5 (by decide +kernel) (by decide +kernel)
theorem k_326 : Cond.methodLink "DistanceLabelsLaw" 12 y_R_init ∈ hm_big := hm_inT 357 (by decide +kernel) (by decide +kernel)
theorem k_327 : Cond.instanceMethod y_R_init ∈ hm_big := hm_inT 358 (by decide +kernel) (by decide +kernel)
def hm_xld (L : Nat) (xs : Nat → Int32) (j : Int32) : Option Int32 := if j < 0 ∨ L ≤ j.toNatClampNeg then none else some (xs j.toNatClampNeg)
theorem hm_xld_of {L : Nat} {xs : Nat → Int32} {j v : Int32} (hv : hm_xld L xs j = some v) : vp_in j L ∧ v = xs j.toNatClampNeg := by
  by_cases hc : j < 0 ∨ L ≤ j.toNatClampNeg
  · cases hm_ifp hv hc
  · exact ⟨hc, (Option.some.inj (hm_ifn hv hc)).symm⟩
section HL
variable {p : Program} {l : Launch} {e : Env} {R : Room} {s : State} {m : MethodId} {args : Array Value} {below : List Frame} {meth : Method} {c : Code} {Q : State → Prop} {E : hm_E} {cc : ByteArray} {nL : Nat} {own : String} {fr lo n0 s0 nE sE : Nat} {pc : Nat} {lv lv' : List (Nat × Value)} {st : List Value} {h h' : hm_T}
theorem hm_sld (C : hm_C E cc nL own fr lo n0 s0 nE sE p R s m args c) {b L : Nat} {xs : Nat → Int32} {j v : Int32} (hX : va_X b L xs s s.heap) (hbl : b < s.heap.size) (hE : E.2.2 = s.heap.size) (d : decode cc pc = .ok (.iaload, 1)) (hv : hm_xld L xs j = some v) (k : hm_G E nL n0 s0 nE sE p l e R s m args below meth c Q (pc + 1) lv (.int v :: st) h) : hm_G E nL n0 s0 nE sE p l e R s m args below meth c Q pc lv (.int j :: .ref b :: st) h := by
  obtain ⟨h1, rfl⟩ := hm_xld_of hv
  exact ⟨k.1, k.2.1, fun H locs ls a1 a2 a3 a4 a5 => va_sld C.1 C.2.1 hX hbl (by rw [hE]; omega) a4 h1 d (k.2.2 H locs ls a1 a2 a3 a4 a5)⟩
theorem hm_slen (C : hm_C E cc nL own fr lo n0 s0 nE sE p R s m args c) {b L : Nat} {xs : Nat → Int32} (hX : va_X b L xs s s.heap) (hbl : b < s.heap.size) (hE : E.2.2 = s.heap.size) (d : decode cc pc = .ok (.arraylength, 1)) (k : hm_G E nL n0 s0 nE sE p l e R s m args below meth c Q (pc + 1) lv (.int (Int32.ofNat L) :: st) h) : hm_G E nL n0 s0 nE sE p l e R s m args below meth c Q pc lv (.ref b :: st) h :=
  ⟨k.1, k.2.1, fun H locs ls a1 a2 a3 a4 a5 => va_slen C.1 C.2.1 hX hbl (by rw [hE]; omega) a4 d (k.2.2 H locs ls a1 a2 a3 a4 a5)⟩
theorem hm_lret {b L : Nat} {xs : Nat → Int32} {v : Int32} (C : hm_C E code nL own fr lo n0 s0 nE sE p room_1 s m #[Value.ref b] c) (hr : meth.sig.returnType = ret) (hlk : meth.locks = false) (hX : va_X b L xs s s.heap) (hbl : b < s.heap.size) (hE : E.2.2 = s.heap.size) (d : decode code pc = .ok (.ireturn, 1)) (hf : some (v, h) = some ((1 : Int32), h')) (hn : nE = hm_n h' := by rfl) (hs : sE = hm_s h' := by rfl) : hm_G E nL n0 s0 (hm_n h') (hm_s h') p l e room_1 s m #[Value.ref b] below meth c (lw_Z below #[Value.ref b] s) pc lv [.int v] h := by
  subst hn
  subst hs
  cases hf
  have c1 : hm_n h ≤ n0 + 600000 := C.2.2.2.2.2.2.2.2.1
  have c2 : hm_s h ≤ s0 + 7302250 := C.2.2.2.2.2.2.2.2.2.1
  refine ⟨Nat.le_refl _, Nat.le_refl _, fun H locs ls a1 a2 a3 a4 a5 => ?_⟩
  refine va_forget (fun q hq => by have := a4.2.2 q hq; rw [hE] at this; exact this) ?_
  refine W.widen (k := 600000) (n := 7302250) (by omega) (by omega) ?_
  exact lw_ret C.1 C.2.1 hr hlk d
end HL
def f_W_law_727 (F L : Nat) (xs : Nat → Int32) (k18 : Nat → Nat → Int32 → hm_T → Option (Int32 × hm_T)) (x1 : Nat) (x2 : Nat) (x3 : Int32) (h : hm_T) : Option (Int32 × hm_T) :=
  k18 x1 x2 (x3 + (5 : Int32)) h
def f_W_law_310 (F L : Nat) (xs : Nat → Int32) (k18 : Nat → Nat → Int32 → hm_T → Option (Int32 × hm_T)) (x1 : Nat) (x2 : Nat) (x3 : Int32) (t0 : Int32) (t1 : Int32) (t2 : Nat) (t3 : Int32) (h : hm_T) : Option (Int32 × hm_T) :=
  (hm_is 4 25 h t2).bind (fun u1 => hm_and (f_R_landmark F t2 t1 t0 h) (fun v2 h2 => (if t3 = v2 then f_W_law_727 F L xs k18 x1 x2 x3 h2 else some ((0 : Int32), h2))))
def f_W_law_288 (F L : Nat) (xs : Nat → Int32) (k18 : Nat → Nat → Int32 → hm_T → Option (Int32 × hm_T)) (x1 : Nat) (x2 : Nat) (x3 : Int32) (t0 : Int32) (t1 : Int32) (t2 : Nat) (h : hm_T) : Option (Int32 × hm_T) :=
  (hm_is 3 9 h t2).bind (fun u1 => hm_and (f_D_landmark F t2 t1 t0 h) (fun v2 h2 => (hm_xld L xs (x3 + (1 : Int32))).bind (fun v3 => (hm_xld L xs (x3 + (2 : Int32))).bind (fun v4 => (if v4 = 0 then f_W_law_310 F L xs k18 x1 x2 x3 (0 : Int32) v3 x2 v2 h2 else f_W_law_310 F L xs k18 x1 x2 x3 (1 : Int32) v3 x2 v2 h2)))))
def g_W_law_18 (F L : Nat) (xs : Nat → Int32) (k18 : Nat → Nat → Int32 → hm_T → Option (Int32 × hm_T)) (x1 : Nat) (x2 : Nat) (x3 : Int32) (h : hm_T) : Option (Int32 × hm_T) :=
  (if ((Int32.ofNat L) - (5 : Int32)) < x3 then some ((1 : Int32), h) else (hm_xld L xs x3).bind (fun v2 => (if (v2 &&& (31 : Int32)) = (0 : Int32) then (hm_is 3 9 h x1).bind (fun u4 => hm_and (f_D_node F x1 h) (fun v5 h5 => (hm_is 4 25 h5 x2).bind (fun u6 => hm_and (f_R_node F x2 h5) (fun v7 h7 => (if v5 = v7 then f_W_law_727 F L xs k18 x1 x2 x3 h7 else some ((0 : Int32), h7)))))) else (if (v2 &&& (31 : Int32)) = (1 : Int32) then (hm_xld L xs (x3 + (1 : Int32))).bind (fun v10 => (hm_xld L xs (x3 + (2 : Int32))).bind (fun v11 => (hm_xld L xs (x3 + (3 : Int32))).bind (fun v12 => (hm_is 3 9 h x1).bind (fun u13 => hm_and (f_D_arc F x1 v10 v11 v12 h) (fun v14 h14 => (hm_xld L xs (x3 + (1 : Int32))).bind (fun v15 => (hm_xld L xs (x3 + (2 : Int32))).bind (fun v16 => (hm_xld L xs (x3 + (3 : Int32))).bind (fun v17 => (hm_is 4 25 h14 x2).bind (fun u18 => hm_and (f_R_arc F x2 v15 v16 v17 h14) (fun v19 h19 => (if v14 = v19 then f_W_law_727 F L xs k18 x1 x2 x3 h19 else some ((0 : Int32), h19)))))))))))) else (if (v2 &&& (31 : Int32)) = (2 : Int32) then (hm_xld L xs (x3 + (1 : Int32))).bind (fun v22 => (hm_xld L xs (x3 + (2 : Int32))).bind (fun v23 => (hm_is 3 9 h x1).bind (fun u24 => hm_and (f_D_lose F x1 v22 v23 h) (fun v25 h25 => (hm_xld L xs (x3 + (1 : Int32))).bind (fun v26 => (hm_xld L xs (x3 + (2 : Int32))).bind (fun v27 => (hm_is 4 25 h25 x2).bind (fun u28 => hm_and (f_R_lose F x2 v26 v27 h25) (fun v29 h29 => (if v25 = v29 then f_W_law_727 F L xs k18 x1 x2 x3 h29 else some ((0 : Int32), h29)))))))))) else (if (v2 &&& (31 : Int32)) = (3 : Int32) then (hm_xld L xs (x3 + (1 : Int32))).bind (fun v32 => (hm_xld L xs (x3 + (2 : Int32))).bind (fun v33 => (hm_is 3 9 h x1).bind (fun u34 => hm_and (f_D_rank F x1 v32 v33 h) (fun v35 h35 => (hm_xld L xs (x3 + (1 : Int32))).bind (fun v36 => (hm_xld L xs (x3 + (2 : Int32))).bind (fun v37 => (hm_is 4 25 h35 x2).bind (fun u38 => hm_and (f_R_rank F x2 v36 v37 h35) (fun v39 h39 => (if v35 = v39 then f_W_law_727 F L xs k18 x1 x2 x3 h39 else some ((0 : Int32), h39)))))))))) else (if (v2 &&& (31 : Int32)) = (4 : Int32) then (hm_xld L xs (x3 + (1 : Int32))).bind (fun v42 => (hm_is 3 9 h x1).bind (fun u43 => hm_and (f_D_ranked F x1 v42 h) (fun v44 h44 => (hm_xld L xs (x3 + (1 : Int32))).bind (fun v45 => (hm_is 4 25 h44 x2).bind (fun u46 => hm_and (f_R_ranked F x2 v45 h44) (fun v47 h47 => (if v44 = v47 then f_W_law_727 F L xs k18 x1 x2 x3 h47 else some ((0 : Int32), h47)))))))) else (if (v2 &&& (31 : Int32)) = (5 : Int32) then (hm_xld L xs (x3 + (1 : Int32))).bind (fun v50 => (hm_xld L xs (x3 + (2 : Int32))).bind (fun v51 => (if v51 = 0 then f_W_law_288 F L xs k18 x1 x2 x3 (0 : Int32) v50 x1 h else f_W_law_288 F L xs k18 x1 x2 x3 (1 : Int32) v50 x1 h))) else (if (v2 &&& (31 : Int32)) = (6 : Int32) then (hm_is 3 9 h x1).bind (fun u54 => hm_and (f_D_make F x1 h) (fun v55 h55 => (hm_is 4 25 h55 x2).bind (fun u56 => hm_and (f_R_make F x2 h55) (fun v57 h57 => (if v55 = v57 then f_W_law_727 F L xs k18 x1 x2 x3 h57 else some ((0 : Int32), h57)))))) else (if (v2 &&& (31 : Int32)) = (7 : Int32) then (hm_xld L xs (x3 + (1 : Int32))).bind (fun v60 => (hm_xld L xs (x3 + (2 : Int32))).bind (fun v61 => (hm_xld L xs (x3 + (3 : Int32))).bind (fun v62 => (hm_xld L xs (x3 + (4 : Int32))).bind (fun v63 => (hm_is 3 9 h x1).bind (fun u64 => hm_and (f_D_label F x1 v60 v61 v62 v63 h) (fun v65 h65 => (hm_xld L xs (x3 + (1 : Int32))).bind (fun v66 => (hm_xld L xs (x3 + (2 : Int32))).bind (fun v67 => (hm_xld L xs (x3 + (3 : Int32))).bind (fun v68 => (hm_xld L xs (x3 + (4 : Int32))).bind (fun v69 => (hm_is 4 25 h65 x2).bind (fun u70 => hm_and (f_R_label F x2 v66 v67 v68 v69 h65) (fun v71 h71 => (if v65 = v71 then f_W_law_727 F L xs k18 x1 x2 x3 h71 else some ((0 : Int32), h71)))))))))))))) else (if (v2 &&& (31 : Int32)) = (8 : Int32) then (hm_xld L xs (x3 + (1 : Int32))).bind (fun v74 => (hm_xld L xs (x3 + (2 : Int32))).bind (fun v75 => (hm_is 3 9 h x1).bind (fun u76 => hm_and (f_D_ask F x1 v74 v75 h) (fun v77 h77 => (hm_xld L xs (x3 + (1 : Int32))).bind (fun v78 => (hm_xld L xs (x3 + (2 : Int32))).bind (fun v79 => (hm_is 4 25 h77 x2).bind (fun u80 => hm_and (f_R_ask F x2 v78 v79 h77) (fun v81 h81 => (if v77 = v81 then f_W_law_727 F L xs k18 x1 x2 x3 h81 else some ((0 : Int32), h81)))))))))) else (if (v2 &&& (31 : Int32)) = (9 : Int32) then (hm_xld L xs (x3 + (1 : Int32))).bind (fun v84 => (hm_xld L xs (x3 + (2 : Int32))).bind (fun v85 => (hm_is 3 9 h x1).bind (fun u86 => hm_and (f_D_meeting F x1 v84 v85 h) (fun v87 h87 => (hm_xld L xs (x3 + (1 : Int32))).bind (fun v88 => (hm_xld L xs (x3 + (2 : Int32))).bind (fun v89 => (hm_is 4 25 h87 x2).bind (fun u90 => hm_and (f_R_meeting F x2 v88 v89 h87) (fun v91 h91 => (if v87 = v91 then f_W_law_727 F L xs k18 x1 x2 x3 h91 else some ((0 : Int32), h91)))))))))) else (if (v2 &&& (31 : Int32)) = (10 : Int32) then (hm_is 3 9 h x1).bind (fun u94 => hm_and (f_D_redone F x1 h) (fun v95 h95 => (hm_is 4 25 h95 x2).bind (fun u96 => hm_and (f_R_redone F x2 h95) (fun v97 h97 => (if v95 = v97 then f_W_law_727 F L xs k18 x1 x2 x3 h97 else some ((0 : Int32), h97)))))) else (if (v2 &&& (31 : Int32)) = (11 : Int32) then (hm_xld L xs (x3 + (1 : Int32))).bind (fun v100 => (hm_xld L xs (x3 + (2 : Int32))).bind (fun v101 => (hm_xld L xs (x3 + (3 : Int32))).bind (fun v102 => (hm_xld L xs (x3 + (4 : Int32))).bind (fun v103 => (hm_is 3 9 h x1).bind (fun u104 => hm_and (f_D_damage F x1 v100 v101 v102 v103 h) (fun v105 h105 => (hm_xld L xs (x3 + (1 : Int32))).bind (fun v106 => (hm_xld L xs (x3 + (2 : Int32))).bind (fun v107 => (hm_xld L xs (x3 + (3 : Int32))).bind (fun v108 => (hm_xld L xs (x3 + (4 : Int32))).bind (fun v109 => (hm_is 4 25 h105 x2).bind (fun u110 => hm_and (f_R_damage F x2 v106 v107 v108 v109 h105) (fun v111 h111 => (if v105 = v111 then f_W_law_727 F L xs k18 x1 x2 x3 h111 else some ((0 : Int32), h111)))))))))))))) else (if (v2 &&& (31 : Int32)) = (12 : Int32) then (hm_is 3 9 h x1).bind (fun u114 => hm_and (f_D_check F x1 h) (fun v115 h115 => (hm_is 4 25 h115 x2).bind (fun u116 => hm_and (f_R_check F x2 h115) (fun v117 h117 => (if v115 = v117 then f_W_law_727 F L xs k18 x1 x2 x3 h117 else some ((0 : Int32), h117)))))) else (if (v2 &&& (31 : Int32)) = (13 : Int32) then (hm_xld L xs (x3 + (1 : Int32))).bind (fun v120 => (hm_xld L xs (x3 + (2 : Int32))).bind (fun v121 => (hm_is 3 9 h x1).bind (fun u122 => hm_and (f_D_shortcut F x1 v120 v121 h) (fun v123 h123 => (hm_xld L xs (x3 + (1 : Int32))).bind (fun v124 => (hm_xld L xs (x3 + (2 : Int32))).bind (fun v125 => (hm_is 4 25 h123 x2).bind (fun u126 => hm_and (f_R_shortcut F x2 v124 v125 h123) (fun v127 h127 => (if v123 = v127 then f_W_law_727 F L xs k18 x1 x2 x3 h127 else some ((0 : Int32), h127)))))))))) else (if (v2 &&& (31 : Int32)) = (14 : Int32) then (hm_xld L xs (x3 + (1 : Int32))).bind (fun v130 => (hm_xld L xs (x3 + (2 : Int32))).bind (fun v131 => (hm_is 3 9 h x1).bind (fun u132 => hm_and (f_D_climb F x1 v130 v131 h) (fun v133 h133 => (hm_xld L xs (x3 + (1 : Int32))).bind (fun v134 => (hm_xld L xs (x3 + (2 : Int32))).bind (fun v135 => (hm_is 4 25 h133 x2).bind (fun u136 => hm_and (f_R_climb F x2 v134 v135 h133) (fun v137 h137 => (if v133 = v137 then f_W_law_727 F L xs k18 x1 x2 x3 h137 else some ((0 : Int32), h137)))))))))) else (if (v2 &&& (31 : Int32)) = (15 : Int32) then (hm_xld L xs (x3 + (1 : Int32))).bind (fun v140 => (hm_xld L xs (x3 + (2 : Int32))).bind (fun v141 => (hm_xld L xs (x3 + (3 : Int32))).bind (fun v142 => (hm_is 3 9 h x1).bind (fun u143 => hm_and (f_D_way F x1 v140 v141 v142 h) (fun v144 h144 => (hm_xld L xs (x3 + (1 : Int32))).bind (fun v145 => (hm_xld L xs (x3 + (2 : Int32))).bind (fun v146 => (hm_xld L xs (x3 + (3 : Int32))).bind (fun v147 => (hm_is 4 25 h144 x2).bind (fun u148 => hm_and (f_R_way F x2 v145 v146 v147 h144) (fun v149 h149 => (if v144 = v149 then f_W_law_727 F L xs k18 x1 x2 x3 h149 else some ((0 : Int32), h149)))))))))))) else (if (v2 &&& (31 : Int32)) = (16 : Int32) then (hm_xld L xs (x3 + (1 : Int32))).bind (fun v152 => (hm_xld L xs (x3 + (2 : Int32))).bind (fun v153 => (hm_is 3 9 h x1).bind (fun u154 => hm_and (f_D_least F x1 v152 v153 h) (fun v155 h155 => (hm_xld L xs (x3 + (1 : Int32))).bind (fun v156 => (hm_xld L xs (x3 + (2 : Int32))).bind (fun v157 => (hm_is 4 25 h155 x2).bind (fun u158 => hm_and (f_R_least F x2 v156 v157 h155) (fun v159 h159 => (if v155 = v159 then f_W_law_727 F L xs k18 x1 x2 x3 h159 else some ((0 : Int32), h159)))))))))) else (if (v2 &&& (31 : Int32)) = (17 : Int32) then (hm_xld L xs (x3 + (1 : Int32))).bind (fun v162 => (hm_xld L xs (x3 + (2 : Int32))).bind (fun v163 => (hm_is 3 9 h x1).bind (fun u164 => hm_and (f_D_most F x1 v162 v163 h) (fun v165 h165 => (hm_xld L xs (x3 + (1 : Int32))).bind (fun v166 => (hm_xld L xs (x3 + (2 : Int32))).bind (fun v167 => (hm_is 4 25 h165 x2).bind (fun u168 => hm_and (f_R_most F x2 v166 v167 h165) (fun v169 h169 => (if v165 = v169 then f_W_law_727 F L xs k18 x1 x2 x3 h169 else some ((0 : Int32), h169)))))))))) else (if (v2 &&& (31 : Int32)) = (18 : Int32) then (hm_xld L xs (x3 + (1 : Int32))).bind (fun v172 => (hm_is 3 9 h x1).bind (fun u173 => hm_and (f_D_count F x1 v172 h) (fun v174 h174 => (hm_xld L xs (x3 + (1 : Int32))).bind (fun v175 => (hm_is 4 25 h174 x2).bind (fun u176 => hm_and (f_R_count F x2 v175 h174) (fun v177 h177 => (if v174 = v177 then f_W_law_727 F L xs k18 x1 x2 x3 h177 else some ((0 : Int32), h177)))))))) else f_W_law_727 F L xs k18 x1 x2 x3 h)))))))))))))))))))))
def f_W_law_18 (F L : Nat) (xs : Nat → Int32) : Nat → Nat → Nat → Int32 → hm_T → Option (Int32 × hm_T)
  | 0 => fun _ _ _ _ => none
  | n + 1 => g_W_law_18 F L xs (f_W_law_18 F L xs n)
def f_W_law (F L : Nat) (xs : Nat → Int32) (h : hm_T) : Option (Int32 × hm_T) :=
  hm_and (hm_new 3 9 h) (fun q1 h1 => (f_D_init F q1 h1).bind (fun h2 => hm_and (hm_new 4 25 h2) (fun q3 h3 => (f_R_init F q3 h3).bind (fun h4 => f_W_law_18 F L xs F q1 q3 (0 : Int32) h4))))
theorem m_f_W_law_727 {F L : Nat} {xs : Nat → Int32} {h h' : hm_T} {x1 : Nat} {x2 : Nat} {x3 : Int32} {k18 : Nat → Nat → Int32 → hm_T → Option (Int32 × hm_T)} (hk18 : ∀ (y1 : Nat) (y2 : Nat) (y3 : Int32) (g : hm_T), k18 y1 y2 y3 g = some ((1 : Int32), h') → hm_le g h') (hf : f_W_law_727 F L xs k18 x1 x2 x3 h = some ((1 : Int32), h')) : hm_le h h' := by
  unfold f_W_law_727 at hf
  exact (hk18 _ _ _ _ hf)
theorem m_f_W_law_310 {F L : Nat} {xs : Nat → Int32} {h h' : hm_T} {x1 : Nat} {x2 : Nat} {x3 : Int32} {t0 : Int32} {t1 : Int32} {t2 : Nat} {t3 : Int32} {k18 : Nat → Nat → Int32 → hm_T → Option (Int32 × hm_T)} (hk18 : ∀ (y1 : Nat) (y2 : Nat) (y3 : Int32) (g : hm_T), k18 y1 y2 y3 g = some ((1 : Int32), h') → hm_le g h') (hf : f_W_law_310 F L xs k18 x1 x2 x3 t0 t1 t2 t3 h = some ((1 : Int32), h')) : hm_le h h' := by
  unfold f_W_law_310 at hf
  obtain ⟨u1, eu1, hf⟩ := hm_bind hf
  obtain ⟨v2, h2, eh2, hf⟩ := hm_and_of hf
  have mh2 := m_f_R_landmark eh2
  by_cases z3 : t3 = v2
  · have hf := hm_ifp hf z3
    exact mh2.tr ((m_f_W_law_727 hk18 hf))
  · have hf := hm_ifn hf z3
    exact mh2.tr ((hm_le.ret hf))
theorem m_f_W_law_288 {F L : Nat} {xs : Nat → Int32} {h h' : hm_T} {x1 : Nat} {x2 : Nat} {x3 : Int32} {t0 : Int32} {t1 : Int32} {t2 : Nat} {k18 : Nat → Nat → Int32 → hm_T → Option (Int32 × hm_T)} (hk18 : ∀ (y1 : Nat) (y2 : Nat) (y3 : Int32) (g : hm_T), k18 y1 y2 y3 g = some ((1 : Int32), h') → hm_le g h') (hf : f_W_law_288 F L xs k18 x1 x2 x3 t0 t1 t2 h = some ((1 : Int32), h')) : hm_le h h' := by
  unfold f_W_law_288 at hf
  obtain ⟨u1, eu1, hf⟩ := hm_bind hf
  obtain ⟨v2, h2, eh2, hf⟩ := hm_and_of hf
  have mh2 := m_f_D_landmark eh2
  obtain ⟨v3, ev3, hf⟩ := hm_bind hf
  obtain ⟨v4, ev4, hf⟩ := hm_bind hf
  by_cases z5 : v4 = 0
  · have hf := hm_ifp hf z5
    exact mh2.tr ((m_f_W_law_310 hk18 hf))
  · have hf := hm_ifn hf z5
    exact mh2.tr ((m_f_W_law_310 hk18 hf))
theorem m_g_W_law_18 {F L : Nat} {xs : Nat → Int32} {h h' : hm_T} {x1 : Nat} {x2 : Nat} {x3 : Int32} {k18 : Nat → Nat → Int32 → hm_T → Option (Int32 × hm_T)} (hk18 : ∀ (y1 : Nat) (y2 : Nat) (y3 : Int32) (g : hm_T), k18 y1 y2 y3 g = some ((1 : Int32), h') → hm_le g h') (hf : g_W_law_18 F L xs k18 x1 x2 x3 h = some ((1 : Int32), h')) : hm_le h h' := by
  unfold g_W_law_18 at hf
  by_cases z1 : ((Int32.ofNat L) - (5 : Int32)) < x3
  · have hf := hm_ifp hf z1
    exact (hm_le.ret hf)
  · have hf := hm_ifn hf z1
    obtain ⟨v2, ev2, hf⟩ := hm_bind hf
    by_cases z3 : (v2 &&& (31 : Int32)) = (0 : Int32)
    · have hf := hm_ifp hf z3
      obtain ⟨u4, eu4, hf⟩ := hm_bind hf
      obtain ⟨v5, h5, eh5, hf⟩ := hm_and_of hf
      have mh5 := m_f_D_node eh5
      obtain ⟨u6, eu6, hf⟩ := hm_bind hf
      obtain ⟨v7, h7, eh7, hf⟩ := hm_and_of hf
      have mh7 := m_f_R_node eh7
      by_cases z8 : v5 = v7
      · have hf := hm_ifp hf z8
        exact mh5.tr (mh7.tr ((m_f_W_law_727 hk18 hf)))
      · have hf := hm_ifn hf z8
        exact mh5.tr (mh7.tr ((hm_le.ret hf)))
    · have hf := hm_ifn hf z3
      by_cases z9 : (v2 &&& (31 : Int32)) = (1 : Int32)
      · have hf := hm_ifp hf z9
        obtain ⟨v10, ev10, hf⟩ := hm_bind hf
        obtain ⟨v11, ev11, hf⟩ := hm_bind hf
        obtain ⟨v12, ev12, hf⟩ := hm_bind hf
        obtain ⟨u13, eu13, hf⟩ := hm_bind hf
        obtain ⟨v14, h14, eh14, hf⟩ := hm_and_of hf
        have mh14 := m_f_D_arc eh14
        obtain ⟨v15, ev15, hf⟩ := hm_bind hf
        obtain ⟨v16, ev16, hf⟩ := hm_bind hf
        obtain ⟨v17, ev17, hf⟩ := hm_bind hf
        obtain ⟨u18, eu18, hf⟩ := hm_bind hf
        obtain ⟨v19, h19, eh19, hf⟩ := hm_and_of hf
        have mh19 := m_f_R_arc eh19
        by_cases z20 : v14 = v19
        · have hf := hm_ifp hf z20
          exact mh14.tr (mh19.tr ((m_f_W_law_727 hk18 hf)))
        · have hf := hm_ifn hf z20
          exact mh14.tr (mh19.tr ((hm_le.ret hf)))
      · have hf := hm_ifn hf z9
        by_cases z21 : (v2 &&& (31 : Int32)) = (2 : Int32)
        · have hf := hm_ifp hf z21
          obtain ⟨v22, ev22, hf⟩ := hm_bind hf
          obtain ⟨v23, ev23, hf⟩ := hm_bind hf
          obtain ⟨u24, eu24, hf⟩ := hm_bind hf
          obtain ⟨v25, h25, eh25, hf⟩ := hm_and_of hf
          have mh25 := m_f_D_lose eh25
          obtain ⟨v26, ev26, hf⟩ := hm_bind hf
          obtain ⟨v27, ev27, hf⟩ := hm_bind hf
          obtain ⟨u28, eu28, hf⟩ := hm_bind hf
          obtain ⟨v29, h29, eh29, hf⟩ := hm_and_of hf
          have mh29 := m_f_R_lose eh29
          by_cases z30 : v25 = v29
          · have hf := hm_ifp hf z30
            exact mh25.tr (mh29.tr ((m_f_W_law_727 hk18 hf)))
          · have hf := hm_ifn hf z30
            exact mh25.tr (mh29.tr ((hm_le.ret hf)))
        · have hf := hm_ifn hf z21
          by_cases z31 : (v2 &&& (31 : Int32)) = (3 : Int32)
          · have hf := hm_ifp hf z31
            obtain ⟨v32, ev32, hf⟩ := hm_bind hf
            obtain ⟨v33, ev33, hf⟩ := hm_bind hf
            obtain ⟨u34, eu34, hf⟩ := hm_bind hf
            obtain ⟨v35, h35, eh35, hf⟩ := hm_and_of hf
            have mh35 := m_f_D_rank eh35
            obtain ⟨v36, ev36, hf⟩ := hm_bind hf
            obtain ⟨v37, ev37, hf⟩ := hm_bind hf
            obtain ⟨u38, eu38, hf⟩ := hm_bind hf
            obtain ⟨v39, h39, eh39, hf⟩ := hm_and_of hf
            have mh39 := m_f_R_rank eh39
            by_cases z40 : v35 = v39
            · have hf := hm_ifp hf z40
              exact mh35.tr (mh39.tr ((m_f_W_law_727 hk18 hf)))
            · have hf := hm_ifn hf z40
              exact mh35.tr (mh39.tr ((hm_le.ret hf)))
          · have hf := hm_ifn hf z31
            by_cases z41 : (v2 &&& (31 : Int32)) = (4 : Int32)
            · have hf := hm_ifp hf z41
              obtain ⟨v42, ev42, hf⟩ := hm_bind hf
              obtain ⟨u43, eu43, hf⟩ := hm_bind hf
              obtain ⟨v44, h44, eh44, hf⟩ := hm_and_of hf
              have mh44 := m_f_D_ranked eh44
              obtain ⟨v45, ev45, hf⟩ := hm_bind hf
              obtain ⟨u46, eu46, hf⟩ := hm_bind hf
              obtain ⟨v47, h47, eh47, hf⟩ := hm_and_of hf
              have mh47 := m_f_R_ranked eh47
              by_cases z48 : v44 = v47
              · have hf := hm_ifp hf z48
                exact mh44.tr (mh47.tr ((m_f_W_law_727 hk18 hf)))
              · have hf := hm_ifn hf z48
                exact mh44.tr (mh47.tr ((hm_le.ret hf)))
            · have hf := hm_ifn hf z41
              by_cases z49 : (v2 &&& (31 : Int32)) = (5 : Int32)
              · have hf := hm_ifp hf z49
                obtain ⟨v50, ev50, hf⟩ := hm_bind hf
                obtain ⟨v51, ev51, hf⟩ := hm_bind hf
                by_cases z52 : v51 = 0
                · have hf := hm_ifp hf z52
                  exact (m_f_W_law_288 hk18 hf)
                · have hf := hm_ifn hf z52
                  exact (m_f_W_law_288 hk18 hf)
              · have hf := hm_ifn hf z49
                by_cases z53 : (v2 &&& (31 : Int32)) = (6 : Int32)
                · have hf := hm_ifp hf z53
                  obtain ⟨u54, eu54, hf⟩ := hm_bind hf
                  obtain ⟨v55, h55, eh55, hf⟩ := hm_and_of hf
                  have mh55 := m_f_D_make eh55
                  obtain ⟨u56, eu56, hf⟩ := hm_bind hf
                  obtain ⟨v57, h57, eh57, hf⟩ := hm_and_of hf
                  have mh57 := m_f_R_make eh57
                  by_cases z58 : v55 = v57
                  · have hf := hm_ifp hf z58
                    exact mh55.tr (mh57.tr ((m_f_W_law_727 hk18 hf)))
                  · have hf := hm_ifn hf z58
                    exact mh55.tr (mh57.tr ((hm_le.ret hf)))
                · have hf := hm_ifn hf z53
                  by_cases z59 : (v2 &&& (31 : Int32)) = (7 : Int32)
                  · have hf := hm_ifp hf z59
                    obtain ⟨v60, ev60, hf⟩ := hm_bind hf
                    obtain ⟨v61, ev61, hf⟩ := hm_bind hf
                    obtain ⟨v62, ev62, hf⟩ := hm_bind hf
                    obtain ⟨v63, ev63, hf⟩ := hm_bind hf
                    obtain ⟨u64, eu64, hf⟩ := hm_bind hf
                    obtain ⟨v65, h65, eh65, hf⟩ := hm_and_of hf
                    have mh65 := m_f_D_label eh65
                    obtain ⟨v66, ev66, hf⟩ := hm_bind hf
                    obtain ⟨v67, ev67, hf⟩ := hm_bind hf
                    obtain ⟨v68, ev68, hf⟩ := hm_bind hf
                    obtain ⟨v69, ev69, hf⟩ := hm_bind hf
                    obtain ⟨u70, eu70, hf⟩ := hm_bind hf
                    obtain ⟨v71, h71, eh71, hf⟩ := hm_and_of hf
                    have mh71 := m_f_R_label eh71
                    by_cases z72 : v65 = v71
                    · have hf := hm_ifp hf z72
                      exact mh65.tr (mh71.tr ((m_f_W_law_727 hk18 hf)))
                    · have hf := hm_ifn hf z72
                      exact mh65.tr (mh71.tr ((hm_le.ret hf)))
                  · have hf := hm_ifn hf z59
                    by_cases z73 : (v2 &&& (31 : Int32)) = (8 : Int32)
                    · have hf := hm_ifp hf z73
                      obtain ⟨v74, ev74, hf⟩ := hm_bind hf
                      obtain ⟨v75, ev75, hf⟩ := hm_bind hf
                      obtain ⟨u76, eu76, hf⟩ := hm_bind hf
                      obtain ⟨v77, h77, eh77, hf⟩ := hm_and_of hf
                      have mh77 := m_f_D_ask eh77
                      obtain ⟨v78, ev78, hf⟩ := hm_bind hf
                      obtain ⟨v79, ev79, hf⟩ := hm_bind hf
                      obtain ⟨u80, eu80, hf⟩ := hm_bind hf
                      obtain ⟨v81, h81, eh81, hf⟩ := hm_and_of hf
                      have mh81 := m_f_R_ask eh81
                      by_cases z82 : v77 = v81
                      · have hf := hm_ifp hf z82
                        exact mh77.tr (mh81.tr ((m_f_W_law_727 hk18 hf)))
                      · have hf := hm_ifn hf z82
                        exact mh77.tr (mh81.tr ((hm_le.ret hf)))
                    · have hf := hm_ifn hf z73
                      by_cases z83 : (v2 &&& (31 : Int32)) = (9 : Int32)
                      · have hf := hm_ifp hf z83
                        obtain ⟨v84, ev84, hf⟩ := hm_bind hf
                        obtain ⟨v85, ev85, hf⟩ := hm_bind hf
                        obtain ⟨u86, eu86, hf⟩ := hm_bind hf
                        obtain ⟨v87, h87, eh87, hf⟩ := hm_and_of hf
                        have mh87 := m_f_D_meeting eh87
                        obtain ⟨v88, ev88, hf⟩ := hm_bind hf
                        obtain ⟨v89, ev89, hf⟩ := hm_bind hf
                        obtain ⟨u90, eu90, hf⟩ := hm_bind hf
                        obtain ⟨v91, h91, eh91, hf⟩ := hm_and_of hf
                        have mh91 := m_f_R_meeting eh91
                        by_cases z92 : v87 = v91
                        · have hf := hm_ifp hf z92
                          exact mh87.tr (mh91.tr ((m_f_W_law_727 hk18 hf)))
                        · have hf := hm_ifn hf z92
                          exact mh87.tr (mh91.tr ((hm_le.ret hf)))
                      · have hf := hm_ifn hf z83
                        by_cases z93 : (v2 &&& (31 : Int32)) = (10 : Int32)
                        · have hf := hm_ifp hf z93
                          obtain ⟨u94, eu94, hf⟩ := hm_bind hf
                          obtain ⟨v95, h95, eh95, hf⟩ := hm_and_of hf
                          have mh95 := m_f_D_redone eh95
                          obtain ⟨u96, eu96, hf⟩ := hm_bind hf
                          obtain ⟨v97, h97, eh97, hf⟩ := hm_and_of hf
                          have mh97 := m_f_R_redone eh97
                          by_cases z98 : v95 = v97
                          · have hf := hm_ifp hf z98
                            exact mh95.tr (mh97.tr ((m_f_W_law_727 hk18 hf)))
                          · have hf := hm_ifn hf z98
                            exact mh95.tr (mh97.tr ((hm_le.ret hf)))
                        · have hf := hm_ifn hf z93
                          by_cases z99 : (v2 &&& (31 : Int32)) = (11 : Int32)
                          · have hf := hm_ifp hf z99
                            obtain ⟨v100, ev100, hf⟩ := hm_bind hf
                            obtain ⟨v101, ev101, hf⟩ := hm_bind hf
                            obtain ⟨v102, ev102, hf⟩ := hm_bind hf
                            obtain ⟨v103, ev103, hf⟩ := hm_bind hf
                            obtain ⟨u104, eu104, hf⟩ := hm_bind hf
                            obtain ⟨v105, h105, eh105, hf⟩ := hm_and_of hf
                            have mh105 := m_f_D_damage eh105
                            obtain ⟨v106, ev106, hf⟩ := hm_bind hf
                            obtain ⟨v107, ev107, hf⟩ := hm_bind hf
                            obtain ⟨v108, ev108, hf⟩ := hm_bind hf
                            obtain ⟨v109, ev109, hf⟩ := hm_bind hf
                            obtain ⟨u110, eu110, hf⟩ := hm_bind hf
                            obtain ⟨v111, h111, eh111, hf⟩ := hm_and_of hf
                            have mh111 := m_f_R_damage eh111
                            by_cases z112 : v105 = v111
                            · have hf := hm_ifp hf z112
                              exact mh105.tr (mh111.tr ((m_f_W_law_727 hk18 hf)))
                            · have hf := hm_ifn hf z112
                              exact mh105.tr (mh111.tr ((hm_le.ret hf)))
                          · have hf := hm_ifn hf z99
                            by_cases z113 : (v2 &&& (31 : Int32)) = (12 : Int32)
                            · have hf := hm_ifp hf z113
                              obtain ⟨u114, eu114, hf⟩ := hm_bind hf
                              obtain ⟨v115, h115, eh115, hf⟩ := hm_and_of hf
                              have mh115 := m_f_D_check eh115
                              obtain ⟨u116, eu116, hf⟩ := hm_bind hf
                              obtain ⟨v117, h117, eh117, hf⟩ := hm_and_of hf
                              have mh117 := m_f_R_check eh117
                              by_cases z118 : v115 = v117
                              · have hf := hm_ifp hf z118
                                exact mh115.tr (mh117.tr ((m_f_W_law_727 hk18 hf)))
                              · have hf := hm_ifn hf z118
                                exact mh115.tr (mh117.tr ((hm_le.ret hf)))
                            · have hf := hm_ifn hf z113
                              by_cases z119 : (v2 &&& (31 : Int32)) = (13 : Int32)
                              · have hf := hm_ifp hf z119
                                obtain ⟨v120, ev120, hf⟩ := hm_bind hf
                                obtain ⟨v121, ev121, hf⟩ := hm_bind hf
                                obtain ⟨u122, eu122, hf⟩ := hm_bind hf
                                obtain ⟨v123, h123, eh123, hf⟩ := hm_and_of hf
                                have mh123 := m_f_D_shortcut eh123
                                obtain ⟨v124, ev124, hf⟩ := hm_bind hf
                                obtain ⟨v125, ev125, hf⟩ := hm_bind hf
                                obtain ⟨u126, eu126, hf⟩ := hm_bind hf
                                obtain ⟨v127, h127, eh127, hf⟩ := hm_and_of hf
                                have mh127 := m_f_R_shortcut eh127
                                by_cases z128 : v123 = v127
                                · have hf := hm_ifp hf z128
                                  exact mh123.tr (mh127.tr ((m_f_W_law_727 hk18 hf)))
                                · have hf := hm_ifn hf z128
                                  exact mh123.tr (mh127.tr ((hm_le.ret hf)))
                              · have hf := hm_ifn hf z119
                                by_cases z129 : (v2 &&& (31 : Int32)) = (14 : Int32)
                                · have hf := hm_ifp hf z129
                                  obtain ⟨v130, ev130, hf⟩ := hm_bind hf
                                  obtain ⟨v131, ev131, hf⟩ := hm_bind hf
                                  obtain ⟨u132, eu132, hf⟩ := hm_bind hf
                                  obtain ⟨v133, h133, eh133, hf⟩ := hm_and_of hf
                                  have mh133 := m_f_D_climb eh133
                                  obtain ⟨v134, ev134, hf⟩ := hm_bind hf
                                  obtain ⟨v135, ev135, hf⟩ := hm_bind hf
                                  obtain ⟨u136, eu136, hf⟩ := hm_bind hf
                                  obtain ⟨v137, h137, eh137, hf⟩ := hm_and_of hf
                                  have mh137 := m_f_R_climb eh137
                                  by_cases z138 : v133 = v137
                                  · have hf := hm_ifp hf z138
                                    exact mh133.tr (mh137.tr ((m_f_W_law_727 hk18 hf)))
                                  · have hf := hm_ifn hf z138
                                    exact mh133.tr (mh137.tr ((hm_le.ret hf)))
                                · have hf := hm_ifn hf z129
                                  by_cases z139 : (v2 &&& (31 : Int32)) = (15 : Int32)
                                  · have hf := hm_ifp hf z139
                                    obtain ⟨v140, ev140, hf⟩ := hm_bind hf
                                    obtain ⟨v141, ev141, hf⟩ := hm_bind hf
                                    obtain ⟨v142, ev142, hf⟩ := hm_bind hf
                                    obtain ⟨u143, eu143, hf⟩ := hm_bind hf
                                    obtain ⟨v144, h144, eh144, hf⟩ := hm_and_of hf
                                    have mh144 := m_f_D_way eh144
                                    obtain ⟨v145, ev145, hf⟩ := hm_bind hf
                                    obtain ⟨v146, ev146, hf⟩ := hm_bind hf
                                    obtain ⟨v147, ev147, hf⟩ := hm_bind hf
                                    obtain ⟨u148, eu148, hf⟩ := hm_bind hf
                                    obtain ⟨v149, h149, eh149, hf⟩ := hm_and_of hf
                                    have mh149 := m_f_R_way eh149
                                    by_cases z150 : v144 = v149
                                    · have hf := hm_ifp hf z150
                                      exact mh144.tr (mh149.tr ((m_f_W_law_727 hk18 hf)))
                                    · have hf := hm_ifn hf z150
                                      exact mh144.tr (mh149.tr ((hm_le.ret hf)))
                                  · have hf := hm_ifn hf z139
                                    by_cases z151 : (v2 &&& (31 : Int32)) = (16 : Int32)
                                    · have hf := hm_ifp hf z151
                                      obtain ⟨v152, ev152, hf⟩ := hm_bind hf
                                      obtain ⟨v153, ev153, hf⟩ := hm_bind hf
                                      obtain ⟨u154, eu154, hf⟩ := hm_bind hf
                                      obtain ⟨v155, h155, eh155, hf⟩ := hm_and_of hf
                                      have mh155 := m_f_D_least eh155
                                      obtain ⟨v156, ev156, hf⟩ := hm_bind hf
                                      obtain ⟨v157, ev157, hf⟩ := hm_bind hf
                                      obtain ⟨u158, eu158, hf⟩ := hm_bind hf
                                      obtain ⟨v159, h159, eh159, hf⟩ := hm_and_of hf
                                      have mh159 := m_f_R_least eh159
                                      by_cases z160 : v155 = v159
                                      · have hf := hm_ifp hf z160
                                        exact mh155.tr (mh159.tr ((m_f_W_law_727 hk18 hf)))
                                      · have hf := hm_ifn hf z160
                                        exact mh155.tr (mh159.tr ((hm_le.ret hf)))
                                    · have hf := hm_ifn hf z151
                                      by_cases z161 : (v2 &&& (31 : Int32)) = (17 : Int32)
                                      · have hf := hm_ifp hf z161
                                        obtain ⟨v162, ev162, hf⟩ := hm_bind hf
                                        obtain ⟨v163, ev163, hf⟩ := hm_bind hf
                                        obtain ⟨u164, eu164, hf⟩ := hm_bind hf
                                        obtain ⟨v165, h165, eh165, hf⟩ := hm_and_of hf
                                        have mh165 := m_f_D_most eh165
                                        obtain ⟨v166, ev166, hf⟩ := hm_bind hf
                                        obtain ⟨v167, ev167, hf⟩ := hm_bind hf
                                        obtain ⟨u168, eu168, hf⟩ := hm_bind hf
                                        obtain ⟨v169, h169, eh169, hf⟩ := hm_and_of hf
                                        have mh169 := m_f_R_most eh169
                                        by_cases z170 : v165 = v169
                                        · have hf := hm_ifp hf z170
                                          exact mh165.tr (mh169.tr ((m_f_W_law_727 hk18 hf)))
                                        · have hf := hm_ifn hf z170
                                          exact mh165.tr (mh169.tr ((hm_le.ret hf)))
                                      · have hf := hm_ifn hf z161
                                        by_cases z171 : (v2 &&& (31 : Int32)) = (18 : Int32)
                                        · have hf := hm_ifp hf z171
                                          obtain ⟨v172, ev172, hf⟩ := hm_bind hf
                                          obtain ⟨u173, eu173, hf⟩ := hm_bind hf
                                          obtain ⟨v174, h174, eh174, hf⟩ := hm_and_of hf
                                          have mh174 := m_f_D_count eh174
                                          obtain ⟨v175, ev175, hf⟩ := hm_bind hf
                                          obtain ⟨u176, eu176, hf⟩ := hm_bind hf
                                          obtain ⟨v177, h177, eh177, hf⟩ := hm_and_of hf
                                          have mh177 := m_f_R_count eh177
                                          by_cases z178 : v174 = v177
                                          · have hf := hm_ifp hf z178
                                            exact mh174.tr (mh177.tr ((m_f_W_law_727 hk18 hf)))
                                          · have hf := hm_ifn hf z178
                                            exact mh174.tr (mh177.tr ((hm_le.ret hf)))
                                        · have hf := hm_ifn hf z171
                                          exact (m_f_W_law_727 hk18 hf)
theorem m_W_law_18L {F L : Nat} {xs : Nat → Int32} {h' : hm_T} : ∀ (N : Nat) (x1 : Nat) (x2 : Nat) (x3 : Int32) (h : hm_T), f_W_law_18 F L xs N x1 x2 x3 h = some ((1 : Int32), h') → hm_le h h' := by
  intro N
  induction N with
  | zero => intro _ _ _ _ hf; cases hf
  | succ n ih => intro x1 x2 x3 h hf; exact m_g_W_law_18 ih hf
theorem m_f_W_law {F L : Nat} {xs : Nat → Int32} {h h' : hm_T} (hf : f_W_law F L xs h = some ((1 : Int32), h')) : hm_le h h' := by
  unfold f_W_law at hf
  obtain ⟨q1, h1, eh1, hf⟩ := hm_and_of hf
  have mh1 := hm_le.new eh1
  obtain ⟨h2, eh2, hf⟩ := hm_bind hf
  have mh2 := m_f_D_init eh2
  obtain ⟨q3, h3, eh3, hf⟩ := hm_and_of hf
  have mh3 := hm_le.new eh3
  obtain ⟨h4, eh4, hf⟩ := hm_bind hf
  have mh4 := m_f_R_init eh4
  exact mh1.tr (mh2.tr (mh3.tr (mh4.tr ((m_W_law_18L _ _ _ _ _ hf)))))
set_option maxRecDepth 20000 in
set_option maxHeartbeats 1000000 in
theorem w_f_W_law_727 {p : Program} {l : Launch} {e : Env} {s : State} {m : MethodId} {below : List Frame} {meth : Method} {c : Code} {E : hm_E} {n0 s0 F L b0 : Nat} {xs : Nat → Int32} {h h' : hm_T} {x1 : Nat} {x2 : Nat} {x3 : Int32} {k18 : Nat → Nat → Int32 → hm_T → Option (Int32 × hm_T)} (C : hm_C E code 4 "DistanceLabelsLaw" 6 145 n0 s0 (hm_n h') (hm_s h') p room_1 s m #[Value.ref b0] c) (hr : meth.sig.returnType = ret) (hlk : meth.locks = false) (hX : va_X b0 L xs s s.heap) (hbl : b0 < s.heap.size) (hE : E.2.2 = s.heap.size) (hk18 : ∀ (y1 : Nat) (y2 : Nat) (y3 : Int32) (g : hm_T), k18 y1 y2 y3 g = some ((1 : Int32), h') → hm_G E 4 n0 s0 (hm_n h') (hm_s h') p l e room_1 s m #[Value.ref b0] below meth c (lw_Z below #[Value.ref b0] s) 18 [(0, .ref b0), (1, .ref y1), (2, .ref y2), (3, .int y3)] [] g) (hf : f_W_law_727 F L xs k18 x1 x2 x3 h = some ((1 : Int32), h')) : hm_G E 4 n0 s0 (hm_n h') (hm_s h') p l e room_1 s m #[Value.ref b0] below meth c (lw_Z below #[Value.ref b0] s) 727 [(0, .ref b0), (1, .ref x1), (2, .ref x2), (3, .int x3)] [] h := by
  unfold f_W_law_727 at hf
  refine hm_iinc (v := (x3 + (5 : Int32))) (lv' := [(3, .int (x3 + (5 : Int32))), (0, .ref b0), (1, .ref x1), (2, .ref x2)]) C d_W_law_727 3 rfl rfl (by decide) rfl ?_
  refine hm_goto (tgt := 18) C d_W_law_730 (by decide) ?_
  refine hm_sub (lv' := [(0, .ref b0), (1, .ref x1), (2, .ref x2), (3, .int (x3 + (5 : Int32)))]) [1, 2, 3, 0] rfl ?_
  exact hk18 _ _ _ _ hf
set_option maxRecDepth 20000 in
set_option maxHeartbeats 1000000 in
theorem w_f_W_law_310 {p : Program} {l : Launch} {e : Env} {s : State} {m : MethodId} {below : List Frame} {meth : Method} {c : Code} {E : hm_E} {n0 s0 F L b0 : Nat} {xs : Nat → Int32} {h h' : hm_T} {x1 : Nat} {x2 : Nat} {x3 : Int32} {t0 : Int32} {t1 : Int32} {t2 : Nat} {t3 : Int32} {k18 : Nat → Nat → Int32 → hm_T → Option (Int32 × hm_T)} (C : hm_C E code 4 "DistanceLabelsLaw" 6 145 n0 s0 (hm_n h') (hm_s h') p room_1 s m #[Value.ref b0] c) (hr : meth.sig.returnType = ret) (hlk : meth.locks = false) (hX : va_X b0 L xs s s.heap) (hbl : b0 < s.heap.size) (hE : E.2.2 = s.heap.size) (hk18 : ∀ (y1 : Nat) (y2 : Nat) (y3 : Int32) (g : hm_T), k18 y1 y2 y3 g = some ((1 : Int32), h') → hm_G E 4 n0 s0 (hm_n h') (hm_s h') p l e room_1 s m #[Value.ref b0] below meth c (lw_Z below #[Value.ref b0] s) 18 [(0, .ref b0), (1, .ref y1), (2, .ref y2), (3, .int y3)] [] g) (hf : f_W_law_310 F L xs k18 x1 x2 x3 t0 t1 t2 t3 h = some ((1 : Int32), h')) : hm_G E 4 n0 s0 (hm_n h') (hm_s h') p l e room_1 s m #[Value.ref b0] below meth c (lw_Z below #[Value.ref b0] s) 310 [(0, .ref b0), (1, .ref x1), (2, .ref x2), (3, .int x3)] [.int t0, .int t1, .ref t2, .int t3] h := by
  unfold f_W_law_310 at hf
  obtain ⟨u1, eu1, hf⟩ := hm_bind hf
  obtain ⟨v2, h2, eh2, hf⟩ := hm_and_of hf
  refine hm_callV (vs := [.int t1, .int t0]) (st := [.int t3]) (sb := [.int v2, .int t3]) C (c_R_landmark eh2) Y_R_landmark F_4 eu1 k_205 k_206 k_204 (by decide) (by decide) rfl (Nat.le_of_ble_eq_true rfl) d_W_law_310 rfl rfl ?_
  refine hm_icmp_eq (tgt := 727) C d_W_law_313 (by decide) (fun z3 => ?_) (fun z3 => ?_)
  · have hf := hm_ifp hf z3
    exact w_f_W_law_727 C hr hlk hX hbl hE hk18 hf
  · have hf := hm_ifn hf z3
    refine hm_iconst (v := (0 : Int32)) C d_W_law_316 (by decide) ?_
    exact hm_lret C hr hlk hX hbl hE d_W_law_317 hf
set_option maxRecDepth 20000 in
set_option maxHeartbeats 1000000 in
theorem w_f_W_law_288 {p : Program} {l : Launch} {e : Env} {s : State} {m : MethodId} {below : List Frame} {meth : Method} {c : Code} {E : hm_E} {n0 s0 F L b0 : Nat} {xs : Nat → Int32} {h h' : hm_T} {x1 : Nat} {x2 : Nat} {x3 : Int32} {t0 : Int32} {t1 : Int32} {t2 : Nat} {k18 : Nat → Nat → Int32 → hm_T → Option (Int32 × hm_T)} (C : hm_C E code 4 "DistanceLabelsLaw" 6 145 n0 s0 (hm_n h') (hm_s h') p room_1 s m #[Value.ref b0] c) (hr : meth.sig.returnType = ret) (hlk : meth.locks = false) (hX : va_X b0 L xs s s.heap) (hbl : b0 < s.heap.size) (hE : E.2.2 = s.heap.size) (hk18 : ∀ (y1 : Nat) (y2 : Nat) (y3 : Int32) (g : hm_T), k18 y1 y2 y3 g = some ((1 : Int32), h') → hm_G E 4 n0 s0 (hm_n h') (hm_s h') p l e room_1 s m #[Value.ref b0] below meth c (lw_Z below #[Value.ref b0] s) 18 [(0, .ref b0), (1, .ref y1), (2, .ref y2), (3, .int y3)] [] g) (hf : f_W_law_288 F L xs k18 x1 x2 x3 t0 t1 t2 h = some ((1 : Int32), h')) : hm_G E 4 n0 s0 (hm_n h') (hm_s h') p l e room_1 s m #[Value.ref b0] below meth c (lw_Z below #[Value.ref b0] s) 288 [(0, .ref b0), (1, .ref x1), (2, .ref x2), (3, .int x3)] [.int t0, .int t1, .ref t2] h := by
  unfold f_W_law_288 at hf
  obtain ⟨u1, eu1, hf⟩ := hm_bind hf
  obtain ⟨v2, h2, eh2, hf⟩ := hm_and_of hf
  refine hm_callV (vs := [.int t1, .int t0]) (st := []) (sb := [.int v2]) C (c_D_landmark eh2) Y_D_landmark F_3 eu1 k_208 k_209 k_207 (by decide) (by decide) rfl (Nat.le_of_ble_eq_true rfl) d_W_law_288 rfl rfl ?_
  refine hm_aload_n C d_W_law_291 rfl 2 rfl ?_
  refine hm_aload_n C d_W_law_292 rfl 0 rfl ?_
  refine hm_iload_n C d_W_law_293 rfl 3 rfl ?_
  refine hm_iconst (v := (1 : Int32)) C d_W_law_294 (by decide) ?_
  refine hm_iadd C d_W_law_295 ?_
  obtain ⟨v3, ev3, hf⟩ := hm_bind hf
  refine hm_sld C hX hbl hE d_W_law_296 ev3 ?_
  refine hm_aload_n C d_W_law_297 rfl 0 rfl ?_
  refine hm_iload_n C d_W_law_298 rfl 3 rfl ?_
  refine hm_iconst (v := (2 : Int32)) C d_W_law_299 (by decide) ?_
  refine hm_iadd C d_W_law_300 ?_
  obtain ⟨v4, ev4, hf⟩ := hm_bind hf
  refine hm_sld C hX hbl hE d_W_law_301 ev4 ?_
  refine hm_if_eq (tgt := 309) C d_W_law_302 (by decide) (fun z5 => ?_) (fun z5 => ?_)
  · have hf := hm_ifp hf z5
    refine hm_iconst (v := (0 : Int32)) C d_W_law_309 (by decide) ?_
    exact w_f_W_law_310 C hr hlk hX hbl hE hk18 hf
  · have hf := hm_ifn hf z5
    refine hm_iconst (v := (1 : Int32)) C d_W_law_305 (by decide) ?_
    refine hm_goto (tgt := 310) C d_W_law_306 (by decide) ?_
    exact w_f_W_law_310 C hr hlk hX hbl hE hk18 hf
set_option maxRecDepth 20000 in
set_option maxHeartbeats 1000000 in
theorem w_g_W_law_18 {p : Program} {l : Launch} {e : Env} {s : State} {m : MethodId} {below : List Frame} {meth : Method} {c : Code} {E : hm_E} {n0 s0 F L b0 : Nat} {xs : Nat → Int32} {h h' : hm_T} {x1 : Nat} {x2 : Nat} {x3 : Int32} {k18 : Nat → Nat → Int32 → hm_T → Option (Int32 × hm_T)} (C : hm_C E code 4 "DistanceLabelsLaw" 6 145 n0 s0 (hm_n h') (hm_s h') p room_1 s m #[Value.ref b0] c) (hr : meth.sig.returnType = ret) (hlk : meth.locks = false) (hX : va_X b0 L xs s s.heap) (hbl : b0 < s.heap.size) (hE : E.2.2 = s.heap.size) (hk18 : ∀ (y1 : Nat) (y2 : Nat) (y3 : Int32) (g : hm_T), k18 y1 y2 y3 g = some ((1 : Int32), h') → hm_G E 4 n0 s0 (hm_n h') (hm_s h') p l e room_1 s m #[Value.ref b0] below meth c (lw_Z below #[Value.ref b0] s) 18 [(0, .ref b0), (1, .ref y1), (2, .ref y2), (3, .int y3)] [] g) (hf : g_W_law_18 F L xs k18 x1 x2 x3 h = some ((1 : Int32), h')) : hm_G E 4 n0 s0 (hm_n h') (hm_s h') p l e room_1 s m #[Value.ref b0] below meth c (lw_Z below #[Value.ref b0] s) 18 [(0, .ref b0), (1, .ref x1), (2, .ref x2), (3, .int x3)] [] h := by
  unfold g_W_law_18 at hf
  refine hm_iload_n C d_W_law_18 rfl 3 rfl ?_
  refine hm_aload_n C d_W_law_19 rfl 0 rfl ?_
  refine hm_slen C hX hbl hE d_W_law_20 ?_
  refine hm_iconst (v := (5 : Int32)) C d_W_law_21 (by decide) ?_
  refine hm_isub C d_W_law_22 ?_
  refine hm_icmp_gt (tgt := 733) C d_W_law_23 (by decide) (fun z1 => ?_) (fun z1 => ?_)
  · have hf := hm_ifp hf z1
    refine hm_iconst (v := (1 : Int32)) C d_W_law_733 (by decide) ?_
    exact hm_lret C hr hlk hX hbl hE d_W_law_734 hf
  · have hf := hm_ifn hf z1
    refine hm_aload_n C d_W_law_26 rfl 0 rfl ?_
    refine hm_iload_n C d_W_law_27 rfl 3 rfl ?_
    obtain ⟨v2, ev2, hf⟩ := hm_bind hf
    refine hm_sld C hX hbl hE d_W_law_28 ev2 ?_
    refine hm_bipush (v := (31 : Int32)) C d_W_law_29 (by decide) ?_
    refine hm_iand C d_W_law_31 ?_
    by_cases z3 : (v2 &&& (31 : Int32)) = (0 : Int32)
    · have hf := hm_ifp hf z3
      refine hm_tswIn (tgt := 124) C d_W_law_32 (by rw [z3]; decide) (by rw [z3]; decide) (by rw [z3]; rfl) (by decide) ?_
      refine hm_aload_n C d_W_law_124 rfl 1 rfl ?_
      obtain ⟨u4, eu4, hf⟩ := hm_bind hf
      obtain ⟨v5, h5, eh5, hf⟩ := hm_and_of hf
      refine hm_callV (vs := []) (st := []) (sb := [.int v5]) C (c_D_node eh5) Y_D_node F_3 eu4 k_211 k_212 k_210 (by decide) (by decide) rfl (Nat.le_of_ble_eq_true rfl) d_W_law_125 rfl rfl ?_
      refine hm_aload_n C d_W_law_128 rfl 2 rfl ?_
      obtain ⟨u6, eu6, hf⟩ := hm_bind hf
      obtain ⟨v7, h7, eh7, hf⟩ := hm_and_of hf
      refine hm_callV (vs := []) (st := [.int v5]) (sb := [.int v7, .int v5]) C (c_R_node eh7) Y_R_node F_4 eu6 k_214 k_215 k_213 (by decide) (by decide) rfl (Nat.le_of_ble_eq_true rfl) d_W_law_129 rfl rfl ?_
      refine hm_icmp_eq (tgt := 727) C d_W_law_132 (by decide) (fun z8 => ?_) (fun z8 => ?_)
      · have hf := hm_ifp hf z8
        exact w_f_W_law_727 C hr hlk hX hbl hE hk18 hf
      · have hf := hm_ifn hf z8
        refine hm_iconst (v := (0 : Int32)) C d_W_law_135 (by decide) ?_
        exact hm_lret C hr hlk hX hbl hE d_W_law_136 hf
    · have hf := hm_ifn hf z3
      by_cases z9 : (v2 &&& (31 : Int32)) = (1 : Int32)
      · have hf := hm_ifp hf z9
        refine hm_tswIn (tgt := 137) C d_W_law_32 (by rw [z9]; decide) (by rw [z9]; decide) (by rw [z9]; rfl) (by decide) ?_
        refine hm_aload_n C d_W_law_137 rfl 1 rfl ?_
        refine hm_aload_n C d_W_law_138 rfl 0 rfl ?_
        refine hm_iload_n C d_W_law_139 rfl 3 rfl ?_
        refine hm_iconst (v := (1 : Int32)) C d_W_law_140 (by decide) ?_
        refine hm_iadd C d_W_law_141 ?_
        obtain ⟨v10, ev10, hf⟩ := hm_bind hf
        refine hm_sld C hX hbl hE d_W_law_142 ev10 ?_
        refine hm_aload_n C d_W_law_143 rfl 0 rfl ?_
        refine hm_iload_n C d_W_law_144 rfl 3 rfl ?_
        refine hm_iconst (v := (2 : Int32)) C d_W_law_145 (by decide) ?_
        refine hm_iadd C d_W_law_146 ?_
        obtain ⟨v11, ev11, hf⟩ := hm_bind hf
        refine hm_sld C hX hbl hE d_W_law_147 ev11 ?_
        refine hm_aload_n C d_W_law_148 rfl 0 rfl ?_
        refine hm_iload_n C d_W_law_149 rfl 3 rfl ?_
        refine hm_iconst (v := (3 : Int32)) C d_W_law_150 (by decide) ?_
        refine hm_iadd C d_W_law_151 ?_
        obtain ⟨v12, ev12, hf⟩ := hm_bind hf
        refine hm_sld C hX hbl hE d_W_law_152 ev12 ?_
        obtain ⟨u13, eu13, hf⟩ := hm_bind hf
        obtain ⟨v14, h14, eh14, hf⟩ := hm_and_of hf
        refine hm_callV (vs := [.int v10, .int v11, .int v12]) (st := []) (sb := [.int v14]) C (c_D_arc eh14) Y_D_arc F_3 eu13 k_217 k_218 k_216 (by decide) (by decide) rfl (Nat.le_of_ble_eq_true rfl) d_W_law_153 rfl rfl ?_
        refine hm_aload_n C d_W_law_156 rfl 2 rfl ?_
        refine hm_aload_n C d_W_law_157 rfl 0 rfl ?_
        refine hm_iload_n C d_W_law_158 rfl 3 rfl ?_
        refine hm_iconst (v := (1 : Int32)) C d_W_law_159 (by decide) ?_
        refine hm_iadd C d_W_law_160 ?_
        obtain ⟨v15, ev15, hf⟩ := hm_bind hf
        refine hm_sld C hX hbl hE d_W_law_161 ev15 ?_
        refine hm_aload_n C d_W_law_162 rfl 0 rfl ?_
        refine hm_iload_n C d_W_law_163 rfl 3 rfl ?_
        refine hm_iconst (v := (2 : Int32)) C d_W_law_164 (by decide) ?_
        refine hm_iadd C d_W_law_165 ?_
        obtain ⟨v16, ev16, hf⟩ := hm_bind hf
        refine hm_sld C hX hbl hE d_W_law_166 ev16 ?_
        refine hm_aload_n C d_W_law_167 rfl 0 rfl ?_
        refine hm_iload_n C d_W_law_168 rfl 3 rfl ?_
        refine hm_iconst (v := (3 : Int32)) C d_W_law_169 (by decide) ?_
        refine hm_iadd C d_W_law_170 ?_
        obtain ⟨v17, ev17, hf⟩ := hm_bind hf
        refine hm_sld C hX hbl hE d_W_law_171 ev17 ?_
        obtain ⟨u18, eu18, hf⟩ := hm_bind hf
        obtain ⟨v19, h19, eh19, hf⟩ := hm_and_of hf
        refine hm_callV (vs := [.int v15, .int v16, .int v17]) (st := [.int v14]) (sb := [.int v19, .int v14]) C (c_R_arc eh19) Y_R_arc F_4 eu18 k_220 k_221 k_219 (by decide) (by decide) rfl (Nat.le_of_ble_eq_true rfl) d_W_law_172 rfl rfl ?_
        refine hm_icmp_eq (tgt := 727) C d_W_law_175 (by decide) (fun z20 => ?_) (fun z20 => ?_)
        · have hf := hm_ifp hf z20
          exact w_f_W_law_727 C hr hlk hX hbl hE hk18 hf
        · have hf := hm_ifn hf z20
          refine hm_iconst (v := (0 : Int32)) C d_W_law_178 (by decide) ?_
          exact hm_lret C hr hlk hX hbl hE d_W_law_179 hf
      · have hf := hm_ifn hf z9
        by_cases z21 : (v2 &&& (31 : Int32)) = (2 : Int32)
        · have hf := hm_ifp hf z21
          refine hm_tswIn (tgt := 180) C d_W_law_32 (by rw [z21]; decide) (by rw [z21]; decide) (by rw [z21]; rfl) (by decide) ?_
          refine hm_aload_n C d_W_law_180 rfl 1 rfl ?_
          refine hm_aload_n C d_W_law_181 rfl 0 rfl ?_
          refine hm_iload_n C d_W_law_182 rfl 3 rfl ?_
          refine hm_iconst (v := (1 : Int32)) C d_W_law_183 (by decide) ?_
          refine hm_iadd C d_W_law_184 ?_
          obtain ⟨v22, ev22, hf⟩ := hm_bind hf
          refine hm_sld C hX hbl hE d_W_law_185 ev22 ?_
          refine hm_aload_n C d_W_law_186 rfl 0 rfl ?_
          refine hm_iload_n C d_W_law_187 rfl 3 rfl ?_
          refine hm_iconst (v := (2 : Int32)) C d_W_law_188 (by decide) ?_
          refine hm_iadd C d_W_law_189 ?_
          obtain ⟨v23, ev23, hf⟩ := hm_bind hf
          refine hm_sld C hX hbl hE d_W_law_190 ev23 ?_
          obtain ⟨u24, eu24, hf⟩ := hm_bind hf
          obtain ⟨v25, h25, eh25, hf⟩ := hm_and_of hf
          refine hm_callV (vs := [.int v22, .int v23]) (st := []) (sb := [.int v25]) C (c_D_lose eh25) Y_D_lose F_3 eu24 k_223 k_224 k_222 (by decide) (by decide) rfl (Nat.le_of_ble_eq_true rfl) d_W_law_191 rfl rfl ?_
          refine hm_aload_n C d_W_law_194 rfl 2 rfl ?_
          refine hm_aload_n C d_W_law_195 rfl 0 rfl ?_
          refine hm_iload_n C d_W_law_196 rfl 3 rfl ?_
          refine hm_iconst (v := (1 : Int32)) C d_W_law_197 (by decide) ?_
          refine hm_iadd C d_W_law_198 ?_
          obtain ⟨v26, ev26, hf⟩ := hm_bind hf
          refine hm_sld C hX hbl hE d_W_law_199 ev26 ?_
          refine hm_aload_n C d_W_law_200 rfl 0 rfl ?_
          refine hm_iload_n C d_W_law_201 rfl 3 rfl ?_
          refine hm_iconst (v := (2 : Int32)) C d_W_law_202 (by decide) ?_
          refine hm_iadd C d_W_law_203 ?_
          obtain ⟨v27, ev27, hf⟩ := hm_bind hf
          refine hm_sld C hX hbl hE d_W_law_204 ev27 ?_
          obtain ⟨u28, eu28, hf⟩ := hm_bind hf
          obtain ⟨v29, h29, eh29, hf⟩ := hm_and_of hf
          refine hm_callV (vs := [.int v26, .int v27]) (st := [.int v25]) (sb := [.int v29, .int v25]) C (c_R_lose eh29) Y_R_lose F_4 eu28 k_226 k_227 k_225 (by decide) (by decide) rfl (Nat.le_of_ble_eq_true rfl) d_W_law_205 rfl rfl ?_
          refine hm_icmp_eq (tgt := 727) C d_W_law_208 (by decide) (fun z30 => ?_) (fun z30 => ?_)
          · have hf := hm_ifp hf z30
            exact w_f_W_law_727 C hr hlk hX hbl hE hk18 hf
          · have hf := hm_ifn hf z30
            refine hm_iconst (v := (0 : Int32)) C d_W_law_211 (by decide) ?_
            exact hm_lret C hr hlk hX hbl hE d_W_law_212 hf
        · have hf := hm_ifn hf z21
          by_cases z31 : (v2 &&& (31 : Int32)) = (3 : Int32)
          · have hf := hm_ifp hf z31
            refine hm_tswIn (tgt := 213) C d_W_law_32 (by rw [z31]; decide) (by rw [z31]; decide) (by rw [z31]; rfl) (by decide) ?_
            refine hm_aload_n C d_W_law_213 rfl 1 rfl ?_
            refine hm_aload_n C d_W_law_214 rfl 0 rfl ?_
            refine hm_iload_n C d_W_law_215 rfl 3 rfl ?_
            refine hm_iconst (v := (1 : Int32)) C d_W_law_216 (by decide) ?_
            refine hm_iadd C d_W_law_217 ?_
            obtain ⟨v32, ev32, hf⟩ := hm_bind hf
            refine hm_sld C hX hbl hE d_W_law_218 ev32 ?_
            refine hm_aload_n C d_W_law_219 rfl 0 rfl ?_
            refine hm_iload_n C d_W_law_220 rfl 3 rfl ?_
            refine hm_iconst (v := (2 : Int32)) C d_W_law_221 (by decide) ?_
            refine hm_iadd C d_W_law_222 ?_
            obtain ⟨v33, ev33, hf⟩ := hm_bind hf
            refine hm_sld C hX hbl hE d_W_law_223 ev33 ?_
            obtain ⟨u34, eu34, hf⟩ := hm_bind hf
            obtain ⟨v35, h35, eh35, hf⟩ := hm_and_of hf
            refine hm_callV (vs := [.int v32, .int v33]) (st := []) (sb := [.int v35]) C (c_D_rank eh35) Y_D_rank F_3 eu34 k_229 k_230 k_228 (by decide) (by decide) rfl (Nat.le_of_ble_eq_true rfl) d_W_law_224 rfl rfl ?_
            refine hm_aload_n C d_W_law_227 rfl 2 rfl ?_
            refine hm_aload_n C d_W_law_228 rfl 0 rfl ?_
            refine hm_iload_n C d_W_law_229 rfl 3 rfl ?_
            refine hm_iconst (v := (1 : Int32)) C d_W_law_230 (by decide) ?_
            refine hm_iadd C d_W_law_231 ?_
            obtain ⟨v36, ev36, hf⟩ := hm_bind hf
            refine hm_sld C hX hbl hE d_W_law_232 ev36 ?_
            refine hm_aload_n C d_W_law_233 rfl 0 rfl ?_
            refine hm_iload_n C d_W_law_234 rfl 3 rfl ?_
            refine hm_iconst (v := (2 : Int32)) C d_W_law_235 (by decide) ?_
            refine hm_iadd C d_W_law_236 ?_
            obtain ⟨v37, ev37, hf⟩ := hm_bind hf
            refine hm_sld C hX hbl hE d_W_law_237 ev37 ?_
            obtain ⟨u38, eu38, hf⟩ := hm_bind hf
            obtain ⟨v39, h39, eh39, hf⟩ := hm_and_of hf
            refine hm_callV (vs := [.int v36, .int v37]) (st := [.int v35]) (sb := [.int v39, .int v35]) C (c_R_rank eh39) Y_R_rank F_4 eu38 k_232 k_233 k_231 (by decide) (by decide) rfl (Nat.le_of_ble_eq_true rfl) d_W_law_238 rfl rfl ?_
            refine hm_icmp_eq (tgt := 727) C d_W_law_241 (by decide) (fun z40 => ?_) (fun z40 => ?_)
            · have hf := hm_ifp hf z40
              exact w_f_W_law_727 C hr hlk hX hbl hE hk18 hf
            · have hf := hm_ifn hf z40
              refine hm_iconst (v := (0 : Int32)) C d_W_law_244 (by decide) ?_
              exact hm_lret C hr hlk hX hbl hE d_W_law_245 hf
          · have hf := hm_ifn hf z31
            by_cases z41 : (v2 &&& (31 : Int32)) = (4 : Int32)
            · have hf := hm_ifp hf z41
              refine hm_tswIn (tgt := 246) C d_W_law_32 (by rw [z41]; decide) (by rw [z41]; decide) (by rw [z41]; rfl) (by decide) ?_
              refine hm_aload_n C d_W_law_246 rfl 1 rfl ?_
              refine hm_aload_n C d_W_law_247 rfl 0 rfl ?_
              refine hm_iload_n C d_W_law_248 rfl 3 rfl ?_
              refine hm_iconst (v := (1 : Int32)) C d_W_law_249 (by decide) ?_
              refine hm_iadd C d_W_law_250 ?_
              obtain ⟨v42, ev42, hf⟩ := hm_bind hf
              refine hm_sld C hX hbl hE d_W_law_251 ev42 ?_
              obtain ⟨u43, eu43, hf⟩ := hm_bind hf
              obtain ⟨v44, h44, eh44, hf⟩ := hm_and_of hf
              refine hm_callV (vs := [.int v42]) (st := []) (sb := [.int v44]) C (c_D_ranked eh44) Y_D_ranked F_3 eu43 k_235 k_236 k_234 (by decide) (by decide) rfl (Nat.le_of_ble_eq_true rfl) d_W_law_252 rfl rfl ?_
              refine hm_aload_n C d_W_law_255 rfl 2 rfl ?_
              refine hm_aload_n C d_W_law_256 rfl 0 rfl ?_
              refine hm_iload_n C d_W_law_257 rfl 3 rfl ?_
              refine hm_iconst (v := (1 : Int32)) C d_W_law_258 (by decide) ?_
              refine hm_iadd C d_W_law_259 ?_
              obtain ⟨v45, ev45, hf⟩ := hm_bind hf
              refine hm_sld C hX hbl hE d_W_law_260 ev45 ?_
              obtain ⟨u46, eu46, hf⟩ := hm_bind hf
              obtain ⟨v47, h47, eh47, hf⟩ := hm_and_of hf
              refine hm_callV (vs := [.int v45]) (st := [.int v44]) (sb := [.int v47, .int v44]) C (c_R_ranked eh47) Y_R_ranked F_4 eu46 k_238 k_239 k_237 (by decide) (by decide) rfl (Nat.le_of_ble_eq_true rfl) d_W_law_261 rfl rfl ?_
              refine hm_icmp_eq (tgt := 727) C d_W_law_264 (by decide) (fun z48 => ?_) (fun z48 => ?_)
              · have hf := hm_ifp hf z48
                exact w_f_W_law_727 C hr hlk hX hbl hE hk18 hf
              · have hf := hm_ifn hf z48
                refine hm_iconst (v := (0 : Int32)) C d_W_law_267 (by decide) ?_
                exact hm_lret C hr hlk hX hbl hE d_W_law_268 hf
            · have hf := hm_ifn hf z41
              by_cases z49 : (v2 &&& (31 : Int32)) = (5 : Int32)
              · have hf := hm_ifp hf z49
                refine hm_tswIn (tgt := 269) C d_W_law_32 (by rw [z49]; decide) (by rw [z49]; decide) (by rw [z49]; rfl) (by decide) ?_
                refine hm_aload_n C d_W_law_269 rfl 1 rfl ?_
                refine hm_aload_n C d_W_law_270 rfl 0 rfl ?_
                refine hm_iload_n C d_W_law_271 rfl 3 rfl ?_
                refine hm_iconst (v := (1 : Int32)) C d_W_law_272 (by decide) ?_
                refine hm_iadd C d_W_law_273 ?_
                obtain ⟨v50, ev50, hf⟩ := hm_bind hf
                refine hm_sld C hX hbl hE d_W_law_274 ev50 ?_
                refine hm_aload_n C d_W_law_275 rfl 0 rfl ?_
                refine hm_iload_n C d_W_law_276 rfl 3 rfl ?_
                refine hm_iconst (v := (2 : Int32)) C d_W_law_277 (by decide) ?_
                refine hm_iadd C d_W_law_278 ?_
                obtain ⟨v51, ev51, hf⟩ := hm_bind hf
                refine hm_sld C hX hbl hE d_W_law_279 ev51 ?_
                refine hm_if_eq (tgt := 287) C d_W_law_280 (by decide) (fun z52 => ?_) (fun z52 => ?_)
                · have hf := hm_ifp hf z52
                  refine hm_iconst (v := (0 : Int32)) C d_W_law_287 (by decide) ?_
                  exact w_f_W_law_288 C hr hlk hX hbl hE hk18 hf
                · have hf := hm_ifn hf z52
                  refine hm_iconst (v := (1 : Int32)) C d_W_law_283 (by decide) ?_
                  refine hm_goto (tgt := 288) C d_W_law_284 (by decide) ?_
                  exact w_f_W_law_288 C hr hlk hX hbl hE hk18 hf
              · have hf := hm_ifn hf z49
                by_cases z53 : (v2 &&& (31 : Int32)) = (6 : Int32)
                · have hf := hm_ifp hf z53
                  refine hm_tswIn (tgt := 318) C d_W_law_32 (by rw [z53]; decide) (by rw [z53]; decide) (by rw [z53]; rfl) (by decide) ?_
                  refine hm_aload_n C d_W_law_318 rfl 1 rfl ?_
                  obtain ⟨u54, eu54, hf⟩ := hm_bind hf
                  obtain ⟨v55, h55, eh55, hf⟩ := hm_and_of hf
                  refine hm_callV (vs := []) (st := []) (sb := [.int v55]) C (c_D_make eh55) Y_D_make F_3 eu54 k_241 k_242 k_240 (by decide) (by decide) rfl (Nat.le_of_ble_eq_true rfl) d_W_law_319 rfl rfl ?_
                  refine hm_aload_n C d_W_law_322 rfl 2 rfl ?_
                  obtain ⟨u56, eu56, hf⟩ := hm_bind hf
                  obtain ⟨v57, h57, eh57, hf⟩ := hm_and_of hf
                  refine hm_callV (vs := []) (st := [.int v55]) (sb := [.int v57, .int v55]) C (c_R_make eh57) Y_R_make F_4 eu56 k_244 k_245 k_243 (by decide) (by decide) rfl (Nat.le_of_ble_eq_true rfl) d_W_law_323 rfl rfl ?_
                  refine hm_icmp_eq (tgt := 727) C d_W_law_326 (by decide) (fun z58 => ?_) (fun z58 => ?_)
                  · have hf := hm_ifp hf z58
                    exact w_f_W_law_727 C hr hlk hX hbl hE hk18 hf
                  · have hf := hm_ifn hf z58
                    refine hm_iconst (v := (0 : Int32)) C d_W_law_329 (by decide) ?_
                    exact hm_lret C hr hlk hX hbl hE d_W_law_330 hf
                · have hf := hm_ifn hf z53
                  by_cases z59 : (v2 &&& (31 : Int32)) = (7 : Int32)
                  · have hf := hm_ifp hf z59
                    refine hm_tswIn (tgt := 331) C d_W_law_32 (by rw [z59]; decide) (by rw [z59]; decide) (by rw [z59]; rfl) (by decide) ?_
                    refine hm_aload_n C d_W_law_331 rfl 1 rfl ?_
                    refine hm_aload_n C d_W_law_332 rfl 0 rfl ?_
                    refine hm_iload_n C d_W_law_333 rfl 3 rfl ?_
                    refine hm_iconst (v := (1 : Int32)) C d_W_law_334 (by decide) ?_
                    refine hm_iadd C d_W_law_335 ?_
                    obtain ⟨v60, ev60, hf⟩ := hm_bind hf
                    refine hm_sld C hX hbl hE d_W_law_336 ev60 ?_
                    refine hm_aload_n C d_W_law_337 rfl 0 rfl ?_
                    refine hm_iload_n C d_W_law_338 rfl 3 rfl ?_
                    refine hm_iconst (v := (2 : Int32)) C d_W_law_339 (by decide) ?_
                    refine hm_iadd C d_W_law_340 ?_
                    obtain ⟨v61, ev61, hf⟩ := hm_bind hf
                    refine hm_sld C hX hbl hE d_W_law_341 ev61 ?_
                    refine hm_aload_n C d_W_law_342 rfl 0 rfl ?_
                    refine hm_iload_n C d_W_law_343 rfl 3 rfl ?_
                    refine hm_iconst (v := (3 : Int32)) C d_W_law_344 (by decide) ?_
                    refine hm_iadd C d_W_law_345 ?_
                    obtain ⟨v62, ev62, hf⟩ := hm_bind hf
                    refine hm_sld C hX hbl hE d_W_law_346 ev62 ?_
                    refine hm_aload_n C d_W_law_347 rfl 0 rfl ?_
                    refine hm_iload_n C d_W_law_348 rfl 3 rfl ?_
                    refine hm_iconst (v := (4 : Int32)) C d_W_law_349 (by decide) ?_
                    refine hm_iadd C d_W_law_350 ?_
                    obtain ⟨v63, ev63, hf⟩ := hm_bind hf
                    refine hm_sld C hX hbl hE d_W_law_351 ev63 ?_
                    obtain ⟨u64, eu64, hf⟩ := hm_bind hf
                    obtain ⟨v65, h65, eh65, hf⟩ := hm_and_of hf
                    refine hm_callV (vs := [.int v60, .int v61, .int v62, .int v63]) (st := []) (sb := [.int v65]) C (c_D_label eh65) Y_D_label F_3 eu64 k_247 k_248 k_246 (by decide) (by decide) rfl (Nat.le_of_ble_eq_true rfl) d_W_law_352 rfl rfl ?_
                    refine hm_aload_n C d_W_law_355 rfl 2 rfl ?_
                    refine hm_aload_n C d_W_law_356 rfl 0 rfl ?_
                    refine hm_iload_n C d_W_law_357 rfl 3 rfl ?_
                    refine hm_iconst (v := (1 : Int32)) C d_W_law_358 (by decide) ?_
                    refine hm_iadd C d_W_law_359 ?_
                    obtain ⟨v66, ev66, hf⟩ := hm_bind hf
                    refine hm_sld C hX hbl hE d_W_law_360 ev66 ?_
                    refine hm_aload_n C d_W_law_361 rfl 0 rfl ?_
                    refine hm_iload_n C d_W_law_362 rfl 3 rfl ?_
                    refine hm_iconst (v := (2 : Int32)) C d_W_law_363 (by decide) ?_
                    refine hm_iadd C d_W_law_364 ?_
                    obtain ⟨v67, ev67, hf⟩ := hm_bind hf
                    refine hm_sld C hX hbl hE d_W_law_365 ev67 ?_
                    refine hm_aload_n C d_W_law_366 rfl 0 rfl ?_
                    refine hm_iload_n C d_W_law_367 rfl 3 rfl ?_
                    refine hm_iconst (v := (3 : Int32)) C d_W_law_368 (by decide) ?_
                    refine hm_iadd C d_W_law_369 ?_
                    obtain ⟨v68, ev68, hf⟩ := hm_bind hf
                    refine hm_sld C hX hbl hE d_W_law_370 ev68 ?_
                    refine hm_aload_n C d_W_law_371 rfl 0 rfl ?_
                    refine hm_iload_n C d_W_law_372 rfl 3 rfl ?_
                    refine hm_iconst (v := (4 : Int32)) C d_W_law_373 (by decide) ?_
                    refine hm_iadd C d_W_law_374 ?_
                    obtain ⟨v69, ev69, hf⟩ := hm_bind hf
                    refine hm_sld C hX hbl hE d_W_law_375 ev69 ?_
                    obtain ⟨u70, eu70, hf⟩ := hm_bind hf
                    obtain ⟨v71, h71, eh71, hf⟩ := hm_and_of hf
                    refine hm_callV (vs := [.int v66, .int v67, .int v68, .int v69]) (st := [.int v65]) (sb := [.int v71, .int v65]) C (c_R_label eh71) Y_R_label F_4 eu70 k_250 k_251 k_249 (by decide) (by decide) rfl (Nat.le_of_ble_eq_true rfl) d_W_law_376 rfl rfl ?_
                    refine hm_icmp_eq (tgt := 727) C d_W_law_379 (by decide) (fun z72 => ?_) (fun z72 => ?_)
                    · have hf := hm_ifp hf z72
                      exact w_f_W_law_727 C hr hlk hX hbl hE hk18 hf
                    · have hf := hm_ifn hf z72
                      refine hm_iconst (v := (0 : Int32)) C d_W_law_382 (by decide) ?_
                      exact hm_lret C hr hlk hX hbl hE d_W_law_383 hf
                  · have hf := hm_ifn hf z59
                    by_cases z73 : (v2 &&& (31 : Int32)) = (8 : Int32)
                    · have hf := hm_ifp hf z73
                      refine hm_tswIn (tgt := 384) C d_W_law_32 (by rw [z73]; decide) (by rw [z73]; decide) (by rw [z73]; rfl) (by decide) ?_
                      refine hm_aload_n C d_W_law_384 rfl 1 rfl ?_
                      refine hm_aload_n C d_W_law_385 rfl 0 rfl ?_
                      refine hm_iload_n C d_W_law_386 rfl 3 rfl ?_
                      refine hm_iconst (v := (1 : Int32)) C d_W_law_387 (by decide) ?_
                      refine hm_iadd C d_W_law_388 ?_
                      obtain ⟨v74, ev74, hf⟩ := hm_bind hf
                      refine hm_sld C hX hbl hE d_W_law_389 ev74 ?_
                      refine hm_aload_n C d_W_law_390 rfl 0 rfl ?_
                      refine hm_iload_n C d_W_law_391 rfl 3 rfl ?_
                      refine hm_iconst (v := (2 : Int32)) C d_W_law_392 (by decide) ?_
                      refine hm_iadd C d_W_law_393 ?_
                      obtain ⟨v75, ev75, hf⟩ := hm_bind hf
                      refine hm_sld C hX hbl hE d_W_law_394 ev75 ?_
                      obtain ⟨u76, eu76, hf⟩ := hm_bind hf
                      obtain ⟨v77, h77, eh77, hf⟩ := hm_and_of hf
                      refine hm_callV (vs := [.int v74, .int v75]) (st := []) (sb := [.int v77]) C (c_D_ask eh77) Y_D_ask F_3 eu76 k_253 k_254 k_252 (by decide) (by decide) rfl (Nat.le_of_ble_eq_true rfl) d_W_law_395 rfl rfl ?_
                      refine hm_aload_n C d_W_law_398 rfl 2 rfl ?_
                      refine hm_aload_n C d_W_law_399 rfl 0 rfl ?_
                      refine hm_iload_n C d_W_law_400 rfl 3 rfl ?_
                      refine hm_iconst (v := (1 : Int32)) C d_W_law_401 (by decide) ?_
                      refine hm_iadd C d_W_law_402 ?_
                      obtain ⟨v78, ev78, hf⟩ := hm_bind hf
                      refine hm_sld C hX hbl hE d_W_law_403 ev78 ?_
                      refine hm_aload_n C d_W_law_404 rfl 0 rfl ?_
                      refine hm_iload_n C d_W_law_405 rfl 3 rfl ?_
                      refine hm_iconst (v := (2 : Int32)) C d_W_law_406 (by decide) ?_
                      refine hm_iadd C d_W_law_407 ?_
                      obtain ⟨v79, ev79, hf⟩ := hm_bind hf
                      refine hm_sld C hX hbl hE d_W_law_408 ev79 ?_
                      obtain ⟨u80, eu80, hf⟩ := hm_bind hf
                      obtain ⟨v81, h81, eh81, hf⟩ := hm_and_of hf
                      refine hm_callV (vs := [.int v78, .int v79]) (st := [.int v77]) (sb := [.int v81, .int v77]) C (c_R_ask eh81) Y_R_ask F_4 eu80 k_256 k_257 k_255 (by decide) (by decide) rfl (Nat.le_of_ble_eq_true rfl) d_W_law_409 rfl rfl ?_
                      refine hm_icmp_eq (tgt := 727) C d_W_law_412 (by decide) (fun z82 => ?_) (fun z82 => ?_)
                      · have hf := hm_ifp hf z82
                        exact w_f_W_law_727 C hr hlk hX hbl hE hk18 hf
                      · have hf := hm_ifn hf z82
                        refine hm_iconst (v := (0 : Int32)) C d_W_law_415 (by decide) ?_
                        exact hm_lret C hr hlk hX hbl hE d_W_law_416 hf
                    · have hf := hm_ifn hf z73
                      by_cases z83 : (v2 &&& (31 : Int32)) = (9 : Int32)
                      · have hf := hm_ifp hf z83
                        refine hm_tswIn (tgt := 417) C d_W_law_32 (by rw [z83]; decide) (by rw [z83]; decide) (by rw [z83]; rfl) (by decide) ?_
                        refine hm_aload_n C d_W_law_417 rfl 1 rfl ?_
                        refine hm_aload_n C d_W_law_418 rfl 0 rfl ?_
                        refine hm_iload_n C d_W_law_419 rfl 3 rfl ?_
                        refine hm_iconst (v := (1 : Int32)) C d_W_law_420 (by decide) ?_
                        refine hm_iadd C d_W_law_421 ?_
                        obtain ⟨v84, ev84, hf⟩ := hm_bind hf
                        refine hm_sld C hX hbl hE d_W_law_422 ev84 ?_
                        refine hm_aload_n C d_W_law_423 rfl 0 rfl ?_
                        refine hm_iload_n C d_W_law_424 rfl 3 rfl ?_
                        refine hm_iconst (v := (2 : Int32)) C d_W_law_425 (by decide) ?_
                        refine hm_iadd C d_W_law_426 ?_
                        obtain ⟨v85, ev85, hf⟩ := hm_bind hf
                        refine hm_sld C hX hbl hE d_W_law_427 ev85 ?_
                        obtain ⟨u86, eu86, hf⟩ := hm_bind hf
                        obtain ⟨v87, h87, eh87, hf⟩ := hm_and_of hf
                        refine hm_callV (vs := [.int v84, .int v85]) (st := []) (sb := [.int v87]) C (c_D_meeting eh87) Y_D_meeting F_3 eu86 k_259 k_260 k_258 (by decide) (by decide) rfl (Nat.le_of_ble_eq_true rfl) d_W_law_428 rfl rfl ?_
                        refine hm_aload_n C d_W_law_431 rfl 2 rfl ?_
                        refine hm_aload_n C d_W_law_432 rfl 0 rfl ?_
                        refine hm_iload_n C d_W_law_433 rfl 3 rfl ?_
                        refine hm_iconst (v := (1 : Int32)) C d_W_law_434 (by decide) ?_
                        refine hm_iadd C d_W_law_435 ?_
                        obtain ⟨v88, ev88, hf⟩ := hm_bind hf
                        refine hm_sld C hX hbl hE d_W_law_436 ev88 ?_
                        refine hm_aload_n C d_W_law_437 rfl 0 rfl ?_
                        refine hm_iload_n C d_W_law_438 rfl 3 rfl ?_
                        refine hm_iconst (v := (2 : Int32)) C d_W_law_439 (by decide) ?_
                        refine hm_iadd C d_W_law_440 ?_
                        obtain ⟨v89, ev89, hf⟩ := hm_bind hf
                        refine hm_sld C hX hbl hE d_W_law_441 ev89 ?_
                        obtain ⟨u90, eu90, hf⟩ := hm_bind hf
                        obtain ⟨v91, h91, eh91, hf⟩ := hm_and_of hf
                        refine hm_callV (vs := [.int v88, .int v89]) (st := [.int v87]) (sb := [.int v91, .int v87]) C (c_R_meeting eh91) Y_R_meeting F_4 eu90 k_262 k_263 k_261 (by decide) (by decide) rfl (Nat.le_of_ble_eq_true rfl) d_W_law_442 rfl rfl ?_
                        refine hm_icmp_eq (tgt := 727) C d_W_law_445 (by decide) (fun z92 => ?_) (fun z92 => ?_)
                        · have hf := hm_ifp hf z92
                          exact w_f_W_law_727 C hr hlk hX hbl hE hk18 hf
                        · have hf := hm_ifn hf z92
                          refine hm_iconst (v := (0 : Int32)) C d_W_law_448 (by decide) ?_
                          exact hm_lret C hr hlk hX hbl hE d_W_law_449 hf
                      · have hf := hm_ifn hf z83
                        by_cases z93 : (v2 &&& (31 : Int32)) = (10 : Int32)
                        · have hf := hm_ifp hf z93
                          refine hm_tswIn (tgt := 450) C d_W_law_32 (by rw [z93]; decide) (by rw [z93]; decide) (by rw [z93]; rfl) (by decide) ?_
                          refine hm_aload_n C d_W_law_450 rfl 1 rfl ?_
                          obtain ⟨u94, eu94, hf⟩ := hm_bind hf
                          obtain ⟨v95, h95, eh95, hf⟩ := hm_and_of hf
                          refine hm_callV (vs := []) (st := []) (sb := [.int v95]) C (c_D_redone eh95) Y_D_redone F_3 eu94 k_265 k_266 k_264 (by decide) (by decide) rfl (Nat.le_of_ble_eq_true rfl) d_W_law_451 rfl rfl ?_
                          refine hm_aload_n C d_W_law_454 rfl 2 rfl ?_
                          obtain ⟨u96, eu96, hf⟩ := hm_bind hf
                          obtain ⟨v97, h97, eh97, hf⟩ := hm_and_of hf
                          refine hm_callV (vs := []) (st := [.int v95]) (sb := [.int v97, .int v95]) C (c_R_redone eh97) Y_R_redone F_4 eu96 k_268 k_269 k_267 (by decide) (by decide) rfl (Nat.le_of_ble_eq_true rfl) d_W_law_455 rfl rfl ?_
                          refine hm_icmp_eq (tgt := 727) C d_W_law_458 (by decide) (fun z98 => ?_) (fun z98 => ?_)
                          · have hf := hm_ifp hf z98
                            exact w_f_W_law_727 C hr hlk hX hbl hE hk18 hf
                          · have hf := hm_ifn hf z98
                            refine hm_iconst (v := (0 : Int32)) C d_W_law_461 (by decide) ?_
                            exact hm_lret C hr hlk hX hbl hE d_W_law_462 hf
                        · have hf := hm_ifn hf z93
                          by_cases z99 : (v2 &&& (31 : Int32)) = (11 : Int32)
                          · have hf := hm_ifp hf z99
                            refine hm_tswIn (tgt := 463) C d_W_law_32 (by rw [z99]; decide) (by rw [z99]; decide) (by rw [z99]; rfl) (by decide) ?_
                            refine hm_aload_n C d_W_law_463 rfl 1 rfl ?_
                            refine hm_aload_n C d_W_law_464 rfl 0 rfl ?_
                            refine hm_iload_n C d_W_law_465 rfl 3 rfl ?_
                            refine hm_iconst (v := (1 : Int32)) C d_W_law_466 (by decide) ?_
                            refine hm_iadd C d_W_law_467 ?_
                            obtain ⟨v100, ev100, hf⟩ := hm_bind hf
                            refine hm_sld C hX hbl hE d_W_law_468 ev100 ?_
                            refine hm_aload_n C d_W_law_469 rfl 0 rfl ?_
                            refine hm_iload_n C d_W_law_470 rfl 3 rfl ?_
                            refine hm_iconst (v := (2 : Int32)) C d_W_law_471 (by decide) ?_
                            refine hm_iadd C d_W_law_472 ?_
                            obtain ⟨v101, ev101, hf⟩ := hm_bind hf
                            refine hm_sld C hX hbl hE d_W_law_473 ev101 ?_
                            refine hm_aload_n C d_W_law_474 rfl 0 rfl ?_
                            refine hm_iload_n C d_W_law_475 rfl 3 rfl ?_
                            refine hm_iconst (v := (3 : Int32)) C d_W_law_476 (by decide) ?_
                            refine hm_iadd C d_W_law_477 ?_
                            obtain ⟨v102, ev102, hf⟩ := hm_bind hf
                            refine hm_sld C hX hbl hE d_W_law_478 ev102 ?_
                            refine hm_aload_n C d_W_law_479 rfl 0 rfl ?_
                            refine hm_iload_n C d_W_law_480 rfl 3 rfl ?_
                            refine hm_iconst (v := (4 : Int32)) C d_W_law_481 (by decide) ?_
                            refine hm_iadd C d_W_law_482 ?_
                            obtain ⟨v103, ev103, hf⟩ := hm_bind hf
                            refine hm_sld C hX hbl hE d_W_law_483 ev103 ?_
                            obtain ⟨u104, eu104, hf⟩ := hm_bind hf
                            obtain ⟨v105, h105, eh105, hf⟩ := hm_and_of hf
                            refine hm_callV (vs := [.int v100, .int v101, .int v102, .int v103]) (st := []) (sb := [.int v105]) C (c_D_damage eh105) Y_D_damage F_3 eu104 k_271 k_272 k_270 (by decide) (by decide) rfl (Nat.le_of_ble_eq_true rfl) d_W_law_484 rfl rfl ?_
                            refine hm_aload_n C d_W_law_487 rfl 2 rfl ?_
                            refine hm_aload_n C d_W_law_488 rfl 0 rfl ?_
                            refine hm_iload_n C d_W_law_489 rfl 3 rfl ?_
                            refine hm_iconst (v := (1 : Int32)) C d_W_law_490 (by decide) ?_
                            refine hm_iadd C d_W_law_491 ?_
                            obtain ⟨v106, ev106, hf⟩ := hm_bind hf
                            refine hm_sld C hX hbl hE d_W_law_492 ev106 ?_
                            refine hm_aload_n C d_W_law_493 rfl 0 rfl ?_
                            refine hm_iload_n C d_W_law_494 rfl 3 rfl ?_
                            refine hm_iconst (v := (2 : Int32)) C d_W_law_495 (by decide) ?_
                            refine hm_iadd C d_W_law_496 ?_
                            obtain ⟨v107, ev107, hf⟩ := hm_bind hf
                            refine hm_sld C hX hbl hE d_W_law_497 ev107 ?_
                            refine hm_aload_n C d_W_law_498 rfl 0 rfl ?_
                            refine hm_iload_n C d_W_law_499 rfl 3 rfl ?_
                            refine hm_iconst (v := (3 : Int32)) C d_W_law_500 (by decide) ?_
                            refine hm_iadd C d_W_law_501 ?_
                            obtain ⟨v108, ev108, hf⟩ := hm_bind hf
                            refine hm_sld C hX hbl hE d_W_law_502 ev108 ?_
                            refine hm_aload_n C d_W_law_503 rfl 0 rfl ?_
                            refine hm_iload_n C d_W_law_504 rfl 3 rfl ?_
                            refine hm_iconst (v := (4 : Int32)) C d_W_law_505 (by decide) ?_
                            refine hm_iadd C d_W_law_506 ?_
                            obtain ⟨v109, ev109, hf⟩ := hm_bind hf
                            refine hm_sld C hX hbl hE d_W_law_507 ev109 ?_
                            obtain ⟨u110, eu110, hf⟩ := hm_bind hf
                            obtain ⟨v111, h111, eh111, hf⟩ := hm_and_of hf
                            refine hm_callV (vs := [.int v106, .int v107, .int v108, .int v109]) (st := [.int v105]) (sb := [.int v111, .int v105]) C (c_R_damage eh111) Y_R_damage F_4 eu110 k_274 k_275 k_273 (by decide) (by decide) rfl (Nat.le_of_ble_eq_true rfl) d_W_law_508 rfl rfl ?_
                            refine hm_icmp_eq (tgt := 727) C d_W_law_511 (by decide) (fun z112 => ?_) (fun z112 => ?_)
                            · have hf := hm_ifp hf z112
                              exact w_f_W_law_727 C hr hlk hX hbl hE hk18 hf
                            · have hf := hm_ifn hf z112
                              refine hm_iconst (v := (0 : Int32)) C d_W_law_514 (by decide) ?_
                              exact hm_lret C hr hlk hX hbl hE d_W_law_515 hf
                          · have hf := hm_ifn hf z99
                            by_cases z113 : (v2 &&& (31 : Int32)) = (12 : Int32)
                            · have hf := hm_ifp hf z113
                              refine hm_tswIn (tgt := 516) C d_W_law_32 (by rw [z113]; decide) (by rw [z113]; decide) (by rw [z113]; rfl) (by decide) ?_
                              refine hm_aload_n C d_W_law_516 rfl 1 rfl ?_
                              obtain ⟨u114, eu114, hf⟩ := hm_bind hf
                              obtain ⟨v115, h115, eh115, hf⟩ := hm_and_of hf
                              refine hm_callV (vs := []) (st := []) (sb := [.int v115]) C (c_D_check eh115) Y_D_check F_3 eu114 k_277 k_278 k_276 (by decide) (by decide) rfl (Nat.le_of_ble_eq_true rfl) d_W_law_517 rfl rfl ?_
                              refine hm_aload_n C d_W_law_520 rfl 2 rfl ?_
                              obtain ⟨u116, eu116, hf⟩ := hm_bind hf
                              obtain ⟨v117, h117, eh117, hf⟩ := hm_and_of hf
                              refine hm_callV (vs := []) (st := [.int v115]) (sb := [.int v117, .int v115]) C (c_R_check eh117) Y_R_check F_4 eu116 k_280 k_281 k_279 (by decide) (by decide) rfl (Nat.le_of_ble_eq_true rfl) d_W_law_521 rfl rfl ?_
                              refine hm_icmp_eq (tgt := 727) C d_W_law_524 (by decide) (fun z118 => ?_) (fun z118 => ?_)
                              · have hf := hm_ifp hf z118
                                exact w_f_W_law_727 C hr hlk hX hbl hE hk18 hf
                              · have hf := hm_ifn hf z118
                                refine hm_iconst (v := (0 : Int32)) C d_W_law_527 (by decide) ?_
                                exact hm_lret C hr hlk hX hbl hE d_W_law_528 hf
                            · have hf := hm_ifn hf z113
                              by_cases z119 : (v2 &&& (31 : Int32)) = (13 : Int32)
                              · have hf := hm_ifp hf z119
                                refine hm_tswIn (tgt := 529) C d_W_law_32 (by rw [z119]; decide) (by rw [z119]; decide) (by rw [z119]; rfl) (by decide) ?_
                                refine hm_aload_n C d_W_law_529 rfl 1 rfl ?_
                                refine hm_aload_n C d_W_law_530 rfl 0 rfl ?_
                                refine hm_iload_n C d_W_law_531 rfl 3 rfl ?_
                                refine hm_iconst (v := (1 : Int32)) C d_W_law_532 (by decide) ?_
                                refine hm_iadd C d_W_law_533 ?_
                                obtain ⟨v120, ev120, hf⟩ := hm_bind hf
                                refine hm_sld C hX hbl hE d_W_law_534 ev120 ?_
                                refine hm_aload_n C d_W_law_535 rfl 0 rfl ?_
                                refine hm_iload_n C d_W_law_536 rfl 3 rfl ?_
                                refine hm_iconst (v := (2 : Int32)) C d_W_law_537 (by decide) ?_
                                refine hm_iadd C d_W_law_538 ?_
                                obtain ⟨v121, ev121, hf⟩ := hm_bind hf
                                refine hm_sld C hX hbl hE d_W_law_539 ev121 ?_
                                obtain ⟨u122, eu122, hf⟩ := hm_bind hf
                                obtain ⟨v123, h123, eh123, hf⟩ := hm_and_of hf
                                refine hm_callV (vs := [.int v120, .int v121]) (st := []) (sb := [.int v123]) C (c_D_shortcut eh123) Y_D_shortcut F_3 eu122 k_283 k_284 k_282 (by decide) (by decide) rfl (Nat.le_of_ble_eq_true rfl) d_W_law_540 rfl rfl ?_
                                refine hm_aload_n C d_W_law_543 rfl 2 rfl ?_
                                refine hm_aload_n C d_W_law_544 rfl 0 rfl ?_
                                refine hm_iload_n C d_W_law_545 rfl 3 rfl ?_
                                refine hm_iconst (v := (1 : Int32)) C d_W_law_546 (by decide) ?_
                                refine hm_iadd C d_W_law_547 ?_
                                obtain ⟨v124, ev124, hf⟩ := hm_bind hf
                                refine hm_sld C hX hbl hE d_W_law_548 ev124 ?_
                                refine hm_aload_n C d_W_law_549 rfl 0 rfl ?_
                                refine hm_iload_n C d_W_law_550 rfl 3 rfl ?_
                                refine hm_iconst (v := (2 : Int32)) C d_W_law_551 (by decide) ?_
                                refine hm_iadd C d_W_law_552 ?_
                                obtain ⟨v125, ev125, hf⟩ := hm_bind hf
                                refine hm_sld C hX hbl hE d_W_law_553 ev125 ?_
                                obtain ⟨u126, eu126, hf⟩ := hm_bind hf
                                obtain ⟨v127, h127, eh127, hf⟩ := hm_and_of hf
                                refine hm_callV (vs := [.int v124, .int v125]) (st := [.int v123]) (sb := [.int v127, .int v123]) C (c_R_shortcut eh127) Y_R_shortcut F_4 eu126 k_286 k_287 k_285 (by decide) (by decide) rfl (Nat.le_of_ble_eq_true rfl) d_W_law_554 rfl rfl ?_
                                refine hm_icmp_eq (tgt := 727) C d_W_law_557 (by decide) (fun z128 => ?_) (fun z128 => ?_)
                                · have hf := hm_ifp hf z128
                                  exact w_f_W_law_727 C hr hlk hX hbl hE hk18 hf
                                · have hf := hm_ifn hf z128
                                  refine hm_iconst (v := (0 : Int32)) C d_W_law_560 (by decide) ?_
                                  exact hm_lret C hr hlk hX hbl hE d_W_law_561 hf
                              · have hf := hm_ifn hf z119
                                by_cases z129 : (v2 &&& (31 : Int32)) = (14 : Int32)
                                · have hf := hm_ifp hf z129
                                  refine hm_tswIn (tgt := 562) C d_W_law_32 (by rw [z129]; decide) (by rw [z129]; decide) (by rw [z129]; rfl) (by decide) ?_
                                  refine hm_aload_n C d_W_law_562 rfl 1 rfl ?_
                                  refine hm_aload_n C d_W_law_563 rfl 0 rfl ?_
                                  refine hm_iload_n C d_W_law_564 rfl 3 rfl ?_
                                  refine hm_iconst (v := (1 : Int32)) C d_W_law_565 (by decide) ?_
                                  refine hm_iadd C d_W_law_566 ?_
                                  obtain ⟨v130, ev130, hf⟩ := hm_bind hf
                                  refine hm_sld C hX hbl hE d_W_law_567 ev130 ?_
                                  refine hm_aload_n C d_W_law_568 rfl 0 rfl ?_
                                  refine hm_iload_n C d_W_law_569 rfl 3 rfl ?_
                                  refine hm_iconst (v := (2 : Int32)) C d_W_law_570 (by decide) ?_
                                  refine hm_iadd C d_W_law_571 ?_
                                  obtain ⟨v131, ev131, hf⟩ := hm_bind hf
                                  refine hm_sld C hX hbl hE d_W_law_572 ev131 ?_
                                  obtain ⟨u132, eu132, hf⟩ := hm_bind hf
                                  obtain ⟨v133, h133, eh133, hf⟩ := hm_and_of hf
                                  refine hm_callV (vs := [.int v130, .int v131]) (st := []) (sb := [.int v133]) C (c_D_climb eh133) Y_D_climb F_3 eu132 k_289 k_290 k_288 (by decide) (by decide) rfl (Nat.le_of_ble_eq_true rfl) d_W_law_573 rfl rfl ?_
                                  refine hm_aload_n C d_W_law_576 rfl 2 rfl ?_
                                  refine hm_aload_n C d_W_law_577 rfl 0 rfl ?_
                                  refine hm_iload_n C d_W_law_578 rfl 3 rfl ?_
                                  refine hm_iconst (v := (1 : Int32)) C d_W_law_579 (by decide) ?_
                                  refine hm_iadd C d_W_law_580 ?_
                                  obtain ⟨v134, ev134, hf⟩ := hm_bind hf
                                  refine hm_sld C hX hbl hE d_W_law_581 ev134 ?_
                                  refine hm_aload_n C d_W_law_582 rfl 0 rfl ?_
                                  refine hm_iload_n C d_W_law_583 rfl 3 rfl ?_
                                  refine hm_iconst (v := (2 : Int32)) C d_W_law_584 (by decide) ?_
                                  refine hm_iadd C d_W_law_585 ?_
                                  obtain ⟨v135, ev135, hf⟩ := hm_bind hf
                                  refine hm_sld C hX hbl hE d_W_law_586 ev135 ?_
                                  obtain ⟨u136, eu136, hf⟩ := hm_bind hf
                                  obtain ⟨v137, h137, eh137, hf⟩ := hm_and_of hf
                                  refine hm_callV (vs := [.int v134, .int v135]) (st := [.int v133]) (sb := [.int v137, .int v133]) C (c_R_climb eh137) Y_R_climb F_4 eu136 k_292 k_293 k_291 (by decide) (by decide) rfl (Nat.le_of_ble_eq_true rfl) d_W_law_587 rfl rfl ?_
                                  refine hm_icmp_eq (tgt := 727) C d_W_law_590 (by decide) (fun z138 => ?_) (fun z138 => ?_)
                                  · have hf := hm_ifp hf z138
                                    exact w_f_W_law_727 C hr hlk hX hbl hE hk18 hf
                                  · have hf := hm_ifn hf z138
                                    refine hm_iconst (v := (0 : Int32)) C d_W_law_593 (by decide) ?_
                                    exact hm_lret C hr hlk hX hbl hE d_W_law_594 hf
                                · have hf := hm_ifn hf z129
                                  by_cases z139 : (v2 &&& (31 : Int32)) = (15 : Int32)
                                  · have hf := hm_ifp hf z139
                                    refine hm_tswIn (tgt := 595) C d_W_law_32 (by rw [z139]; decide) (by rw [z139]; decide) (by rw [z139]; rfl) (by decide) ?_
                                    refine hm_aload_n C d_W_law_595 rfl 1 rfl ?_
                                    refine hm_aload_n C d_W_law_596 rfl 0 rfl ?_
                                    refine hm_iload_n C d_W_law_597 rfl 3 rfl ?_
                                    refine hm_iconst (v := (1 : Int32)) C d_W_law_598 (by decide) ?_
                                    refine hm_iadd C d_W_law_599 ?_
                                    obtain ⟨v140, ev140, hf⟩ := hm_bind hf
                                    refine hm_sld C hX hbl hE d_W_law_600 ev140 ?_
                                    refine hm_aload_n C d_W_law_601 rfl 0 rfl ?_
                                    refine hm_iload_n C d_W_law_602 rfl 3 rfl ?_
                                    refine hm_iconst (v := (2 : Int32)) C d_W_law_603 (by decide) ?_
                                    refine hm_iadd C d_W_law_604 ?_
                                    obtain ⟨v141, ev141, hf⟩ := hm_bind hf
                                    refine hm_sld C hX hbl hE d_W_law_605 ev141 ?_
                                    refine hm_aload_n C d_W_law_606 rfl 0 rfl ?_
                                    refine hm_iload_n C d_W_law_607 rfl 3 rfl ?_
                                    refine hm_iconst (v := (3 : Int32)) C d_W_law_608 (by decide) ?_
                                    refine hm_iadd C d_W_law_609 ?_
                                    obtain ⟨v142, ev142, hf⟩ := hm_bind hf
                                    refine hm_sld C hX hbl hE d_W_law_610 ev142 ?_
                                    obtain ⟨u143, eu143, hf⟩ := hm_bind hf
                                    obtain ⟨v144, h144, eh144, hf⟩ := hm_and_of hf
                                    refine hm_callV (vs := [.int v140, .int v141, .int v142]) (st := []) (sb := [.int v144]) C (c_D_way eh144) Y_D_way F_3 eu143 k_295 k_296 k_294 (by decide) (by decide) rfl (Nat.le_of_ble_eq_true rfl) d_W_law_611 rfl rfl ?_
                                    refine hm_aload_n C d_W_law_614 rfl 2 rfl ?_
                                    refine hm_aload_n C d_W_law_615 rfl 0 rfl ?_
                                    refine hm_iload_n C d_W_law_616 rfl 3 rfl ?_
                                    refine hm_iconst (v := (1 : Int32)) C d_W_law_617 (by decide) ?_
                                    refine hm_iadd C d_W_law_618 ?_
                                    obtain ⟨v145, ev145, hf⟩ := hm_bind hf
                                    refine hm_sld C hX hbl hE d_W_law_619 ev145 ?_
                                    refine hm_aload_n C d_W_law_620 rfl 0 rfl ?_
                                    refine hm_iload_n C d_W_law_621 rfl 3 rfl ?_
                                    refine hm_iconst (v := (2 : Int32)) C d_W_law_622 (by decide) ?_
                                    refine hm_iadd C d_W_law_623 ?_
                                    obtain ⟨v146, ev146, hf⟩ := hm_bind hf
                                    refine hm_sld C hX hbl hE d_W_law_624 ev146 ?_
                                    refine hm_aload_n C d_W_law_625 rfl 0 rfl ?_
                                    refine hm_iload_n C d_W_law_626 rfl 3 rfl ?_
                                    refine hm_iconst (v := (3 : Int32)) C d_W_law_627 (by decide) ?_
                                    refine hm_iadd C d_W_law_628 ?_
                                    obtain ⟨v147, ev147, hf⟩ := hm_bind hf
                                    refine hm_sld C hX hbl hE d_W_law_629 ev147 ?_
                                    obtain ⟨u148, eu148, hf⟩ := hm_bind hf
                                    obtain ⟨v149, h149, eh149, hf⟩ := hm_and_of hf
                                    refine hm_callV (vs := [.int v145, .int v146, .int v147]) (st := [.int v144]) (sb := [.int v149, .int v144]) C (c_R_way eh149) Y_R_way F_4 eu148 k_298 k_299 k_297 (by decide) (by decide) rfl (Nat.le_of_ble_eq_true rfl) d_W_law_630 rfl rfl ?_
                                    refine hm_icmp_eq (tgt := 727) C d_W_law_633 (by decide) (fun z150 => ?_) (fun z150 => ?_)
                                    · have hf := hm_ifp hf z150
                                      exact w_f_W_law_727 C hr hlk hX hbl hE hk18 hf
                                    · have hf := hm_ifn hf z150
                                      refine hm_iconst (v := (0 : Int32)) C d_W_law_636 (by decide) ?_
                                      exact hm_lret C hr hlk hX hbl hE d_W_law_637 hf
                                  · have hf := hm_ifn hf z139
                                    by_cases z151 : (v2 &&& (31 : Int32)) = (16 : Int32)
                                    · have hf := hm_ifp hf z151
                                      refine hm_tswIn (tgt := 638) C d_W_law_32 (by rw [z151]; decide) (by rw [z151]; decide) (by rw [z151]; rfl) (by decide) ?_
                                      refine hm_aload_n C d_W_law_638 rfl 1 rfl ?_
                                      refine hm_aload_n C d_W_law_639 rfl 0 rfl ?_
                                      refine hm_iload_n C d_W_law_640 rfl 3 rfl ?_
                                      refine hm_iconst (v := (1 : Int32)) C d_W_law_641 (by decide) ?_
                                      refine hm_iadd C d_W_law_642 ?_
                                      obtain ⟨v152, ev152, hf⟩ := hm_bind hf
                                      refine hm_sld C hX hbl hE d_W_law_643 ev152 ?_
                                      refine hm_aload_n C d_W_law_644 rfl 0 rfl ?_
                                      refine hm_iload_n C d_W_law_645 rfl 3 rfl ?_
                                      refine hm_iconst (v := (2 : Int32)) C d_W_law_646 (by decide) ?_
                                      refine hm_iadd C d_W_law_647 ?_
                                      obtain ⟨v153, ev153, hf⟩ := hm_bind hf
                                      refine hm_sld C hX hbl hE d_W_law_648 ev153 ?_
                                      obtain ⟨u154, eu154, hf⟩ := hm_bind hf
                                      obtain ⟨v155, h155, eh155, hf⟩ := hm_and_of hf
                                      refine hm_callV (vs := [.int v152, .int v153]) (st := []) (sb := [.int v155]) C (c_D_least eh155) Y_D_least F_3 eu154 k_301 k_302 k_300 (by decide) (by decide) rfl (Nat.le_of_ble_eq_true rfl) d_W_law_649 rfl rfl ?_
                                      refine hm_aload_n C d_W_law_652 rfl 2 rfl ?_
                                      refine hm_aload_n C d_W_law_653 rfl 0 rfl ?_
                                      refine hm_iload_n C d_W_law_654 rfl 3 rfl ?_
                                      refine hm_iconst (v := (1 : Int32)) C d_W_law_655 (by decide) ?_
                                      refine hm_iadd C d_W_law_656 ?_
                                      obtain ⟨v156, ev156, hf⟩ := hm_bind hf
                                      refine hm_sld C hX hbl hE d_W_law_657 ev156 ?_
                                      refine hm_aload_n C d_W_law_658 rfl 0 rfl ?_
                                      refine hm_iload_n C d_W_law_659 rfl 3 rfl ?_
                                      refine hm_iconst (v := (2 : Int32)) C d_W_law_660 (by decide) ?_
                                      refine hm_iadd C d_W_law_661 ?_
                                      obtain ⟨v157, ev157, hf⟩ := hm_bind hf
                                      refine hm_sld C hX hbl hE d_W_law_662 ev157 ?_
                                      obtain ⟨u158, eu158, hf⟩ := hm_bind hf
                                      obtain ⟨v159, h159, eh159, hf⟩ := hm_and_of hf
                                      refine hm_callV (vs := [.int v156, .int v157]) (st := [.int v155]) (sb := [.int v159, .int v155]) C (c_R_least eh159) Y_R_least F_4 eu158 k_304 k_305 k_303 (by decide) (by decide) rfl (Nat.le_of_ble_eq_true rfl) d_W_law_663 rfl rfl ?_
                                      refine hm_icmp_eq (tgt := 727) C d_W_law_666 (by decide) (fun z160 => ?_) (fun z160 => ?_)
                                      · have hf := hm_ifp hf z160
                                        exact w_f_W_law_727 C hr hlk hX hbl hE hk18 hf
                                      · have hf := hm_ifn hf z160
                                        refine hm_iconst (v := (0 : Int32)) C d_W_law_669 (by decide) ?_
                                        exact hm_lret C hr hlk hX hbl hE d_W_law_670 hf
                                    · have hf := hm_ifn hf z151
                                      by_cases z161 : (v2 &&& (31 : Int32)) = (17 : Int32)
                                      · have hf := hm_ifp hf z161
                                        refine hm_tswIn (tgt := 671) C d_W_law_32 (by rw [z161]; decide) (by rw [z161]; decide) (by rw [z161]; rfl) (by decide) ?_
                                        refine hm_aload_n C d_W_law_671 rfl 1 rfl ?_
                                        refine hm_aload_n C d_W_law_672 rfl 0 rfl ?_
                                        refine hm_iload_n C d_W_law_673 rfl 3 rfl ?_
                                        refine hm_iconst (v := (1 : Int32)) C d_W_law_674 (by decide) ?_
                                        refine hm_iadd C d_W_law_675 ?_
                                        obtain ⟨v162, ev162, hf⟩ := hm_bind hf
                                        refine hm_sld C hX hbl hE d_W_law_676 ev162 ?_
                                        refine hm_aload_n C d_W_law_677 rfl 0 rfl ?_
                                        refine hm_iload_n C d_W_law_678 rfl 3 rfl ?_
                                        refine hm_iconst (v := (2 : Int32)) C d_W_law_679 (by decide) ?_
                                        refine hm_iadd C d_W_law_680 ?_
                                        obtain ⟨v163, ev163, hf⟩ := hm_bind hf
                                        refine hm_sld C hX hbl hE d_W_law_681 ev163 ?_
                                        obtain ⟨u164, eu164, hf⟩ := hm_bind hf
                                        obtain ⟨v165, h165, eh165, hf⟩ := hm_and_of hf
                                        refine hm_callV (vs := [.int v162, .int v163]) (st := []) (sb := [.int v165]) C (c_D_most eh165) Y_D_most F_3 eu164 k_307 k_308 k_306 (by decide) (by decide) rfl (Nat.le_of_ble_eq_true rfl) d_W_law_682 rfl rfl ?_
                                        refine hm_aload_n C d_W_law_685 rfl 2 rfl ?_
                                        refine hm_aload_n C d_W_law_686 rfl 0 rfl ?_
                                        refine hm_iload_n C d_W_law_687 rfl 3 rfl ?_
                                        refine hm_iconst (v := (1 : Int32)) C d_W_law_688 (by decide) ?_
                                        refine hm_iadd C d_W_law_689 ?_
                                        obtain ⟨v166, ev166, hf⟩ := hm_bind hf
                                        refine hm_sld C hX hbl hE d_W_law_690 ev166 ?_
                                        refine hm_aload_n C d_W_law_691 rfl 0 rfl ?_
                                        refine hm_iload_n C d_W_law_692 rfl 3 rfl ?_
                                        refine hm_iconst (v := (2 : Int32)) C d_W_law_693 (by decide) ?_
                                        refine hm_iadd C d_W_law_694 ?_
                                        obtain ⟨v167, ev167, hf⟩ := hm_bind hf
                                        refine hm_sld C hX hbl hE d_W_law_695 ev167 ?_
                                        obtain ⟨u168, eu168, hf⟩ := hm_bind hf
                                        obtain ⟨v169, h169, eh169, hf⟩ := hm_and_of hf
                                        refine hm_callV (vs := [.int v166, .int v167]) (st := [.int v165]) (sb := [.int v169, .int v165]) C (c_R_most eh169) Y_R_most F_4 eu168 k_310 k_311 k_309 (by decide) (by decide) rfl (Nat.le_of_ble_eq_true rfl) d_W_law_696 rfl rfl ?_
                                        refine hm_icmp_eq (tgt := 727) C d_W_law_699 (by decide) (fun z170 => ?_) (fun z170 => ?_)
                                        · have hf := hm_ifp hf z170
                                          exact w_f_W_law_727 C hr hlk hX hbl hE hk18 hf
                                        · have hf := hm_ifn hf z170
                                          refine hm_iconst (v := (0 : Int32)) C d_W_law_702 (by decide) ?_
                                          exact hm_lret C hr hlk hX hbl hE d_W_law_703 hf
                                      · have hf := hm_ifn hf z161
                                        by_cases z171 : (v2 &&& (31 : Int32)) = (18 : Int32)
                                        · have hf := hm_ifp hf z171
                                          refine hm_tswIn (tgt := 704) C d_W_law_32 (by rw [z171]; decide) (by rw [z171]; decide) (by rw [z171]; rfl) (by decide) ?_
                                          refine hm_aload_n C d_W_law_704 rfl 1 rfl ?_
                                          refine hm_aload_n C d_W_law_705 rfl 0 rfl ?_
                                          refine hm_iload_n C d_W_law_706 rfl 3 rfl ?_
                                          refine hm_iconst (v := (1 : Int32)) C d_W_law_707 (by decide) ?_
                                          refine hm_iadd C d_W_law_708 ?_
                                          obtain ⟨v172, ev172, hf⟩ := hm_bind hf
                                          refine hm_sld C hX hbl hE d_W_law_709 ev172 ?_
                                          obtain ⟨u173, eu173, hf⟩ := hm_bind hf
                                          obtain ⟨v174, h174, eh174, hf⟩ := hm_and_of hf
                                          refine hm_callV (vs := [.int v172]) (st := []) (sb := [.int v174]) C (c_D_count eh174) Y_D_count F_3 eu173 k_313 k_314 k_312 (by decide) (by decide) rfl (Nat.le_of_ble_eq_true rfl) d_W_law_710 rfl rfl ?_
                                          refine hm_aload_n C d_W_law_713 rfl 2 rfl ?_
                                          refine hm_aload_n C d_W_law_714 rfl 0 rfl ?_
                                          refine hm_iload_n C d_W_law_715 rfl 3 rfl ?_
                                          refine hm_iconst (v := (1 : Int32)) C d_W_law_716 (by decide) ?_
                                          refine hm_iadd C d_W_law_717 ?_
                                          obtain ⟨v175, ev175, hf⟩ := hm_bind hf
                                          refine hm_sld C hX hbl hE d_W_law_718 ev175 ?_
                                          obtain ⟨u176, eu176, hf⟩ := hm_bind hf
                                          obtain ⟨v177, h177, eh177, hf⟩ := hm_and_of hf
                                          refine hm_callV (vs := [.int v175]) (st := [.int v174]) (sb := [.int v177, .int v174]) C (c_R_count eh177) Y_R_count F_4 eu176 k_316 k_317 k_315 (by decide) (by decide) rfl (Nat.le_of_ble_eq_true rfl) d_W_law_719 rfl rfl ?_
                                          refine hm_icmp_eq (tgt := 727) C d_W_law_722 (by decide) (fun z178 => ?_) (fun z178 => ?_)
                                          · have hf := hm_ifp hf z178
                                            exact w_f_W_law_727 C hr hlk hX hbl hE hk18 hf
                                          · have hf := hm_ifn hf z178
                                            refine hm_iconst (v := (0 : Int32)) C d_W_law_725 (by decide) ?_
                                            exact hm_lret C hr hlk hX hbl hE d_W_law_726 hf
                                        · have hf := hm_ifn hf z171
                                          refine hm_tswOut (tgt := 727) C d_W_law_32 (by have qz3 := lv_neT z3 (a := 0) (by decide); have qz9 := lv_neT z9 (a := 1) (by decide); have qz21 := lv_neT z21 (a := 2) (by decide); have qz31 := lv_neT z31 (a := 3) (by decide); have qz41 := lv_neT z41 (a := 4) (by decide); have qz49 := lv_neT z49 (a := 5) (by decide); have qz53 := lv_neT z53 (a := 6) (by decide); have qz59 := lv_neT z59 (a := 7) (by decide); have qz73 := lv_neT z73 (a := 8) (by decide); have qz83 := lv_neT z83 (a := 9) (by decide); have qz93 := lv_neT z93 (a := 10) (by decide); have qz99 := lv_neT z99 (a := 11) (by decide); have qz113 := lv_neT z113 (a := 12) (by decide); have qz119 := lv_neT z119 (a := 13) (by decide); have qz129 := lv_neT z129 (a := 14) (by decide); have qz139 := lv_neT z139 (a := 15) (by decide); have qz151 := lv_neT z151 (a := 16) (by decide); have qz161 := lv_neT z161 (a := 17) (by decide); have qz171 := lv_neT z171 (a := 18) (by decide); omega) (by decide) ?_
                                          exact w_f_W_law_727 C hr hlk hX hbl hE hk18 hf
theorem w_W_law_18L {p : Program} {l : Launch} {e : Env} {s : State} {m : MethodId} {below : List Frame} {meth : Method} {c : Code} {E : hm_E} {n0 s0 F L b0 : Nat} {xs : Nat → Int32} {h' : hm_T} (C : hm_C E code 4 "DistanceLabelsLaw" 6 145 n0 s0 (hm_n h') (hm_s h') p room_1 s m #[Value.ref b0] c) (hr : meth.sig.returnType = ret) (hlk : meth.locks = false) (hX : va_X b0 L xs s s.heap) (hbl : b0 < s.heap.size) (hE : E.2.2 = s.heap.size) : ∀ (N : Nat) (x1 : Nat) (x2 : Nat) (x3 : Int32) (h : hm_T), f_W_law_18 F L xs N x1 x2 x3 h = some ((1 : Int32), h') → hm_G E 4 n0 s0 (hm_n h') (hm_s h') p l e room_1 s m #[Value.ref b0] below meth c (lw_Z below #[Value.ref b0] s) 18 [(0, .ref b0), (1, .ref x1), (2, .ref x2), (3, .int x3)] [] h := by
  intro N
  induction N with
  | zero => intro _ _ _ _ hf; cases hf
  | succ n ih => intro x1 x2 x3 h hf; exact w_g_W_law_18 C hr hlk hX hbl hE ih hf
set_option maxRecDepth 20000 in
set_option maxHeartbeats 1000000 in
theorem w_f_W_law {p : Program} {l : Launch} {e : Env} {s : State} {m : MethodId} {below : List Frame} {meth : Method} {c : Code} {E : hm_E} {n0 s0 F L b0 : Nat} {xs : Nat → Int32} {h h' : hm_T} (C : hm_C E code 4 "DistanceLabelsLaw" 6 145 n0 s0 (hm_n h') (hm_s h') p room_1 s m #[Value.ref b0] c) (hr : meth.sig.returnType = ret) (hlk : meth.locks = false) (hX : va_X b0 L xs s s.heap) (hbl : b0 < s.heap.size) (hE : E.2.2 = s.heap.size) (hf : f_W_law F L xs h = some ((1 : Int32), h')) : hm_G E 4 n0 s0 (hm_n h') (hm_s h') p l e room_1 s m #[Value.ref b0] below meth c (lw_Z below #[Value.ref b0] s) 0 [(0, .ref b0)] [] h := by
  unfold f_W_law at hf
  obtain ⟨q1, h1, eh1, hf⟩ := hm_and_of hf
  refine hm_newO C F_3 k_318 k_319 k_320 D_3 d_W_law_0 eh1 ?_
  refine hm_dup C d_W_law_3 rfl ?_
  obtain ⟨h2, eh2, hf⟩ := hm_bind hf
  refine hm_callI (vs := []) (st := [.ref q1]) (sb := [.ref q1]) C (c_D_init eh2) Y_D_init rfl k_322 k_321 (by decide) (by decide) rfl (Nat.le_of_ble_eq_true rfl) d_W_law_4 rfl rfl ?_
  refine hm_astore_n (lv' := [(1, .ref q1), (0, .ref b0)]) C d_W_law_7 rfl (by decide) rfl ?_
  obtain ⟨q3, h3, eh3, hf⟩ := hm_and_of hf
  refine hm_newO C F_4 k_323 k_324 k_325 D_4 d_W_law_8 eh3 ?_
  refine hm_dup C d_W_law_11 rfl ?_
  obtain ⟨h4, eh4, hf⟩ := hm_bind hf
  refine hm_callI (vs := []) (st := [.ref q3]) (sb := [.ref q3]) C (c_R_init eh4) Y_R_init rfl k_327 k_326 (by decide) (by decide) rfl (Nat.le_of_ble_eq_true rfl) d_W_law_12 rfl rfl ?_
  refine hm_astore_n (lv' := [(2, .ref q3), (1, .ref q1), (0, .ref b0)]) C d_W_law_15 rfl (by decide) rfl ?_
  refine hm_iconst (v := (0 : Int32)) C d_W_law_16 (by decide) ?_
  refine hm_istore_n (lv' := [(3, .int (0 : Int32)), (2, .ref q3), (1, .ref q1), (0, .ref b0)]) C d_W_law_17 rfl (by decide) rfl ?_
  refine hm_sub (lv' := [(0, .ref b0), (1, .ref q1), (2, .ref q3), (3, .int (0 : Int32))]) [3, 2, 1, 0] rfl ?_
  exact w_W_law_18L C hr hlk hX hbl hE _ _ _ _ _ hf
