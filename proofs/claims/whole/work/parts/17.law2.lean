set_option maxRecDepth 100000 in
set_option maxHeartbeats 4000000 in
theorem lw_case_0 {p : Program} {l : Launch} {e : Env} {s : State} {m : MethodId} {below : List Frame} {meth : Method} {c : Code} {b N : Nat} {xs : Nat → Int32} {g : aG} {Inv : Nat → aH → Prop} {i n : Nat} {h : aH} (C : lw_C p s m meth c b N xs g) (hi : i + 3 ≤ N) (hN : N ≤ 1536) (hpr : a_pair Inv mX9_feed mX10_feed 1 1 1) (hn : n < 512) (hI : Inv n h) (hh : ∀ c i, inR (h c i)) (kk : ∀ h2, Inv (n + 1) h2 → (∀ c i, inR (h2 c i)) → LW p l e s m below meth c b g 767 i [] h2) : LW p l e s m below meth c b g 156 i [] h := by
  have hp := hpr n h (xs (i + 1)).toInt (xs (i + 2)).toInt hn hI hh (a_32 _) (a_32 _)
  refine LW.aload1 C (pc := 156) dL_law_156 ?_
  refine LW.arg C (pc := 157) (j := 1) hi hN (by decide) dL_law_157 dL_law_158 dL_law_159 dL_law_160 dL_law_161 ?_
  refine LW.call C (pc := 162) (M' := mX9_feed) (F' := 1) (x := 0) (as := [aI (xs (i + 1)).toInt]) (st := []) dL_law_162 (by decide) kX9_feed ml_L_13 ob_0 rfl npX9_feed (Nat.le_of_ble_eq_true rfl) (by intro v hv; simp at hv; rcases hv with rfl | rfl <;> first | exact trivial | exact a_32 _) hh hp (fun r0 h0 hr0 hh0 hq0 => ?_)
  refine LW.aload2 C (pc := 165) dL_law_165 ?_
  refine LW.arg C (pc := 166) (j := 1) hi hN (by decide) dL_law_166 dL_law_167 dL_law_168 dL_law_169 dL_law_170 ?_
  refine LW.call C (pc := 171) (M' := mX10_feed) (F' := 1) (x := 85) (as := [aI (xs (i + 1)).toInt]) (st := [aI r0]) dL_law_171 (by decide) kX10_feed ml_L_17 ob_85 rfl npX10_feed (Nat.le_of_ble_eq_true rfl) (by intro v hv; simp at hv; rcases hv with rfl | rfl <;> first | exact trivial | exact a_32 _) hh0 hq0 (fun r1 h1 hr1 hh1 hq1 => ?_)
  obtain ⟨he, hI2⟩ := hq1
  refine LW.cmp C (pc := 174) (tgt := 767) dL_law_174 rfl he ?_
  exact kk h1 hI2 hh1
set_option maxRecDepth 100000 in
set_option maxHeartbeats 4000000 in
theorem lw_case_1 {p : Program} {l : Launch} {e : Env} {s : State} {m : MethodId} {below : List Frame} {meth : Method} {c : Code} {b N : Nat} {xs : Nat → Int32} {g : aG} {Inv : Nat → aH → Prop} {i n : Nat} {h : aH} (C : lw_C p s m meth c b N xs g) (hi : i + 3 ≤ N) (hN : N ≤ 1536) (hpr : a_pair Inv mX9_shop mX10_shop 5 5 0) (hn : n < 512) (hI : Inv n h) (hh : ∀ c i, inR (h c i)) (kk : ∀ h2, Inv (n + 1) h2 → (∀ c i, inR (h2 c i)) → LW p l e s m below meth c b g 767 i [] h2) : LW p l e s m below meth c b g 179 i [] h := by
  have hp := hpr n h (xs (i + 1)).toInt (xs (i + 2)).toInt hn hI hh (a_32 _) (a_32 _)
  refine LW.aload1 C (pc := 179) dL_law_179 ?_
  refine LW.call C (pc := 180) (M' := mX9_shop) (F' := 5) (x := 0) (as := []) (st := []) dL_law_180 (by decide) kX9_shop ml_L_18 ob_0 rfl npX9_shop (Nat.le_of_ble_eq_true rfl) (by intro v hv; simp at hv; rcases hv with rfl <;> first | exact trivial | exact a_32 _) hh hp (fun r0 h0 hr0 hh0 hq0 => ?_)
  refine LW.aload2 C (pc := 183) dL_law_183 ?_
  refine LW.call C (pc := 184) (M' := mX10_shop) (F' := 5) (x := 85) (as := []) (st := [aI r0]) dL_law_184 (by decide) kX10_shop ml_L_22 ob_85 rfl npX10_shop (Nat.le_of_ble_eq_true rfl) (by intro v hv; simp at hv; rcases hv with rfl <;> first | exact trivial | exact a_32 _) hh0 hq0 (fun r1 h1 hr1 hh1 hq1 => ?_)
  obtain ⟨he, hI2⟩ := hq1
  refine LW.cmp C (pc := 187) (tgt := 767) dL_law_187 rfl he ?_
  exact kk h1 hI2 hh1
set_option maxRecDepth 100000 in
set_option maxHeartbeats 4000000 in
theorem lw_case_2 {p : Program} {l : Launch} {e : Env} {s : State} {m : MethodId} {below : List Frame} {meth : Method} {c : Code} {b N : Nat} {xs : Nat → Int32} {g : aG} {Inv : Nat → aH → Prop} {i n : Nat} {h : aH} (C : lw_C p s m meth c b N xs g) (hi : i + 3 ≤ N) (hN : N ≤ 1536) (hpr : a_pair Inv mX9_task mX10_task 1 2 2) (hn : n < 512) (hI : Inv n h) (hh : ∀ c i, inR (h c i)) (kk : ∀ h2, Inv (n + 1) h2 → (∀ c i, inR (h2 c i)) → LW p l e s m below meth c b g 767 i [] h2) : LW p l e s m below meth c b g 192 i [] h := by
  have hp := hpr n h (xs (i + 1)).toInt (xs (i + 2)).toInt hn hI hh (a_32 _) (a_32 _)
  refine LW.aload1 C (pc := 192) dL_law_192 ?_
  refine LW.arg C (pc := 193) (j := 1) hi hN (by decide) dL_law_193 dL_law_194 dL_law_195 dL_law_196 dL_law_197 ?_
  refine LW.arg C (pc := 198) (j := 2) hi hN (by decide) dL_law_198 dL_law_199 dL_law_200 dL_law_201 dL_law_202 ?_
  refine LW.call C (pc := 203) (M' := mX9_task) (F' := 1) (x := 0) (as := [aI (xs (i + 1)).toInt, aI (xs (i + 2)).toInt]) (st := []) dL_law_203 (by decide) kX9_task ml_L_23 ob_0 rfl npX9_task (Nat.le_of_ble_eq_true rfl) (by intro v hv; simp at hv; rcases hv with rfl | rfl | rfl <;> first | exact trivial | exact a_32 _) hh hp (fun r0 h0 hr0 hh0 hq0 => ?_)
  refine LW.aload2 C (pc := 206) dL_law_206 ?_
  refine LW.arg C (pc := 207) (j := 1) hi hN (by decide) dL_law_207 dL_law_208 dL_law_209 dL_law_210 dL_law_211 ?_
  refine LW.arg C (pc := 212) (j := 2) hi hN (by decide) dL_law_212 dL_law_213 dL_law_214 dL_law_215 dL_law_216 ?_
  refine LW.call C (pc := 217) (M' := mX10_task) (F' := 2) (x := 85) (as := [aI (xs (i + 1)).toInt, aI (xs (i + 2)).toInt]) (st := [aI r0]) dL_law_217 (by decide) kX10_task ml_L_27 ob_85 rfl npX10_task (Nat.le_of_ble_eq_true rfl) (by intro v hv; simp at hv; rcases hv with rfl | rfl | rfl <;> first | exact trivial | exact a_32 _) hh0 hq0 (fun r1 h1 hr1 hh1 hq1 => ?_)
  obtain ⟨he, hI2⟩ := hq1
  refine LW.cmp C (pc := 220) (tgt := 767) dL_law_220 rfl he ?_
  exact kk h1 hI2 hh1
set_option maxRecDepth 100000 in
set_option maxHeartbeats 4000000 in
theorem lw_case_3 {p : Program} {l : Launch} {e : Env} {s : State} {m : MethodId} {below : List Frame} {meth : Method} {c : Code} {b N : Nat} {xs : Nat → Int32} {g : aG} {Inv : Nat → aH → Prop} {i n : Nat} {h : aH} (C : lw_C p s m meth c b N xs g) (hi : i + 3 ≤ N) (hN : N ≤ 1536) (hpr : a_pair Inv mX9_order mX10_order 1 2 2) (hn : n < 512) (hI : Inv n h) (hh : ∀ c i, inR (h c i)) (kk : ∀ h2, Inv (n + 1) h2 → (∀ c i, inR (h2 c i)) → LW p l e s m below meth c b g 767 i [] h2) : LW p l e s m below meth c b g 225 i [] h := by
  have hp := hpr n h (xs (i + 1)).toInt (xs (i + 2)).toInt hn hI hh (a_32 _) (a_32 _)
  refine LW.aload1 C (pc := 225) dL_law_225 ?_
  refine LW.arg C (pc := 226) (j := 1) hi hN (by decide) dL_law_226 dL_law_227 dL_law_228 dL_law_229 dL_law_230 ?_
  refine LW.arg C (pc := 231) (j := 2) hi hN (by decide) dL_law_231 dL_law_232 dL_law_233 dL_law_234 dL_law_235 ?_
  refine LW.call C (pc := 236) (M' := mX9_order) (F' := 1) (x := 0) (as := [aI (xs (i + 1)).toInt, aI (xs (i + 2)).toInt]) (st := []) dL_law_236 (by decide) kX9_order ml_L_28 ob_0 rfl npX9_order (Nat.le_of_ble_eq_true rfl) (by intro v hv; simp at hv; rcases hv with rfl | rfl | rfl <;> first | exact trivial | exact a_32 _) hh hp (fun r0 h0 hr0 hh0 hq0 => ?_)
  refine LW.aload2 C (pc := 239) dL_law_239 ?_
  refine LW.arg C (pc := 240) (j := 1) hi hN (by decide) dL_law_240 dL_law_241 dL_law_242 dL_law_243 dL_law_244 ?_
  refine LW.arg C (pc := 245) (j := 2) hi hN (by decide) dL_law_245 dL_law_246 dL_law_247 dL_law_248 dL_law_249 ?_
  refine LW.call C (pc := 250) (M' := mX10_order) (F' := 2) (x := 85) (as := [aI (xs (i + 1)).toInt, aI (xs (i + 2)).toInt]) (st := [aI r0]) dL_law_250 (by decide) kX10_order ml_L_31 ob_85 rfl npX10_order (Nat.le_of_ble_eq_true rfl) (by intro v hv; simp at hv; rcases hv with rfl | rfl | rfl <;> first | exact trivial | exact a_32 _) hh0 hq0 (fun r1 h1 hr1 hh1 hq1 => ?_)
  obtain ⟨he, hI2⟩ := hq1
  refine LW.cmp C (pc := 253) (tgt := 767) dL_law_253 rfl he ?_
  exact kk h1 hI2 hh1
set_option maxRecDepth 100000 in
set_option maxHeartbeats 4000000 in
theorem lw_case_4 {p : Program} {l : Launch} {e : Env} {s : State} {m : MethodId} {below : List Frame} {meth : Method} {c : Code} {b N : Nat} {xs : Nat → Int32} {g : aG} {Inv : Nat → aH → Prop} {i n : Nat} {h : aH} (C : lw_C p s m meth c b N xs g) (hi : i + 3 ≤ N) (hN : N ≤ 1536) (hpr : a_pair Inv mX9_turn mX10_turn 5 4 2) (hn : n < 512) (hI : Inv n h) (hh : ∀ c i, inR (h c i)) (kk : ∀ h2, Inv (n + 1) h2 → (∀ c i, inR (h2 c i)) → LW p l e s m below meth c b g 767 i [] h2) : LW p l e s m below meth c b g 258 i [] h := by
  have hp := hpr n h (xs (i + 1)).toInt (xs (i + 2)).toInt hn hI hh (a_32 _) (a_32 _)
  refine LW.aload1 C (pc := 258) dL_law_258 ?_
  refine LW.arg C (pc := 259) (j := 1) hi hN (by decide) dL_law_259 dL_law_260 dL_law_261 dL_law_262 dL_law_263 ?_
  refine LW.arg C (pc := 264) (j := 2) hi hN (by decide) dL_law_264 dL_law_265 dL_law_266 dL_law_267 dL_law_268 ?_
  refine LW.call C (pc := 269) (M' := mX9_turn) (F' := 5) (x := 0) (as := [aI (xs (i + 1)).toInt, aI (xs (i + 2)).toInt]) (st := []) dL_law_269 (by decide) kX9_turn ml_L_32 ob_0 rfl npX9_turn (Nat.le_of_ble_eq_true rfl) (by intro v hv; simp at hv; rcases hv with rfl | rfl | rfl <;> first | exact trivial | exact a_32 _) hh hp (fun r0 h0 hr0 hh0 hq0 => ?_)
  refine LW.aload2 C (pc := 272) dL_law_272 ?_
  refine LW.arg C (pc := 273) (j := 1) hi hN (by decide) dL_law_273 dL_law_274 dL_law_275 dL_law_276 dL_law_277 ?_
  refine LW.arg C (pc := 278) (j := 2) hi hN (by decide) dL_law_278 dL_law_279 dL_law_280 dL_law_281 dL_law_282 ?_
  refine LW.call C (pc := 283) (M' := mX10_turn) (F' := 4) (x := 85) (as := [aI (xs (i + 1)).toInt, aI (xs (i + 2)).toInt]) (st := [aI r0]) dL_law_283 (by decide) kX10_turn ml_L_35 ob_85 rfl npX10_turn (Nat.le_of_ble_eq_true rfl) (by intro v hv; simp at hv; rcases hv with rfl | rfl | rfl <;> first | exact trivial | exact a_32 _) hh0 hq0 (fun r1 h1 hr1 hh1 hq1 => ?_)
  obtain ⟨he, hI2⟩ := hq1
  refine LW.cmp C (pc := 286) (tgt := 767) dL_law_286 rfl he ?_
  exact kk h1 hI2 hh1
set_option maxRecDepth 100000 in
set_option maxHeartbeats 4000000 in
theorem lw_case_5 {p : Program} {l : Launch} {e : Env} {s : State} {m : MethodId} {below : List Frame} {meth : Method} {c : Code} {b N : Nat} {xs : Nat → Int32} {g : aG} {Inv : Nat → aH → Prop} {i n : Nat} {h : aH} (C : lw_C p s m meth c b N xs g) (hi : i + 3 ≤ N) (hN : N ≤ 1536) (hpr : a_pair Inv mX9_span mX10_span 2 4 0) (hn : n < 512) (hI : Inv n h) (hh : ∀ c i, inR (h c i)) (kk : ∀ h2, Inv (n + 1) h2 → (∀ c i, inR (h2 c i)) → LW p l e s m below meth c b g 767 i [] h2) : LW p l e s m below meth c b g 291 i [] h := by
  have hp := hpr n h (xs (i + 1)).toInt (xs (i + 2)).toInt hn hI hh (a_32 _) (a_32 _)
  refine LW.aload1 C (pc := 291) dL_law_291 ?_
  refine LW.call C (pc := 292) (M' := mX9_span) (F' := 2) (x := 0) (as := []) (st := []) dL_law_292 (by decide) kX9_span ml_L_36 ob_0 rfl npX9_span (Nat.le_of_ble_eq_true rfl) (by intro v hv; simp at hv; rcases hv with rfl <;> first | exact trivial | exact a_32 _) hh hp (fun r0 h0 hr0 hh0 hq0 => ?_)
  refine LW.aload2 C (pc := 295) dL_law_295 ?_
  refine LW.call C (pc := 296) (M' := mX10_span) (F' := 4) (x := 85) (as := []) (st := [aI r0]) dL_law_296 (by decide) kX10_span ml_L_39 ob_85 rfl npX10_span (Nat.le_of_ble_eq_true rfl) (by intro v hv; simp at hv; rcases hv with rfl <;> first | exact trivial | exact a_32 _) hh0 hq0 (fun r1 h1 hr1 hh1 hq1 => ?_)
  obtain ⟨he, hI2⟩ := hq1
  refine LW.cmp C (pc := 299) (tgt := 767) dL_law_299 rfl he ?_
  exact kk h1 hI2 hh1
set_option maxRecDepth 100000 in
set_option maxHeartbeats 4000000 in
theorem lw_case_6 {p : Program} {l : Launch} {e : Env} {s : State} {m : MethodId} {below : List Frame} {meth : Method} {c : Code} {b N : Nat} {xs : Nat → Int32} {g : aG} {Inv : Nat → aH → Prop} {i n : Nat} {h : aH} (C : lw_C p s m meth c b N xs g) (hi : i + 3 ≤ N) (hN : N ≤ 1536) (hpr : a_pair Inv mX9_of mX10_of 2 4 2) (hn : n < 512) (hI : Inv n h) (hh : ∀ c i, inR (h c i)) (kk : ∀ h2, Inv (n + 1) h2 → (∀ c i, inR (h2 c i)) → LW p l e s m below meth c b g 767 i [] h2) : LW p l e s m below meth c b g 304 i [] h := by
  have hp := hpr n h (xs (i + 1)).toInt (xs (i + 2)).toInt hn hI hh (a_32 _) (a_32 _)
  refine LW.aload1 C (pc := 304) dL_law_304 ?_
  refine LW.arg C (pc := 305) (j := 1) hi hN (by decide) dL_law_305 dL_law_306 dL_law_307 dL_law_308 dL_law_309 ?_
  refine LW.arg C (pc := 310) (j := 2) hi hN (by decide) dL_law_310 dL_law_311 dL_law_312 dL_law_313 dL_law_314 ?_
  refine LW.call C (pc := 315) (M' := mX9_of) (F' := 2) (x := 0) (as := [aI (xs (i + 1)).toInt, aI (xs (i + 2)).toInt]) (st := []) dL_law_315 (by decide) kX9_of ml_L_40 ob_0 rfl npX9_of (Nat.le_of_ble_eq_true rfl) (by intro v hv; simp at hv; rcases hv with rfl | rfl | rfl <;> first | exact trivial | exact a_32 _) hh hp (fun r0 h0 hr0 hh0 hq0 => ?_)
  refine LW.aload2 C (pc := 318) dL_law_318 ?_
  refine LW.arg C (pc := 319) (j := 1) hi hN (by decide) dL_law_319 dL_law_320 dL_law_321 dL_law_322 dL_law_323 ?_
  refine LW.arg C (pc := 324) (j := 2) hi hN (by decide) dL_law_324 dL_law_325 dL_law_326 dL_law_327 dL_law_328 ?_
  refine LW.call C (pc := 329) (M' := mX10_of) (F' := 4) (x := 85) (as := [aI (xs (i + 1)).toInt, aI (xs (i + 2)).toInt]) (st := [aI r0]) dL_law_329 (by decide) kX10_of ml_L_43 ob_85 rfl npX10_of (Nat.le_of_ble_eq_true rfl) (by intro v hv; simp at hv; rcases hv with rfl | rfl | rfl <;> first | exact trivial | exact a_32 _) hh0 hq0 (fun r1 h1 hr1 hh1 hq1 => ?_)
  obtain ⟨he, hI2⟩ := hq1
  refine LW.cmp C (pc := 332) (tgt := 767) dL_law_332 rfl he ?_
  exact kk h1 hI2 hh1
set_option maxRecDepth 100000 in
set_option maxHeartbeats 4000000 in
theorem lw_case_7 {p : Program} {l : Launch} {e : Env} {s : State} {m : MethodId} {below : List Frame} {meth : Method} {c : Code} {b N : Nat} {xs : Nat → Int32} {g : aG} {Inv : Nat → aH → Prop} {i n : Nat} {h : aH} (C : lw_C p s m meth c b N xs g) (hi : i + 3 ≤ N) (hN : N ≤ 1536) (hpr : a_pair Inv mX9_way mX10_way 2 5 1) (hn : n < 512) (hI : Inv n h) (hh : ∀ c i, inR (h c i)) (kk : ∀ h2, Inv (n + 1) h2 → (∀ c i, inR (h2 c i)) → LW p l e s m below meth c b g 767 i [] h2) : LW p l e s m below meth c b g 337 i [] h := by
  have hp := hpr n h (xs (i + 1)).toInt (xs (i + 2)).toInt hn hI hh (a_32 _) (a_32 _)
  refine LW.aload1 C (pc := 337) dL_law_337 ?_
  refine LW.arg C (pc := 338) (j := 1) hi hN (by decide) dL_law_338 dL_law_339 dL_law_340 dL_law_341 dL_law_342 ?_
  refine LW.call C (pc := 343) (M' := mX9_way) (F' := 2) (x := 0) (as := [aI (xs (i + 1)).toInt]) (st := []) dL_law_343 (by decide) kX9_way ml_L_44 ob_0 rfl npX9_way (Nat.le_of_ble_eq_true rfl) (by intro v hv; simp at hv; rcases hv with rfl | rfl <;> first | exact trivial | exact a_32 _) hh hp (fun r0 h0 hr0 hh0 hq0 => ?_)
  refine LW.aload2 C (pc := 346) dL_law_346 ?_
  refine LW.arg C (pc := 347) (j := 1) hi hN (by decide) dL_law_347 dL_law_348 dL_law_349 dL_law_350 dL_law_351 ?_
  refine LW.call C (pc := 352) (M' := mX10_way) (F' := 5) (x := 85) (as := [aI (xs (i + 1)).toInt]) (st := [aI r0]) dL_law_352 (by decide) kX10_way ml_L_47 ob_85 rfl npX10_way (Nat.le_of_ble_eq_true rfl) (by intro v hv; simp at hv; rcases hv with rfl | rfl <;> first | exact trivial | exact a_32 _) hh0 hq0 (fun r1 h1 hr1 hh1 hq1 => ?_)
  obtain ⟨he, hI2⟩ := hq1
  refine LW.cmp C (pc := 355) (tgt := 767) dL_law_355 rfl he ?_
  exact kk h1 hI2 hh1
set_option maxRecDepth 100000 in
set_option maxHeartbeats 4000000 in
theorem lw_case_8 {p : Program} {l : Launch} {e : Env} {s : State} {m : MethodId} {below : List Frame} {meth : Method} {c : Code} {b N : Nat} {xs : Nat → Int32} {g : aG} {Inv : Nat → aH → Prop} {i n : Nat} {h : aH} (C : lw_C p s m meth c b N xs g) (hi : i + 3 ≤ N) (hN : N ≤ 1536) (hpr : a_pair Inv mX9_block mX10_block 2 5 1) (hn : n < 512) (hI : Inv n h) (hh : ∀ c i, inR (h c i)) (kk : ∀ h2, Inv (n + 1) h2 → (∀ c i, inR (h2 c i)) → LW p l e s m below meth c b g 767 i [] h2) : LW p l e s m below meth c b g 360 i [] h := by
  have hp := hpr n h (xs (i + 1)).toInt (xs (i + 2)).toInt hn hI hh (a_32 _) (a_32 _)
  refine LW.aload1 C (pc := 360) dL_law_360 ?_
  refine LW.arg C (pc := 361) (j := 1) hi hN (by decide) dL_law_361 dL_law_362 dL_law_363 dL_law_364 dL_law_365 ?_
  refine LW.call C (pc := 366) (M' := mX9_block) (F' := 2) (x := 0) (as := [aI (xs (i + 1)).toInt]) (st := []) dL_law_366 (by decide) kX9_block ml_L_48 ob_0 rfl npX9_block (Nat.le_of_ble_eq_true rfl) (by intro v hv; simp at hv; rcases hv with rfl | rfl <;> first | exact trivial | exact a_32 _) hh hp (fun r0 h0 hr0 hh0 hq0 => ?_)
  refine LW.aload2 C (pc := 369) dL_law_369 ?_
  refine LW.arg C (pc := 370) (j := 1) hi hN (by decide) dL_law_370 dL_law_371 dL_law_372 dL_law_373 dL_law_374 ?_
  refine LW.call C (pc := 375) (M' := mX10_block) (F' := 5) (x := 85) (as := [aI (xs (i + 1)).toInt]) (st := [aI r0]) dL_law_375 (by decide) kX10_block ml_L_51 ob_85 rfl npX10_block (Nat.le_of_ble_eq_true rfl) (by intro v hv; simp at hv; rcases hv with rfl | rfl <;> first | exact trivial | exact a_32 _) hh0 hq0 (fun r1 h1 hr1 hh1 hq1 => ?_)
  obtain ⟨he, hI2⟩ := hq1
  refine LW.cmp C (pc := 378) (tgt := 767) dL_law_378 rfl he ?_
  exact kk h1 hI2 hh1
set_option maxRecDepth 100000 in
set_option maxHeartbeats 4000000 in
theorem lw_case_9 {p : Program} {l : Launch} {e : Env} {s : State} {m : MethodId} {below : List Frame} {meth : Method} {c : Code} {b N : Nat} {xs : Nat → Int32} {g : aG} {Inv : Nat → aH → Prop} {i n : Nat} {h : aH} (C : lw_C p s m meth c b N xs g) (hi : i + 3 ≤ N) (hN : N ≤ 1536) (hpr : a_pair Inv mX9_move mX10_move 2 6 1) (hn : n < 512) (hI : Inv n h) (hh : ∀ c i, inR (h c i)) (kk : ∀ h2, Inv (n + 1) h2 → (∀ c i, inR (h2 c i)) → LW p l e s m below meth c b g 767 i [] h2) : LW p l e s m below meth c b g 383 i [] h := by
  have hp := hpr n h (xs (i + 1)).toInt (xs (i + 2)).toInt hn hI hh (a_32 _) (a_32 _)
  refine LW.aload1 C (pc := 383) dL_law_383 ?_
  refine LW.arg C (pc := 384) (j := 1) hi hN (by decide) dL_law_384 dL_law_385 dL_law_386 dL_law_387 dL_law_388 ?_
  refine LW.call C (pc := 389) (M' := mX9_move) (F' := 2) (x := 0) (as := [aI (xs (i + 1)).toInt]) (st := []) dL_law_389 (by decide) kX9_move ml_L_52 ob_0 rfl npX9_move (Nat.le_of_ble_eq_true rfl) (by intro v hv; simp at hv; rcases hv with rfl | rfl <;> first | exact trivial | exact a_32 _) hh hp (fun r0 h0 hr0 hh0 hq0 => ?_)
  refine LW.aload2 C (pc := 392) dL_law_392 ?_
  refine LW.arg C (pc := 393) (j := 1) hi hN (by decide) dL_law_393 dL_law_394 dL_law_395 dL_law_396 dL_law_397 ?_
  refine LW.call C (pc := 398) (M' := mX10_move) (F' := 6) (x := 85) (as := [aI (xs (i + 1)).toInt]) (st := [aI r0]) dL_law_398 (by decide) kX10_move ml_L_55 ob_85 rfl npX10_move (Nat.le_of_ble_eq_true rfl) (by intro v hv; simp at hv; rcases hv with rfl | rfl <;> first | exact trivial | exact a_32 _) hh0 hq0 (fun r1 h1 hr1 hh1 hq1 => ?_)
  obtain ⟨he, hI2⟩ := hq1
  refine LW.cmp C (pc := 401) (tgt := 767) dL_law_401 rfl he ?_
  exact kk h1 hI2 hh1
set_option maxRecDepth 100000 in
set_option maxHeartbeats 4000000 in
theorem lw_case_10 {p : Program} {l : Launch} {e : Env} {s : State} {m : MethodId} {below : List Frame} {meth : Method} {c : Code} {b N : Nat} {xs : Nat → Int32} {g : aG} {Inv : Nat → aH → Prop} {i n : Nat} {h : aH} (C : lw_C p s m meth c b N xs g) (hi : i + 3 ≤ N) (hN : N ≤ 1536) (hpr : a_pair Inv mX9_brings mX10_brings 4 6 2) (hn : n < 512) (hI : Inv n h) (hh : ∀ c i, inR (h c i)) (kk : ∀ h2, Inv (n + 1) h2 → (∀ c i, inR (h2 c i)) → LW p l e s m below meth c b g 767 i [] h2) : LW p l e s m below meth c b g 406 i [] h := by
  have hp := hpr n h (xs (i + 1)).toInt (xs (i + 2)).toInt hn hI hh (a_32 _) (a_32 _)
  refine LW.aload1 C (pc := 406) dL_law_406 ?_
  refine LW.arg C (pc := 407) (j := 1) hi hN (by decide) dL_law_407 dL_law_408 dL_law_409 dL_law_410 dL_law_411 ?_
  refine LW.arg C (pc := 412) (j := 2) hi hN (by decide) dL_law_412 dL_law_413 dL_law_414 dL_law_415 dL_law_416 ?_
  refine LW.call C (pc := 417) (M' := mX9_brings) (F' := 4) (x := 0) (as := [aI (xs (i + 1)).toInt, aI (xs (i + 2)).toInt]) (st := []) dL_law_417 (by decide) kX9_brings ml_L_56 ob_0 rfl npX9_brings (Nat.le_of_ble_eq_true rfl) (by intro v hv; simp at hv; rcases hv with rfl | rfl | rfl <;> first | exact trivial | exact a_32 _) hh hp (fun r0 h0 hr0 hh0 hq0 => ?_)
  refine LW.aload2 C (pc := 420) dL_law_420 ?_
  refine LW.arg C (pc := 421) (j := 1) hi hN (by decide) dL_law_421 dL_law_422 dL_law_423 dL_law_424 dL_law_425 ?_
  refine LW.arg C (pc := 426) (j := 2) hi hN (by decide) dL_law_426 dL_law_427 dL_law_428 dL_law_429 dL_law_430 ?_
  refine LW.call C (pc := 431) (M' := mX10_brings) (F' := 6) (x := 85) (as := [aI (xs (i + 1)).toInt, aI (xs (i + 2)).toInt]) (st := [aI r0]) dL_law_431 (by decide) kX10_brings ml_L_59 ob_85 rfl npX10_brings (Nat.le_of_ble_eq_true rfl) (by intro v hv; simp at hv; rcases hv with rfl | rfl | rfl <;> first | exact trivial | exact a_32 _) hh0 hq0 (fun r1 h1 hr1 hh1 hq1 => ?_)
  obtain ⟨he, hI2⟩ := hq1
  refine LW.cmp C (pc := 434) (tgt := 767) dL_law_434 rfl he ?_
  exact kk h1 hI2 hh1
set_option maxRecDepth 100000 in
set_option maxHeartbeats 4000000 in
theorem lw_case_11 {p : Program} {l : Launch} {e : Env} {s : State} {m : MethodId} {below : List Frame} {meth : Method} {c : Code} {b N : Nat} {xs : Nat → Int32} {g : aG} {Inv : Nat → aH → Prop} {i n : Nat} {h : aH} (C : lw_C p s m meth c b N xs g) (hi : i + 3 ≤ N) (hN : N ≤ 1536) (hpr : a_pair Inv mX9_does mX10_does 5 6 1) (hn : n < 512) (hI : Inv n h) (hh : ∀ c i, inR (h c i)) (kk : ∀ h2, Inv (n + 1) h2 → (∀ c i, inR (h2 c i)) → LW p l e s m below meth c b g 767 i [] h2) : LW p l e s m below meth c b g 439 i [] h := by
  have hp := hpr n h (xs (i + 1)).toInt (xs (i + 2)).toInt hn hI hh (a_32 _) (a_32 _)
  refine LW.aload1 C (pc := 439) dL_law_439 ?_
  refine LW.arg C (pc := 440) (j := 1) hi hN (by decide) dL_law_440 dL_law_441 dL_law_442 dL_law_443 dL_law_444 ?_
  refine LW.call C (pc := 445) (M' := mX9_does) (F' := 5) (x := 0) (as := [aI (xs (i + 1)).toInt]) (st := []) dL_law_445 (by decide) kX9_does ml_L_60 ob_0 rfl npX9_does (Nat.le_of_ble_eq_true rfl) (by intro v hv; simp at hv; rcases hv with rfl | rfl <;> first | exact trivial | exact a_32 _) hh hp (fun r0 h0 hr0 hh0 hq0 => ?_)
  refine LW.aload2 C (pc := 448) dL_law_448 ?_
  refine LW.arg C (pc := 449) (j := 1) hi hN (by decide) dL_law_449 dL_law_450 dL_law_451 dL_law_452 dL_law_453 ?_
  refine LW.call C (pc := 454) (M' := mX10_does) (F' := 6) (x := 85) (as := [aI (xs (i + 1)).toInt]) (st := [aI r0]) dL_law_454 (by decide) kX10_does ml_L_63 ob_85 rfl npX10_does (Nat.le_of_ble_eq_true rfl) (by intro v hv; simp at hv; rcases hv with rfl | rfl <;> first | exact trivial | exact a_32 _) hh0 hq0 (fun r1 h1 hr1 hh1 hq1 => ?_)
  obtain ⟨he, hI2⟩ := hq1
  refine LW.cmp C (pc := 457) (tgt := 767) dL_law_457 rfl he ?_
  exact kk h1 hI2 hh1
set_option maxRecDepth 100000 in
set_option maxHeartbeats 4000000 in
theorem lw_case_12 {p : Program} {l : Launch} {e : Env} {s : State} {m : MethodId} {below : List Frame} {meth : Method} {c : Code} {b N : Nat} {xs : Nat → Int32} {g : aG} {Inv : Nat → aH → Prop} {i n : Nat} {h : aH} (C : lw_C p s m meth c b N xs g) (hi : i + 3 ≤ N) (hN : N ≤ 1536) (hpr : a_pair Inv mX9_tabu mX10_tabu 1 1 1) (hn : n < 512) (hI : Inv n h) (hh : ∀ c i, inR (h c i)) (kk : ∀ h2, Inv (n + 1) h2 → (∀ c i, inR (h2 c i)) → LW p l e s m below meth c b g 767 i [] h2) : LW p l e s m below meth c b g 462 i [] h := by
  have hp := hpr n h (xs (i + 1)).toInt (xs (i + 2)).toInt hn hI hh (a_32 _) (a_32 _)
  refine LW.aload1 C (pc := 462) dL_law_462 ?_
  refine LW.arg C (pc := 463) (j := 1) hi hN (by decide) dL_law_463 dL_law_464 dL_law_465 dL_law_466 dL_law_467 ?_
  refine LW.call C (pc := 468) (M' := mX9_tabu) (F' := 1) (x := 0) (as := [aI (xs (i + 1)).toInt]) (st := []) dL_law_468 (by decide) kX9_tabu ml_L_64 ob_0 rfl npX9_tabu (Nat.le_of_ble_eq_true rfl) (by intro v hv; simp at hv; rcases hv with rfl | rfl <;> first | exact trivial | exact a_32 _) hh hp (fun r0 h0 hr0 hh0 hq0 => ?_)
  refine LW.aload2 C (pc := 471) dL_law_471 ?_
  refine LW.arg C (pc := 472) (j := 1) hi hN (by decide) dL_law_472 dL_law_473 dL_law_474 dL_law_475 dL_law_476 ?_
  refine LW.call C (pc := 477) (M' := mX10_tabu) (F' := 1) (x := 85) (as := [aI (xs (i + 1)).toInt]) (st := [aI r0]) dL_law_477 (by decide) kX10_tabu ml_L_67 ob_85 rfl npX10_tabu (Nat.le_of_ble_eq_true rfl) (by intro v hv; simp at hv; rcases hv with rfl | rfl <;> first | exact trivial | exact a_32 _) hh0 hq0 (fun r1 h1 hr1 hh1 hq1 => ?_)
  obtain ⟨he, hI2⟩ := hq1
  refine LW.cmp C (pc := 480) (tgt := 767) dL_law_480 rfl he ?_
  exact kk h1 hI2 hh1
set_option maxRecDepth 100000 in
set_option maxHeartbeats 4000000 in
theorem lw_case_13 {p : Program} {l : Launch} {e : Env} {s : State} {m : MethodId} {below : List Frame} {meth : Method} {c : Code} {b N : Nat} {xs : Nat → Int32} {g : aG} {Inv : Nat → aH → Prop} {i n : Nat} {h : aH} (C : lw_C p s m meth c b N xs g) (hi : i + 3 ≤ N) (hN : N ≤ 1536) (hpr : a_pair Inv mX9_step mX10_step 6 7 1) (hn : n < 512) (hI : Inv n h) (hh : ∀ c i, inR (h c i)) (kk : ∀ h2, Inv (n + 1) h2 → (∀ c i, inR (h2 c i)) → LW p l e s m below meth c b g 767 i [] h2) : LW p l e s m below meth c b g 485 i [] h := by
  have hp := hpr n h (xs (i + 1)).toInt (xs (i + 2)).toInt hn hI hh (a_32 _) (a_32 _)
  refine LW.aload1 C (pc := 485) dL_law_485 ?_
  refine LW.arg C (pc := 486) (j := 1) hi hN (by decide) dL_law_486 dL_law_487 dL_law_488 dL_law_489 dL_law_490 ?_
  refine LW.call C (pc := 491) (M' := mX9_step) (F' := 6) (x := 0) (as := [aI (xs (i + 1)).toInt]) (st := []) dL_law_491 (by decide) kX9_step ml_L_68 ob_0 rfl npX9_step (Nat.le_of_ble_eq_true rfl) (by intro v hv; simp at hv; rcases hv with rfl | rfl <;> first | exact trivial | exact a_32 _) hh hp (fun r0 h0 hr0 hh0 hq0 => ?_)
  refine LW.aload2 C (pc := 494) dL_law_494 ?_
  refine LW.arg C (pc := 495) (j := 1) hi hN (by decide) dL_law_495 dL_law_496 dL_law_497 dL_law_498 dL_law_499 ?_
  refine LW.call C (pc := 500) (M' := mX10_step) (F' := 7) (x := 85) (as := [aI (xs (i + 1)).toInt]) (st := [aI r0]) dL_law_500 (by decide) kX10_step ml_L_71 ob_85 rfl npX10_step (Nat.le_of_ble_eq_true rfl) (by intro v hv; simp at hv; rcases hv with rfl | rfl <;> first | exact trivial | exact a_32 _) hh0 hq0 (fun r1 h1 hr1 hh1 hq1 => ?_)
  obtain ⟨he, hI2⟩ := hq1
  refine LW.cmp C (pc := 503) (tgt := 767) dL_law_503 rfl he ?_
  exact kk h1 hI2 hh1
set_option maxRecDepth 100000 in
set_option maxHeartbeats 4000000 in
theorem lw_case_14 {p : Program} {l : Launch} {e : Env} {s : State} {m : MethodId} {below : List Frame} {meth : Method} {c : Code} {b N : Nat} {xs : Nat → Int32} {g : aG} {Inv : Nat → aH → Prop} {i n : Nat} {h : aH} (C : lw_C p s m meth c b N xs g) (hi : i + 3 ≤ N) (hN : N ≤ 1536) (hpr : a_pair Inv mX9_kept mX10_kept 0 1 1) (hn : n < 512) (hI : Inv n h) (hh : ∀ c i, inR (h c i)) (kk : ∀ h2, Inv (n + 1) h2 → (∀ c i, inR (h2 c i)) → LW p l e s m below meth c b g 767 i [] h2) : LW p l e s m below meth c b g 508 i [] h := by
  have hp := hpr n h (xs (i + 1)).toInt (xs (i + 2)).toInt hn hI hh (a_32 _) (a_32 _)
  refine LW.aload1 C (pc := 508) dL_law_508 ?_
  refine LW.arg C (pc := 509) (j := 1) hi hN (by decide) dL_law_509 dL_law_510 dL_law_511 dL_law_512 dL_law_513 ?_
  refine LW.call C (pc := 514) (M' := mX9_kept) (F' := 0) (x := 0) (as := [aI (xs (i + 1)).toInt]) (st := []) dL_law_514 (by decide) kX9_kept ml_L_72 ob_0 rfl npX9_kept (Nat.le_of_ble_eq_true rfl) (by intro v hv; simp at hv; rcases hv with rfl | rfl <;> first | exact trivial | exact a_32 _) hh hp (fun r0 h0 hr0 hh0 hq0 => ?_)
  refine LW.aload2 C (pc := 517) dL_law_517 ?_
  refine LW.arg C (pc := 518) (j := 1) hi hN (by decide) dL_law_518 dL_law_519 dL_law_520 dL_law_521 dL_law_522 ?_
  refine LW.call C (pc := 523) (M' := mX10_kept) (F' := 1) (x := 85) (as := [aI (xs (i + 1)).toInt]) (st := [aI r0]) dL_law_523 (by decide) kX10_kept ml_L_75 ob_85 rfl npX10_kept (Nat.le_of_ble_eq_true rfl) (by intro v hv; simp at hv; rcases hv with rfl | rfl <;> first | exact trivial | exact a_32 _) hh0 hq0 (fun r1 h1 hr1 hh1 hq1 => ?_)
  obtain ⟨he, hI2⟩ := hq1
  refine LW.cmp C (pc := 526) (tgt := 767) dL_law_526 rfl he ?_
  exact kk h1 hI2 hh1
set_option maxRecDepth 100000 in
set_option maxHeartbeats 4000000 in
theorem lw_case_15 {p : Program} {l : Launch} {e : Env} {s : State} {m : MethodId} {below : List Frame} {meth : Method} {c : Code} {b N : Nat} {xs : Nat → Int32} {g : aG} {Inv : Nat → aH → Prop} {i n : Nat} {h : aH} (C : lw_C p s m meth c b N xs g) (hi : i + 3 ≤ N) (hN : N ≤ 1536) (hpr : a_pair Inv mX9_best mX10_best 5 2 1) (hn : n < 512) (hI : Inv n h) (hh : ∀ c i, inR (h c i)) (kk : ∀ h2, Inv (n + 1) h2 → (∀ c i, inR (h2 c i)) → LW p l e s m below meth c b g 767 i [] h2) : LW p l e s m below meth c b g 531 i [] h := by
  have hp := hpr n h (xs (i + 1)).toInt (xs (i + 2)).toInt hn hI hh (a_32 _) (a_32 _)
  refine LW.aload1 C (pc := 531) dL_law_531 ?_
  refine LW.arg C (pc := 532) (j := 1) hi hN (by decide) dL_law_532 dL_law_533 dL_law_534 dL_law_535 dL_law_536 ?_
  refine LW.call C (pc := 537) (M' := mX9_best) (F' := 5) (x := 0) (as := [aI (xs (i + 1)).toInt]) (st := []) dL_law_537 (by decide) kX9_best ml_L_76 ob_0 rfl npX9_best (Nat.le_of_ble_eq_true rfl) (by intro v hv; simp at hv; rcases hv with rfl | rfl <;> first | exact trivial | exact a_32 _) hh hp (fun r0 h0 hr0 hh0 hq0 => ?_)
  refine LW.aload2 C (pc := 540) dL_law_540 ?_
  refine LW.arg C (pc := 541) (j := 1) hi hN (by decide) dL_law_541 dL_law_542 dL_law_543 dL_law_544 dL_law_545 ?_
  refine LW.call C (pc := 546) (M' := mX10_best) (F' := 2) (x := 85) (as := [aI (xs (i + 1)).toInt]) (st := [aI r0]) dL_law_546 (by decide) kX10_best ml_L_79 ob_85 rfl npX10_best (Nat.le_of_ble_eq_true rfl) (by intro v hv; simp at hv; rcases hv with rfl | rfl <;> first | exact trivial | exact a_32 _) hh0 hq0 (fun r1 h1 hr1 hh1 hq1 => ?_)
  obtain ⟨he, hI2⟩ := hq1
  refine LW.cmp C (pc := 549) (tgt := 767) dL_law_549 rfl he ?_
  exact kk h1 hI2 hh1
set_option maxRecDepth 100000 in
set_option maxHeartbeats 4000000 in
theorem lw_case_16 {p : Program} {l : Launch} {e : Env} {s : State} {m : MethodId} {below : List Frame} {meth : Method} {c : Code} {b N : Nat} {xs : Nat → Int32} {g : aG} {Inv : Nat → aH → Prop} {i n : Nat} {h : aH} (C : lw_C p s m meth c b N xs g) (hi : i + 3 ≤ N) (hN : N ≤ 1536) (hpr : a_pair Inv mX9_dispatch mX10_dispatch 5 4 1) (hn : n < 512) (hI : Inv n h) (hh : ∀ c i, inR (h c i)) (kk : ∀ h2, Inv (n + 1) h2 → (∀ c i, inR (h2 c i)) → LW p l e s m below meth c b g 767 i [] h2) : LW p l e s m below meth c b g 554 i [] h := by
  have hp := hpr n h (xs (i + 1)).toInt (xs (i + 2)).toInt hn hI hh (a_32 _) (a_32 _)
  refine LW.aload1 C (pc := 554) dL_law_554 ?_
  refine LW.arg C (pc := 555) (j := 1) hi hN (by decide) dL_law_555 dL_law_556 dL_law_557 dL_law_558 dL_law_559 ?_
  refine LW.call C (pc := 560) (M' := mX9_dispatch) (F' := 5) (x := 0) (as := [aI (xs (i + 1)).toInt]) (st := []) dL_law_560 (by decide) kX9_dispatch ml_L_80 ob_0 rfl npX9_dispatch (Nat.le_of_ble_eq_true rfl) (by intro v hv; simp at hv; rcases hv with rfl | rfl <;> first | exact trivial | exact a_32 _) hh hp (fun r0 h0 hr0 hh0 hq0 => ?_)
  refine LW.aload2 C (pc := 563) dL_law_563 ?_
  refine LW.arg C (pc := 564) (j := 1) hi hN (by decide) dL_law_564 dL_law_565 dL_law_566 dL_law_567 dL_law_568 ?_
  refine LW.call C (pc := 569) (M' := mX10_dispatch) (F' := 4) (x := 85) (as := [aI (xs (i + 1)).toInt]) (st := [aI r0]) dL_law_569 (by decide) kX10_dispatch ml_L_83 ob_85 rfl npX10_dispatch (Nat.le_of_ble_eq_true rfl) (by intro v hv; simp at hv; rcases hv with rfl | rfl <;> first | exact trivial | exact a_32 _) hh0 hq0 (fun r1 h1 hr1 hh1 hq1 => ?_)
  obtain ⟨he, hI2⟩ := hq1
  refine LW.cmp C (pc := 572) (tgt := 767) dL_law_572 rfl he ?_
  exact kk h1 hI2 hh1
set_option maxRecDepth 100000 in
set_option maxHeartbeats 4000000 in
theorem lw_case_17 {p : Program} {l : Launch} {e : Env} {s : State} {m : MethodId} {below : List Frame} {meth : Method} {c : Code} {b N : Nat} {xs : Nat → Int32} {g : aG} {Inv : Nat → aH → Prop} {i n : Nat} {h : aH} (C : lw_C p s m meth c b N xs g) (hi : i + 3 ≤ N) (hN : N ≤ 1536) (hpr : a_pair Inv mX9_would mX10_would 4 4 1) (hn : n < 512) (hI : Inv n h) (hh : ∀ c i, inR (h c i)) (kk : ∀ h2, Inv (n + 1) h2 → (∀ c i, inR (h2 c i)) → LW p l e s m below meth c b g 767 i [] h2) : LW p l e s m below meth c b g 577 i [] h := by
  have hp := hpr n h (xs (i + 1)).toInt (xs (i + 2)).toInt hn hI hh (a_32 _) (a_32 _)
  refine LW.aload1 C (pc := 577) dL_law_577 ?_
  refine LW.arg C (pc := 578) (j := 1) hi hN (by decide) dL_law_578 dL_law_579 dL_law_580 dL_law_581 dL_law_582 ?_
  refine LW.call C (pc := 583) (M' := mX9_would) (F' := 4) (x := 0) (as := [aI (xs (i + 1)).toInt]) (st := []) dL_law_583 (by decide) kX9_would ml_L_84 ob_0 rfl npX9_would (Nat.le_of_ble_eq_true rfl) (by intro v hv; simp at hv; rcases hv with rfl | rfl <;> first | exact trivial | exact a_32 _) hh hp (fun r0 h0 hr0 hh0 hq0 => ?_)
  refine LW.aload2 C (pc := 586) dL_law_586 ?_
  refine LW.arg C (pc := 587) (j := 1) hi hN (by decide) dL_law_587 dL_law_588 dL_law_589 dL_law_590 dL_law_591 ?_
  refine LW.call C (pc := 592) (M' := mX10_would) (F' := 4) (x := 85) (as := [aI (xs (i + 1)).toInt]) (st := [aI r0]) dL_law_592 (by decide) kX10_would ml_L_87 ob_85 rfl npX10_would (Nat.le_of_ble_eq_true rfl) (by intro v hv; simp at hv; rcases hv with rfl | rfl <;> first | exact trivial | exact a_32 _) hh0 hq0 (fun r1 h1 hr1 hh1 hq1 => ?_)
  obtain ⟨he, hI2⟩ := hq1
  refine LW.cmp C (pc := 595) (tgt := 767) dL_law_595 rfl he ?_
  exact kk h1 hI2 hh1
set_option maxRecDepth 100000 in
set_option maxHeartbeats 4000000 in
theorem lw_case_18 {p : Program} {l : Launch} {e : Env} {s : State} {m : MethodId} {below : List Frame} {meth : Method} {c : Code} {b N : Nat} {xs : Nat → Int32} {g : aG} {Inv : Nat → aH → Prop} {i n : Nat} {h : aH} (C : lw_C p s m meth c b N xs g) (hi : i + 3 ≤ N) (hN : N ≤ 1536) (hpr : a_pair Inv mX9_machine mX10_machine 4 22 2) (hn : n < 512) (hI : Inv n h) (hh : ∀ c i, inR (h c i)) (kk : ∀ h2, Inv (n + 1) h2 → (∀ c i, inR (h2 c i)) → LW p l e s m below meth c b g 767 i [] h2) : LW p l e s m below meth c b g 600 i [] h := by
  have hp := hpr n h (xs (i + 1)).toInt (xs (i + 2)).toInt hn hI hh (a_32 _) (a_32 _)
  refine LW.aload1 C (pc := 600) dL_law_600 ?_
  refine LW.arg C (pc := 601) (j := 1) hi hN (by decide) dL_law_601 dL_law_602 dL_law_603 dL_law_604 dL_law_605 ?_
  refine LW.arg C (pc := 606) (j := 2) hi hN (by decide) dL_law_606 dL_law_607 dL_law_608 dL_law_609 dL_law_610 ?_
  refine LW.call C (pc := 611) (M' := mX9_machine) (F' := 4) (x := 0) (as := [aI (xs (i + 1)).toInt, aI (xs (i + 2)).toInt]) (st := []) dL_law_611 (by decide) kX9_machine ml_L_88 ob_0 rfl npX9_machine (Nat.le_of_ble_eq_true rfl) (by intro v hv; simp at hv; rcases hv with rfl | rfl | rfl <;> first | exact trivial | exact a_32 _) hh hp (fun r0 h0 hr0 hh0 hq0 => ?_)
  refine LW.aload2 C (pc := 614) dL_law_614 ?_
  refine LW.arg C (pc := 615) (j := 1) hi hN (by decide) dL_law_615 dL_law_616 dL_law_617 dL_law_618 dL_law_619 ?_
  refine LW.arg C (pc := 620) (j := 2) hi hN (by decide) dL_law_620 dL_law_621 dL_law_622 dL_law_623 dL_law_624 ?_
  refine LW.call C (pc := 625) (M' := mX10_machine) (F' := 22) (x := 85) (as := [aI (xs (i + 1)).toInt, aI (xs (i + 2)).toInt]) (st := [aI r0]) dL_law_625 (by decide) kX10_machine ml_L_91 ob_85 rfl npX10_machine (Nat.le_of_ble_eq_true rfl) (by intro v hv; simp at hv; rcases hv with rfl | rfl | rfl <;> first | exact trivial | exact a_32 _) hh0 hq0 (fun r1 h1 hr1 hh1 hq1 => ?_)
  obtain ⟨he, hI2⟩ := hq1
  refine LW.cmp C (pc := 628) (tgt := 767) dL_law_628 rfl he ?_
  exact kk h1 hI2 hh1
set_option maxRecDepth 100000 in
set_option maxHeartbeats 4000000 in
theorem lw_case_19 {p : Program} {l : Launch} {e : Env} {s : State} {m : MethodId} {below : List Frame} {meth : Method} {c : Code} {b N : Nat} {xs : Nat → Int32} {g : aG} {Inv : Nat → aH → Prop} {i n : Nat} {h : aH} (C : lw_C p s m meth c b N xs g) (hi : i + 3 ≤ N) (hN : N ≤ 1536) (hpr : a_pair Inv mX9_bound mX10_bound 4 22 0) (hn : n < 512) (hI : Inv n h) (hh : ∀ c i, inR (h c i)) (kk : ∀ h2, Inv (n + 1) h2 → (∀ c i, inR (h2 c i)) → LW p l e s m below meth c b g 767 i [] h2) : LW p l e s m below meth c b g 633 i [] h := by
  have hp := hpr n h (xs (i + 1)).toInt (xs (i + 2)).toInt hn hI hh (a_32 _) (a_32 _)
  refine LW.aload1 C (pc := 633) dL_law_633 ?_
  refine LW.call C (pc := 634) (M' := mX9_bound) (F' := 4) (x := 0) (as := []) (st := []) dL_law_634 (by decide) kX9_bound ml_L_92 ob_0 rfl npX9_bound (Nat.le_of_ble_eq_true rfl) (by intro v hv; simp at hv; rcases hv with rfl <;> first | exact trivial | exact a_32 _) hh hp (fun r0 h0 hr0 hh0 hq0 => ?_)
  refine LW.aload2 C (pc := 637) dL_law_637 ?_
  refine LW.call C (pc := 638) (M' := mX10_bound) (F' := 22) (x := 85) (as := []) (st := [aI r0]) dL_law_638 (by decide) kX10_bound ml_L_95 ob_85 rfl npX10_bound (Nat.le_of_ble_eq_true rfl) (by intro v hv; simp at hv; rcases hv with rfl <;> first | exact trivial | exact a_32 _) hh0 hq0 (fun r1 h1 hr1 hh1 hq1 => ?_)
  obtain ⟨he, hI2⟩ := hq1
  refine LW.cmp C (pc := 641) (tgt := 767) dL_law_641 rfl he ?_
  exact kk h1 hI2 hh1
set_option maxRecDepth 100000 in
set_option maxHeartbeats 4000000 in
theorem lw_case_20 {p : Program} {l : Launch} {e : Env} {s : State} {m : MethodId} {below : List Frame} {meth : Method} {c : Code} {b N : Nat} {xs : Nat → Int32} {g : aG} {Inv : Nat → aH → Prop} {i n : Nat} {h : aH} (C : lw_C p s m meth c b N xs g) (hi : i + 3 ≤ N) (hN : N ≤ 1536) (hpr : a_pair Inv mX9_all mX10_all 5 51 1) (hn : n < 512) (hI : Inv n h) (hh : ∀ c i, inR (h c i)) (kk : ∀ h2, Inv (n + 1) h2 → (∀ c i, inR (h2 c i)) → LW p l e s m below meth c b g 767 i [] h2) : LW p l e s m below meth c b g 646 i [] h := by
  have hp := hpr n h (xs (i + 1)).toInt (xs (i + 2)).toInt hn hI hh (a_32 _) (a_32 _)
  refine LW.aload1 C (pc := 646) dL_law_646 ?_
  refine LW.arg C (pc := 647) (j := 1) hi hN (by decide) dL_law_647 dL_law_648 dL_law_649 dL_law_650 dL_law_651 ?_
  refine LW.call C (pc := 652) (M' := mX9_all) (F' := 5) (x := 0) (as := [aI (xs (i + 1)).toInt]) (st := []) dL_law_652 (by decide) kX9_all ml_L_96 ob_0 rfl npX9_all (Nat.le_of_ble_eq_true rfl) (by intro v hv; simp at hv; rcases hv with rfl | rfl <;> first | exact trivial | exact a_32 _) hh hp (fun r0 h0 hr0 hh0 hq0 => ?_)
  refine LW.aload2 C (pc := 655) dL_law_655 ?_
  refine LW.arg C (pc := 656) (j := 1) hi hN (by decide) dL_law_656 dL_law_657 dL_law_658 dL_law_659 dL_law_660 ?_
  refine LW.call C (pc := 661) (M' := mX10_all) (F' := 51) (x := 85) (as := [aI (xs (i + 1)).toInt]) (st := [aI r0]) dL_law_661 (by decide) kX10_all ml_L_99 ob_85 rfl npX10_all (Nat.le_of_ble_eq_true rfl) (by intro v hv; simp at hv; rcases hv with rfl | rfl <;> first | exact trivial | exact a_32 _) hh0 hq0 (fun r1 h1 hr1 hh1 hq1 => ?_)
  obtain ⟨he, hI2⟩ := hq1
  refine LW.cmp C (pc := 664) (tgt := 767) dL_law_664 rfl he ?_
  exact kk h1 hI2 hh1
set_option maxRecDepth 100000 in
set_option maxHeartbeats 4000000 in
theorem lw_case_21 {p : Program} {l : Launch} {e : Env} {s : State} {m : MethodId} {below : List Frame} {meth : Method} {c : Code} {b N : Nat} {xs : Nat → Int32} {g : aG} {Inv : Nat → aH → Prop} {i n : Nat} {h : aH} (C : lw_C p s m meth c b N xs g) (hi : i + 3 ≤ N) (hN : N ≤ 1536) (hpr : a_pair Inv mX9_chart mX10_chart 2 5 1) (hn : n < 512) (hI : Inv n h) (hh : ∀ c i, inR (h c i)) (kk : ∀ h2, Inv (n + 1) h2 → (∀ c i, inR (h2 c i)) → LW p l e s m below meth c b g 767 i [] h2) : LW p l e s m below meth c b g 669 i [] h := by
  have hp := hpr n h (xs (i + 1)).toInt (xs (i + 2)).toInt hn hI hh (a_32 _) (a_32 _)
  refine LW.aload1 C (pc := 669) dL_law_669 ?_
  refine LW.arg C (pc := 670) (j := 1) hi hN (by decide) dL_law_670 dL_law_671 dL_law_672 dL_law_673 dL_law_674 ?_
  refine LW.call C (pc := 675) (M' := mX9_chart) (F' := 2) (x := 0) (as := [aI (xs (i + 1)).toInt]) (st := []) dL_law_675 (by decide) kX9_chart ml_L_100 ob_0 rfl npX9_chart (Nat.le_of_ble_eq_true rfl) (by intro v hv; simp at hv; rcases hv with rfl | rfl <;> first | exact trivial | exact a_32 _) hh hp (fun r0 h0 hr0 hh0 hq0 => ?_)
  refine LW.aload2 C (pc := 678) dL_law_678 ?_
  refine LW.arg C (pc := 679) (j := 1) hi hN (by decide) dL_law_679 dL_law_680 dL_law_681 dL_law_682 dL_law_683 ?_
  refine LW.call C (pc := 684) (M' := mX10_chart) (F' := 5) (x := 85) (as := [aI (xs (i + 1)).toInt]) (st := [aI r0]) dL_law_684 (by decide) kX10_chart ml_L_103 ob_85 rfl npX10_chart (Nat.le_of_ble_eq_true rfl) (by intro v hv; simp at hv; rcases hv with rfl | rfl <;> first | exact trivial | exact a_32 _) hh0 hq0 (fun r1 h1 hr1 hh1 hq1 => ?_)
  obtain ⟨he, hI2⟩ := hq1
  refine LW.cmp C (pc := 687) (tgt := 767) dL_law_687 rfl he ?_
  exact kk h1 hI2 hh1
set_option maxRecDepth 100000 in
set_option maxHeartbeats 4000000 in
theorem lw_case_22 {p : Program} {l : Launch} {e : Env} {s : State} {m : MethodId} {below : List Frame} {meth : Method} {c : Code} {b N : Nat} {xs : Nat → Int32} {g : aG} {Inv : Nat → aH → Prop} {i n : Nat} {h : aH} (C : lw_C p s m meth c b N xs g) (hi : i + 3 ≤ N) (hN : N ≤ 1536) (hpr : a_pair Inv mX9_undo mX10_undo 4 1 0) (hn : n < 512) (hI : Inv n h) (hh : ∀ c i, inR (h c i)) (kk : ∀ h2, Inv (n + 1) h2 → (∀ c i, inR (h2 c i)) → LW p l e s m below meth c b g 767 i [] h2) : LW p l e s m below meth c b g 692 i [] h := by
  have hp := hpr n h (xs (i + 1)).toInt (xs (i + 2)).toInt hn hI hh (a_32 _) (a_32 _)
  refine LW.aload1 C (pc := 692) dL_law_692 ?_
  refine LW.call C (pc := 693) (M' := mX9_undo) (F' := 4) (x := 0) (as := []) (st := []) dL_law_693 (by decide) kX9_undo ml_L_104 ob_0 rfl npX9_undo (Nat.le_of_ble_eq_true rfl) (by intro v hv; simp at hv; rcases hv with rfl <;> first | exact trivial | exact a_32 _) hh hp (fun r0 h0 hr0 hh0 hq0 => ?_)
  refine LW.aload2 C (pc := 696) dL_law_696 ?_
  refine LW.call C (pc := 697) (M' := mX10_undo) (F' := 1) (x := 85) (as := []) (st := [aI r0]) dL_law_697 (by decide) kX10_undo ml_L_107 ob_85 rfl npX10_undo (Nat.le_of_ble_eq_true rfl) (by intro v hv; simp at hv; rcases hv with rfl <;> first | exact trivial | exact a_32 _) hh0 hq0 (fun r1 h1 hr1 hh1 hq1 => ?_)
  obtain ⟨he, hI2⟩ := hq1
  refine LW.cmp C (pc := 700) (tgt := 767) dL_law_700 rfl he ?_
  exact kk h1 hI2 hh1
set_option maxRecDepth 100000 in
set_option maxHeartbeats 4000000 in
theorem lw_case_23 {p : Program} {l : Launch} {e : Env} {s : State} {m : MethodId} {below : List Frame} {meth : Method} {c : Code} {b N : Nat} {xs : Nat → Int32} {g : aG} {Inv : Nat → aH → Prop} {i n : Nat} {h : aH} (C : lw_C p s m meth c b N xs g) (hi : i + 3 ≤ N) (hN : N ≤ 1536) (hpr : a_pair Inv mX9_redo mX10_redo 4 1 0) (hn : n < 512) (hI : Inv n h) (hh : ∀ c i, inR (h c i)) (kk : ∀ h2, Inv (n + 1) h2 → (∀ c i, inR (h2 c i)) → LW p l e s m below meth c b g 767 i [] h2) : LW p l e s m below meth c b g 705 i [] h := by
  have hp := hpr n h (xs (i + 1)).toInt (xs (i + 2)).toInt hn hI hh (a_32 _) (a_32 _)
  refine LW.aload1 C (pc := 705) dL_law_705 ?_
  refine LW.call C (pc := 706) (M' := mX9_redo) (F' := 4) (x := 0) (as := []) (st := []) dL_law_706 (by decide) kX9_redo ml_L_108 ob_0 rfl npX9_redo (Nat.le_of_ble_eq_true rfl) (by intro v hv; simp at hv; rcases hv with rfl <;> first | exact trivial | exact a_32 _) hh hp (fun r0 h0 hr0 hh0 hq0 => ?_)
  refine LW.aload2 C (pc := 709) dL_law_709 ?_
  refine LW.call C (pc := 710) (M' := mX10_redo) (F' := 1) (x := 85) (as := []) (st := [aI r0]) dL_law_710 (by decide) kX10_redo ml_L_111 ob_85 rfl npX10_redo (Nat.le_of_ble_eq_true rfl) (by intro v hv; simp at hv; rcases hv with rfl <;> first | exact trivial | exact a_32 _) hh0 hq0 (fun r1 h1 hr1 hh1 hq1 => ?_)
  obtain ⟨he, hI2⟩ := hq1
  refine LW.cmp C (pc := 713) (tgt := 767) dL_law_713 rfl he ?_
  exact kk h1 hI2 hh1
set_option maxRecDepth 100000 in
set_option maxHeartbeats 4000000 in
theorem lw_case_24 {p : Program} {l : Launch} {e : Env} {s : State} {m : MethodId} {below : List Frame} {meth : Method} {c : Code} {b N : Nat} {xs : Nat → Int32} {g : aG} {Inv : Nat → aH → Prop} {i n : Nat} {h : aH} (C : lw_C p s m meth c b N xs g) (hi : i + 3 ≤ N) (hN : N ≤ 1536) (hpr : a_pair Inv mX9_image mX10_image 3 3 0) (hn : n < 512) (hI : Inv n h) (hh : ∀ c i, inR (h c i)) (kk : ∀ h2, Inv (n + 1) h2 → (∀ c i, inR (h2 c i)) → LW p l e s m below meth c b g 767 i [] h2) : LW p l e s m below meth c b g 718 i [] h := by
  have hp := hpr n h (xs (i + 1)).toInt (xs (i + 2)).toInt hn hI hh (a_32 _) (a_32 _)
  refine LW.aload1 C (pc := 718) dL_law_718 ?_
  refine LW.call C (pc := 719) (M' := mX9_image) (F' := 3) (x := 0) (as := []) (st := []) dL_law_719 (by decide) kX9_image ml_L_112 ob_0 rfl npX9_image (Nat.le_of_ble_eq_true rfl) (by intro v hv; simp at hv; rcases hv with rfl <;> first | exact trivial | exact a_32 _) hh hp (fun r0 h0 hr0 hh0 hq0 => ?_)
  refine LW.aload2 C (pc := 722) dL_law_722 ?_
  refine LW.call C (pc := 723) (M' := mX10_image) (F' := 3) (x := 85) (as := []) (st := [aI r0]) dL_law_723 (by decide) kX10_image ml_L_115 ob_85 rfl npX10_image (Nat.le_of_ble_eq_true rfl) (by intro v hv; simp at hv; rcases hv with rfl <;> first | exact trivial | exact a_32 _) hh0 hq0 (fun r1 h1 hr1 hh1 hq1 => ?_)
  obtain ⟨he, hI2⟩ := hq1
  refine LW.cmp C (pc := 726) (tgt := 767) dL_law_726 rfl he ?_
  exact kk h1 hI2 hh1
set_option maxRecDepth 100000 in
set_option maxHeartbeats 4000000 in
theorem lw_case_25 {p : Program} {l : Launch} {e : Env} {s : State} {m : MethodId} {below : List Frame} {meth : Method} {c : Code} {b N : Nat} {xs : Nat → Int32} {g : aG} {Inv : Nat → aH → Prop} {i n : Nat} {h : aH} (C : lw_C p s m meth c b N xs g) (hi : i + 3 ≤ N) (hN : N ≤ 1536) (hpr : a_pair Inv mX9_back mX10_back 5 3 0) (hn : n < 512) (hI : Inv n h) (hh : ∀ c i, inR (h c i)) (kk : ∀ h2, Inv (n + 1) h2 → (∀ c i, inR (h2 c i)) → LW p l e s m below meth c b g 767 i [] h2) : LW p l e s m below meth c b g 731 i [] h := by
  have hp := hpr n h (xs (i + 1)).toInt (xs (i + 2)).toInt hn hI hh (a_32 _) (a_32 _)
  refine LW.aload1 C (pc := 731) dL_law_731 ?_
  refine LW.call C (pc := 732) (M' := mX9_back) (F' := 5) (x := 0) (as := []) (st := []) dL_law_732 (by decide) kX9_back ml_L_116 ob_0 rfl npX9_back (Nat.le_of_ble_eq_true rfl) (by intro v hv; simp at hv; rcases hv with rfl <;> first | exact trivial | exact a_32 _) hh hp (fun r0 h0 hr0 hh0 hq0 => ?_)
  refine LW.aload2 C (pc := 735) dL_law_735 ?_
  refine LW.call C (pc := 736) (M' := mX10_back) (F' := 3) (x := 85) (as := []) (st := [aI r0]) dL_law_736 (by decide) kX10_back ml_L_119 ob_85 rfl npX10_back (Nat.le_of_ble_eq_true rfl) (by intro v hv; simp at hv; rcases hv with rfl <;> first | exact trivial | exact a_32 _) hh0 hq0 (fun r1 h1 hr1 hh1 hq1 => ?_)
  obtain ⟨he, hI2⟩ := hq1
  refine LW.cmp C (pc := 739) (tgt := 767) dL_law_739 rfl he ?_
  exact kk h1 hI2 hh1
set_option maxRecDepth 100000 in
set_option maxHeartbeats 4000000 in
theorem lw_case_26 {p : Program} {l : Launch} {e : Env} {s : State} {m : MethodId} {below : List Frame} {meth : Method} {c : Code} {b N : Nat} {xs : Nat → Int32} {g : aG} {Inv : Nat → aH → Prop} {i n : Nat} {h : aH} (C : lw_C p s m meth c b N xs g) (hi : i + 3 ≤ N) (hN : N ≤ 1536) (hpr : a_pair Inv mX9_count mX10_count 0 0 1) (hn : n < 512) (hI : Inv n h) (hh : ∀ c i, inR (h c i)) (kk : ∀ h2, Inv (n + 1) h2 → (∀ c i, inR (h2 c i)) → LW p l e s m below meth c b g 767 i [] h2) : LW p l e s m below meth c b g 744 i [] h := by
  have hp := hpr n h (xs (i + 1)).toInt (xs (i + 2)).toInt hn hI hh (a_32 _) (a_32 _)
  refine LW.aload1 C (pc := 744) dL_law_744 ?_
  refine LW.arg C (pc := 745) (j := 1) hi hN (by decide) dL_law_745 dL_law_746 dL_law_747 dL_law_748 dL_law_749 ?_
  refine LW.call C (pc := 750) (M' := mX9_count) (F' := 0) (x := 0) (as := [aI (xs (i + 1)).toInt]) (st := []) dL_law_750 (by decide) kX9_count ml_L_120 ob_0 rfl npX9_count (Nat.le_of_ble_eq_true rfl) (by intro v hv; simp at hv; rcases hv with rfl | rfl <;> first | exact trivial | exact a_32 _) hh hp (fun r0 h0 hr0 hh0 hq0 => ?_)
  refine LW.aload2 C (pc := 753) dL_law_753 ?_
  refine LW.arg C (pc := 754) (j := 1) hi hN (by decide) dL_law_754 dL_law_755 dL_law_756 dL_law_757 dL_law_758 ?_
  refine LW.call C (pc := 759) (M' := mX10_count) (F' := 0) (x := 85) (as := [aI (xs (i + 1)).toInt]) (st := [aI r0]) dL_law_759 (by decide) kX10_count ml_L_123 ob_85 rfl npX10_count (Nat.le_of_ble_eq_true rfl) (by intro v hv; simp at hv; rcases hv with rfl | rfl <;> first | exact trivial | exact a_32 _) hh0 hq0 (fun r1 h1 hr1 hh1 hq1 => ?_)
  obtain ⟨he, hI2⟩ := hq1
  refine LW.cmp C (pc := 762) (tgt := 767) dL_law_762 rfl he ?_
  exact kk h1 hI2 hh1
set_option maxRecDepth 100000 in
set_option maxHeartbeats 4000000 in
/-- the law's loop: at its head, with i ints read (n calls), the pair in step -/
theorem lw_loop {p : Program} {l : Launch} {e : Env} {s : State} {m : MethodId} {below : List Frame} {meth : Method} {c : Code} {b N : Nat} {xs : Nat → Int32} {g : aG} {Inv : Nat → aH → Prop} (C : lw_C p s m meth c b N xs g) (hN : N ≤ 1536) (hpr : law_pairs Inv) (hmono : ∀ n h, Inv n h → Inv (n + 1) h) :
    ∀ (d n : Nat) (h : aH), 3 * n ≤ N + 2 → N + 3 ≤ 3 * (n + d) → Inv n h → (∀ c i, inR (h c i)) → LW p l e s m below meth c b g 18 (3 * n) [] h := by
  intro d
  induction d with
  | zero =>
    intro n h h1 h2
    omega
  | succ d ih =>
    intro n h h1 h2 hI hh
    refine LW.head C (pc := 18) (tgt := 773) hN (by omega) dL_law_18 dL_law_19 dL_law_20 dL_law_21 dL_law_22 dL_law_23 rfl (fun hx => ?_) (fun hx => ?_)
    · refine LW.one C (pc := 773) dL_law_773 dL_law_774
    · have kk : ∀ h2, Inv (n + 1) h2 → (∀ c i, inR (h2 c i)) → LW p l e s m below meth c b g 767 (3 * n) [] h2 := by
        intro h2 hI2 hh2
        refine LW.next C (pc := 767) (tgt := 18) (by omega) dL_law_767 dL_law_770 rfl ?_
        have e3 : 3 * n + 3 = 3 * (n + 1) := by omega
        rw [e3]
        exact ih (n + 1) h2 (by omega) (by omega) hI2 hh2
      refine LW.sel C (pc := 26) hN (by omega) dL_law_26 dL_law_27 dL_law_28 dL_law_29 dL_law_31 dL_law_32 (fun z hz1 hz2 => ?_) ⟨767, rfl, kk h (hmono n h hI) hh⟩
      have hz : z = 0 ∨ z = 1 ∨ z = 2 ∨ z = 3 ∨ z = 4 ∨ z = 5 ∨ z = 6 ∨ z = 7 ∨ z = 8 ∨ z = 9 ∨ z = 10 ∨ z = 11 ∨ z = 12 ∨ z = 13 ∨ z = 14 ∨ z = 15 ∨ z = 16 ∨ z = 17 ∨ z = 18 ∨ z = 19 ∨ z = 20 ∨ z = 21 ∨ z = 22 ∨ z = 23 ∨ z = 24 ∨ z = 25 ∨ z = 26 := by omega
      obtain ⟨p0, p1, p2, p3, p4, p5, p6, p7, p8, p9, p10, p11, p12, p13, p14, p15, p16, p17, p18, p19, p20, p21, p22, p23, p24, p25, p26⟩ := hpr
      rcases hz with rfl | rfl | rfl | rfl | rfl | rfl | rfl | rfl | rfl | rfl | rfl | rfl | rfl | rfl | rfl | rfl | rfl | rfl | rfl | rfl | rfl | rfl | rfl | rfl | rfl | rfl | rfl
      · exact ⟨156, _, rfl, rfl, lw_case_0 C (by omega) hN p0 (by omega) hI hh kk⟩
      · exact ⟨179, _, rfl, rfl, lw_case_1 C (by omega) hN p1 (by omega) hI hh kk⟩
      · exact ⟨192, _, rfl, rfl, lw_case_2 C (by omega) hN p2 (by omega) hI hh kk⟩
      · exact ⟨225, _, rfl, rfl, lw_case_3 C (by omega) hN p3 (by omega) hI hh kk⟩
      · exact ⟨258, _, rfl, rfl, lw_case_4 C (by omega) hN p4 (by omega) hI hh kk⟩
      · exact ⟨291, _, rfl, rfl, lw_case_5 C (by omega) hN p5 (by omega) hI hh kk⟩
      · exact ⟨304, _, rfl, rfl, lw_case_6 C (by omega) hN p6 (by omega) hI hh kk⟩
      · exact ⟨337, _, rfl, rfl, lw_case_7 C (by omega) hN p7 (by omega) hI hh kk⟩
      · exact ⟨360, _, rfl, rfl, lw_case_8 C (by omega) hN p8 (by omega) hI hh kk⟩
      · exact ⟨383, _, rfl, rfl, lw_case_9 C (by omega) hN p9 (by omega) hI hh kk⟩
      · exact ⟨406, _, rfl, rfl, lw_case_10 C (by omega) hN p10 (by omega) hI hh kk⟩
      · exact ⟨439, _, rfl, rfl, lw_case_11 C (by omega) hN p11 (by omega) hI hh kk⟩
      · exact ⟨462, _, rfl, rfl, lw_case_12 C (by omega) hN p12 (by omega) hI hh kk⟩
      · exact ⟨485, _, rfl, rfl, lw_case_13 C (by omega) hN p13 (by omega) hI hh kk⟩
      · exact ⟨508, _, rfl, rfl, lw_case_14 C (by omega) hN p14 (by omega) hI hh kk⟩
      · exact ⟨531, _, rfl, rfl, lw_case_15 C (by omega) hN p15 (by omega) hI hh kk⟩
      · exact ⟨554, _, rfl, rfl, lw_case_16 C (by omega) hN p16 (by omega) hI hh kk⟩
      · exact ⟨577, _, rfl, rfl, lw_case_17 C (by omega) hN p17 (by omega) hI hh kk⟩
      · exact ⟨600, _, rfl, rfl, lw_case_18 C (by omega) hN p18 (by omega) hI hh kk⟩
      · exact ⟨633, _, rfl, rfl, lw_case_19 C (by omega) hN p19 (by omega) hI hh kk⟩
      · exact ⟨646, _, rfl, rfl, lw_case_20 C (by omega) hN p20 (by omega) hI hh kk⟩
      · exact ⟨669, _, rfl, rfl, lw_case_21 C (by omega) hN p21 (by omega) hI hh kk⟩
      · exact ⟨692, _, rfl, rfl, lw_case_22 C (by omega) hN p22 (by omega) hI hh kk⟩
      · exact ⟨705, _, rfl, rfl, lw_case_23 C (by omega) hN p23 (by omega) hI hh kk⟩
      · exact ⟨718, _, rfl, rfl, lw_case_24 C (by omega) hN p24 (by omega) hI hh kk⟩
      · exact ⟨731, _, rfl, rfl, lw_case_25 C (by omega) hN p25 (by omega) hI hh kk⟩
      · exact ⟨744, _, rfl, rfl, lw_case_26 C (by omega) hN p26 (by omega) hI hh kk⟩
