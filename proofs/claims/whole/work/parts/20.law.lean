/-! ===== the law: what is asked of each pair of calls, and that it is enough ===== -/
def P_sheet (I : St → Prop) : Prop := ∀ T, I T → ∀ (p0 : Int32) (p1 : Int32) (p2 : Int32), ok_x_sheet T p0 p1 p2 ∧ ok_m_sheet (x_x_sheet T p0 p1 p2).2 p0 p1 p2 ∧ (x_x_sheet T p0 p1 p2).1 = (x_m_sheet (x_x_sheet T p0 p1 p2).2 p0 p1 p2).1 ∧ I ((x_m_sheet (x_x_sheet T p0 p1 p2).2 p0 p1 p2).2)
theorem e_sheet {X : Nat × (Nat → Int32)} {I : St → Prop} {T : St} {i : Int32} (hp : P_sheet I) (hI : I T) (h1 : vp_in (i + 1) X.1) (h2 : vp_in (i + 2) X.1) (h3 : vp_in (i + 3) X.1) : ∃ T3, I T3 ∧ ∀ (v : Option Value) (T2 : St), tR X 60 mx_law 1209 [some (.ref (mx_B + 100)), some (.ref (0 : Nat)), some (.ref (571 : Nat)), some (.int i)] [] T3 v T2 → tR X 60 mx_law 180 [some (.ref (mx_B + 100)), some (.ref (0 : Nat)), some (.ref (571 : Nat)), some (.int i)] [] T v T2 := by
  obtain ⟨q1, q2, e, hI2⟩ := hp T hI (X.2 (i + 1).toNatClampNeg) (X.2 (i + 2).toNatClampNeg) (X.2 (i + 3).toNatClampNeg)
  refine ⟨_, hI2, fun v T2 k => ?_⟩
  refine r_p (pc2 := 181) dL_law_180 rfl rfl ?_
  refine r_p (pc2 := 182) dL_law_181 rfl rfl ?_
  refine r_p (pc2 := 183) dL_law_182 rfl rfl ?_
  refine r_ci (x := 1) dL_law_183 rfl ?_
  refine r_p (pc2 := 185) dL_law_184 rfl rfl ?_
  refine r_xa dL_law_185 h1 ?_
  refine r_p (pc2 := 187) dL_law_186 rfl rfl ?_
  refine r_p (pc2 := 188) dL_law_187 rfl rfl ?_
  refine r_ci (x := 2) dL_law_188 rfl ?_
  refine r_p (pc2 := 190) dL_law_189 rfl rfl ?_
  refine r_xa dL_law_190 h2 ?_
  refine r_p (pc2 := 192) dL_law_191 rfl rfl ?_
  refine r_p (pc2 := 193) dL_law_192 rfl rfl ?_
  refine r_ci (x := 3) dL_law_193 rfl ?_
  refine r_p (pc2 := 195) dL_law_194 rfl rfl ?_
  refine r_xa dL_law_195 h3 ?_
  refine r_cv (d1 := 3) dL_law_196 cvL_13 rfl rfl (show sh 0 = .inr 11 from rfl) rfl (Nat.le_of_ble_eq_true rfl) (Nat.le_of_ble_eq_true rfl) (Nat.le_of_ble_eq_true rfl) (c_x_sheet (X.2 (i + 1).toNatClampNeg) (X.2 (i + 2).toNatClampNeg) (X.2 (i + 3).toNatClampNeg) q1) ?_
  refine r_p (pc2 := 200) dL_law_199 rfl rfl ?_
  refine r_p (pc2 := 201) dL_law_200 rfl rfl ?_
  refine r_p (pc2 := 202) dL_law_201 rfl rfl ?_
  refine r_ci (x := 1) dL_law_202 rfl ?_
  refine r_p (pc2 := 204) dL_law_203 rfl rfl ?_
  refine r_xa dL_law_204 h1 ?_
  refine r_p (pc2 := 206) dL_law_205 rfl rfl ?_
  refine r_p (pc2 := 207) dL_law_206 rfl rfl ?_
  refine r_ci (x := 2) dL_law_207 rfl ?_
  refine r_p (pc2 := 209) dL_law_208 rfl rfl ?_
  refine r_xa dL_law_209 h2 ?_
  refine r_p (pc2 := 211) dL_law_210 rfl rfl ?_
  refine r_p (pc2 := 212) dL_law_211 rfl rfl ?_
  refine r_ci (x := 3) dL_law_212 rfl ?_
  refine r_p (pc2 := 214) dL_law_213 rfl rfl ?_
  refine r_xa dL_law_214 h3 ?_
  refine r_cv (d1 := 3) dL_law_215 cvL_17 rfl rfl (show sh 571 = .inr 12 from rfl) rfl (Nat.le_of_ble_eq_true rfl) (Nat.le_of_ble_eq_true rfl) (Nat.le_of_ble_eq_true rfl) (c_m_sheet (X.2 (i + 1).toNatClampNeg) (X.2 (i + 2).toNatClampNeg) (X.2 (i + 3).toNatClampNeg) q2) ?_
  refine r_ceq dL_law_218 rfl (fun _ => ?_) (fun c => absurd e c)
  exact k
def P_set (I : St → Prop) : Prop := ∀ T, I T → ∀ (p0 : Int32) (p1 : Int32) (p2 : Int32), ok_x_set T p0 p1 p2 ∧ ok_m_set (x_x_set T p0 p1 p2).2 p0 p1 p2 ∧ (x_x_set T p0 p1 p2).1 = (x_m_set (x_x_set T p0 p1 p2).2 p0 p1 p2).1 ∧ I ((x_m_set (x_x_set T p0 p1 p2).2 p0 p1 p2).2)
theorem e_set {X : Nat × (Nat → Int32)} {I : St → Prop} {T : St} {i : Int32} (hp : P_set I) (hI : I T) (h1 : vp_in (i + 1) X.1) (h2 : vp_in (i + 2) X.1) (h3 : vp_in (i + 3) X.1) : ∃ T3, I T3 ∧ ∀ (v : Option Value) (T2 : St), tR X 60 mx_law 1209 [some (.ref (mx_B + 100)), some (.ref (0 : Nat)), some (.ref (571 : Nat)), some (.int i)] [] T3 v T2 → tR X 60 mx_law 223 [some (.ref (mx_B + 100)), some (.ref (0 : Nat)), some (.ref (571 : Nat)), some (.int i)] [] T v T2 := by
  obtain ⟨q1, q2, e, hI2⟩ := hp T hI (X.2 (i + 1).toNatClampNeg) (X.2 (i + 2).toNatClampNeg) (X.2 (i + 3).toNatClampNeg)
  refine ⟨_, hI2, fun v T2 k => ?_⟩
  refine r_p (pc2 := 224) dL_law_223 rfl rfl ?_
  refine r_p (pc2 := 225) dL_law_224 rfl rfl ?_
  refine r_p (pc2 := 226) dL_law_225 rfl rfl ?_
  refine r_ci (x := 1) dL_law_226 rfl ?_
  refine r_p (pc2 := 228) dL_law_227 rfl rfl ?_
  refine r_xa dL_law_228 h1 ?_
  refine r_p (pc2 := 230) dL_law_229 rfl rfl ?_
  refine r_p (pc2 := 231) dL_law_230 rfl rfl ?_
  refine r_ci (x := 2) dL_law_231 rfl ?_
  refine r_p (pc2 := 233) dL_law_232 rfl rfl ?_
  refine r_xa dL_law_233 h2 ?_
  refine r_p (pc2 := 235) dL_law_234 rfl rfl ?_
  refine r_p (pc2 := 236) dL_law_235 rfl rfl ?_
  refine r_ci (x := 3) dL_law_236 rfl ?_
  refine r_p (pc2 := 238) dL_law_237 rfl rfl ?_
  refine r_xa dL_law_238 h3 ?_
  refine r_cv (d1 := 2) dL_law_239 cvL_18 rfl rfl (show sh 0 = .inr 11 from rfl) rfl (Nat.le_of_ble_eq_true rfl) (Nat.le_of_ble_eq_true rfl) (Nat.le_of_ble_eq_true rfl) (c_x_set (X.2 (i + 1).toNatClampNeg) (X.2 (i + 2).toNatClampNeg) (X.2 (i + 3).toNatClampNeg) q1) ?_
  refine r_p (pc2 := 243) dL_law_242 rfl rfl ?_
  refine r_p (pc2 := 244) dL_law_243 rfl rfl ?_
  refine r_p (pc2 := 245) dL_law_244 rfl rfl ?_
  refine r_ci (x := 1) dL_law_245 rfl ?_
  refine r_p (pc2 := 247) dL_law_246 rfl rfl ?_
  refine r_xa dL_law_247 h1 ?_
  refine r_p (pc2 := 249) dL_law_248 rfl rfl ?_
  refine r_p (pc2 := 250) dL_law_249 rfl rfl ?_
  refine r_ci (x := 2) dL_law_250 rfl ?_
  refine r_p (pc2 := 252) dL_law_251 rfl rfl ?_
  refine r_xa dL_law_252 h2 ?_
  refine r_p (pc2 := 254) dL_law_253 rfl rfl ?_
  refine r_p (pc2 := 255) dL_law_254 rfl rfl ?_
  refine r_ci (x := 3) dL_law_255 rfl ?_
  refine r_p (pc2 := 257) dL_law_256 rfl rfl ?_
  refine r_xa dL_law_257 h3 ?_
  refine r_cv (d1 := 3) dL_law_258 cvL_21 rfl rfl (show sh 571 = .inr 12 from rfl) rfl (Nat.le_of_ble_eq_true rfl) (Nat.le_of_ble_eq_true rfl) (Nat.le_of_ble_eq_true rfl) (c_m_set (X.2 (i + 1).toNatClampNeg) (X.2 (i + 2).toNatClampNeg) (X.2 (i + 3).toNatClampNeg) q2) ?_
  refine r_ceq dL_law_261 rfl (fun _ => ?_) (fun c => absurd e c)
  exact k
def P_copy (I : St → Prop) : Prop := ∀ T, I T → ∀ (p0 : Int32) (p1 : Int32) (p2 : Int32) (p3 : Int32) (p4 : Int32), ok_x_copy T p0 p1 p2 p3 p4 ∧ ok_m_copy (x_x_copy T p0 p1 p2 p3 p4).2 p0 p1 p2 p3 p4 ∧ (x_x_copy T p0 p1 p2 p3 p4).1 = (x_m_copy (x_x_copy T p0 p1 p2 p3 p4).2 p0 p1 p2 p3 p4).1 ∧ I ((x_m_copy (x_x_copy T p0 p1 p2 p3 p4).2 p0 p1 p2 p3 p4).2)
theorem e_copy {X : Nat × (Nat → Int32)} {I : St → Prop} {T : St} {i : Int32} (hp : P_copy I) (hI : I T) (h1 : vp_in (i + 1) X.1) (h2 : vp_in (i + 2) X.1) (h3 : vp_in (i + 3) X.1) (h4 : vp_in (i + 4) X.1) (h5 : vp_in (i + 5) X.1) : ∃ T3, I T3 ∧ ∀ (v : Option Value) (T2 : St), tR X 60 mx_law 1209 [some (.ref (mx_B + 100)), some (.ref (0 : Nat)), some (.ref (571 : Nat)), some (.int i)] [] T3 v T2 → tR X 60 mx_law 266 [some (.ref (mx_B + 100)), some (.ref (0 : Nat)), some (.ref (571 : Nat)), some (.int i)] [] T v T2 := by
  obtain ⟨q1, q2, e, hI2⟩ := hp T hI (X.2 (i + 1).toNatClampNeg) (X.2 (i + 2).toNatClampNeg) (X.2 (i + 3).toNatClampNeg) (X.2 (i + 4).toNatClampNeg) (X.2 (i + 5).toNatClampNeg)
  refine ⟨_, hI2, fun v T2 k => ?_⟩
  refine r_p (pc2 := 267) dL_law_266 rfl rfl ?_
  refine r_p (pc2 := 268) dL_law_267 rfl rfl ?_
  refine r_p (pc2 := 269) dL_law_268 rfl rfl ?_
  refine r_ci (x := 1) dL_law_269 rfl ?_
  refine r_p (pc2 := 271) dL_law_270 rfl rfl ?_
  refine r_xa dL_law_271 h1 ?_
  refine r_p (pc2 := 273) dL_law_272 rfl rfl ?_
  refine r_p (pc2 := 274) dL_law_273 rfl rfl ?_
  refine r_ci (x := 2) dL_law_274 rfl ?_
  refine r_p (pc2 := 276) dL_law_275 rfl rfl ?_
  refine r_xa dL_law_276 h2 ?_
  refine r_p (pc2 := 278) dL_law_277 rfl rfl ?_
  refine r_p (pc2 := 279) dL_law_278 rfl rfl ?_
  refine r_ci (x := 3) dL_law_279 rfl ?_
  refine r_p (pc2 := 281) dL_law_280 rfl rfl ?_
  refine r_xa dL_law_281 h3 ?_
  refine r_p (pc2 := 283) dL_law_282 rfl rfl ?_
  refine r_p (pc2 := 284) dL_law_283 rfl rfl ?_
  refine r_ci (x := 4) dL_law_284 rfl ?_
  refine r_p (pc2 := 286) dL_law_285 rfl rfl ?_
  refine r_xa dL_law_286 h4 ?_
  refine r_p (pc2 := 288) dL_law_287 rfl rfl ?_
  refine r_p (pc2 := 289) dL_law_288 rfl rfl ?_
  refine r_ci (x := 5) dL_law_289 rfl ?_
  refine r_p (pc2 := 291) dL_law_290 rfl rfl ?_
  refine r_xa dL_law_291 h5 ?_
  refine r_cv (d1 := 2) dL_law_292 cvL_22 rfl rfl (show sh 0 = .inr 11 from rfl) rfl (Nat.le_of_ble_eq_true rfl) (Nat.le_of_ble_eq_true rfl) (Nat.le_of_ble_eq_true rfl) (c_x_copy (X.2 (i + 1).toNatClampNeg) (X.2 (i + 2).toNatClampNeg) (X.2 (i + 3).toNatClampNeg) (X.2 (i + 4).toNatClampNeg) (X.2 (i + 5).toNatClampNeg) q1) ?_
  refine r_p (pc2 := 296) dL_law_295 rfl rfl ?_
  refine r_p (pc2 := 297) dL_law_296 rfl rfl ?_
  refine r_p (pc2 := 298) dL_law_297 rfl rfl ?_
  refine r_ci (x := 1) dL_law_298 rfl ?_
  refine r_p (pc2 := 300) dL_law_299 rfl rfl ?_
  refine r_xa dL_law_300 h1 ?_
  refine r_p (pc2 := 302) dL_law_301 rfl rfl ?_
  refine r_p (pc2 := 303) dL_law_302 rfl rfl ?_
  refine r_ci (x := 2) dL_law_303 rfl ?_
  refine r_p (pc2 := 305) dL_law_304 rfl rfl ?_
  refine r_xa dL_law_305 h2 ?_
  refine r_p (pc2 := 307) dL_law_306 rfl rfl ?_
  refine r_p (pc2 := 308) dL_law_307 rfl rfl ?_
  refine r_ci (x := 3) dL_law_308 rfl ?_
  refine r_p (pc2 := 310) dL_law_309 rfl rfl ?_
  refine r_xa dL_law_310 h3 ?_
  refine r_p (pc2 := 312) dL_law_311 rfl rfl ?_
  refine r_p (pc2 := 313) dL_law_312 rfl rfl ?_
  refine r_ci (x := 4) dL_law_313 rfl ?_
  refine r_p (pc2 := 315) dL_law_314 rfl rfl ?_
  refine r_xa dL_law_315 h4 ?_
  refine r_p (pc2 := 317) dL_law_316 rfl rfl ?_
  refine r_p (pc2 := 318) dL_law_317 rfl rfl ?_
  refine r_ci (x := 5) dL_law_318 rfl ?_
  refine r_p (pc2 := 320) dL_law_319 rfl rfl ?_
  refine r_xa dL_law_320 h5 ?_
  refine r_cv (d1 := 3) dL_law_321 cvL_26 rfl rfl (show sh 571 = .inr 12 from rfl) rfl (Nat.le_of_ble_eq_true rfl) (Nat.le_of_ble_eq_true rfl) (Nat.le_of_ble_eq_true rfl) (c_m_copy (X.2 (i + 1).toNatClampNeg) (X.2 (i + 2).toNatClampNeg) (X.2 (i + 3).toNatClampNeg) (X.2 (i + 4).toNatClampNeg) (X.2 (i + 5).toNatClampNeg) q2) ?_
  refine r_ceq dL_law_324 rfl (fun _ => ?_) (fun c => absurd e c)
  exact k
def P_drop (I : St → Prop) : Prop := ∀ T, I T → ∀ (p0 : Int32), ok_x_drop T p0 ∧ ok_m_drop (x_x_drop T p0).2 p0 ∧ (x_x_drop T p0).1 = (x_m_drop (x_x_drop T p0).2 p0).1 ∧ I ((x_m_drop (x_x_drop T p0).2 p0).2)
theorem e_drop {X : Nat × (Nat → Int32)} {I : St → Prop} {T : St} {i : Int32} (hp : P_drop I) (hI : I T) (h1 : vp_in (i + 1) X.1) : ∃ T3, I T3 ∧ ∀ (v : Option Value) (T2 : St), tR X 60 mx_law 1209 [some (.ref (mx_B + 100)), some (.ref (0 : Nat)), some (.ref (571 : Nat)), some (.int i)] [] T3 v T2 → tR X 60 mx_law 329 [some (.ref (mx_B + 100)), some (.ref (0 : Nat)), some (.ref (571 : Nat)), some (.int i)] [] T v T2 := by
  obtain ⟨q1, q2, e, hI2⟩ := hp T hI (X.2 (i + 1).toNatClampNeg)
  refine ⟨_, hI2, fun v T2 k => ?_⟩
  refine r_p (pc2 := 330) dL_law_329 rfl rfl ?_
  refine r_p (pc2 := 331) dL_law_330 rfl rfl ?_
  refine r_p (pc2 := 332) dL_law_331 rfl rfl ?_
  refine r_ci (x := 1) dL_law_332 rfl ?_
  refine r_p (pc2 := 334) dL_law_333 rfl rfl ?_
  refine r_xa dL_law_334 h1 ?_
  refine r_cv (d1 := 2) dL_law_335 cvL_27 rfl rfl (show sh 0 = .inr 11 from rfl) rfl (Nat.le_of_ble_eq_true rfl) (Nat.le_of_ble_eq_true rfl) (Nat.le_of_ble_eq_true rfl) (c_x_drop (X.2 (i + 1).toNatClampNeg) q1) ?_
  refine r_p (pc2 := 339) dL_law_338 rfl rfl ?_
  refine r_p (pc2 := 340) dL_law_339 rfl rfl ?_
  refine r_p (pc2 := 341) dL_law_340 rfl rfl ?_
  refine r_ci (x := 1) dL_law_341 rfl ?_
  refine r_p (pc2 := 343) dL_law_342 rfl rfl ?_
  refine r_xa dL_law_343 h1 ?_
  refine r_cv (d1 := 3) dL_law_344 cvL_31 rfl rfl (show sh 571 = .inr 12 from rfl) rfl (Nat.le_of_ble_eq_true rfl) (Nat.le_of_ble_eq_true rfl) (Nat.le_of_ble_eq_true rfl) (c_m_drop (X.2 (i + 1).toNatClampNeg) q2) ?_
  refine r_ceq dL_law_347 rfl (fun _ => ?_) (fun c => absurd e c)
  exact k
def P_feed (I : St → Prop) : Prop := ∀ T, I T → ∀ (p0 : Int64) (p1 : Int32), ok_x_feed T p0 p1 ∧ ok_m_feed (x_x_feed T p0 p1).2 p0 p1 ∧ (x_x_feed T p0 p1).1 = (x_m_feed (x_x_feed T p0 p1).2 p0 p1).1 ∧ I ((x_m_feed (x_x_feed T p0 p1).2 p0 p1).2)
theorem e_feed {X : Nat × (Nat → Int32)} {I : St → Prop} {T : St} {i : Int32} (hp : P_feed I) (hI : I T) (h1 : vp_in (i + 1) X.1) (h2 : vp_in (i + 2) X.1) (h3 : vp_in (i + 3) X.1) : ∃ T3, I T3 ∧ ∀ (v : Option Value) (T2 : St), tR X 60 mx_law 1209 [some (.ref (mx_B + 100)), some (.ref (0 : Nat)), some (.ref (571 : Nat)), some (.int i)] [] T3 v T2 → tR X 60 mx_law 352 [some (.ref (mx_B + 100)), some (.ref (0 : Nat)), some (.ref (571 : Nat)), some (.int i)] [] T v T2 := by
  obtain ⟨q1, q2, e, hI2⟩ := hp T hI ((((X.2 (i + 1).toNatClampNeg).toInt64) <<< ((32 : Int32).toInt64 &&& 63)) ||| (((X.2 (i + 2).toNatClampNeg).toInt64) &&& (4294967295))) (X.2 (i + 3).toNatClampNeg)
  refine ⟨_, hI2, fun v T2 k => ?_⟩
  refine r_p (pc2 := 353) dL_law_352 rfl rfl ?_
  refine r_p (pc2 := 354) dL_law_353 rfl rfl ?_
  refine r_p (pc2 := 355) dL_law_354 rfl rfl ?_
  refine r_ci (x := 1) dL_law_355 rfl ?_
  refine r_p (pc2 := 357) dL_law_356 rfl rfl ?_
  refine r_xa dL_law_357 h1 ?_
  refine r_p (pc2 := 359) dL_law_358 rfl rfl ?_
  refine r_cb (x := 32) dL_law_359 rfl ?_
  refine r_p (pc2 := 362) dL_law_361 rfl rfl ?_
  refine r_p (pc2 := 363) dL_law_362 rfl rfl ?_
  refine r_p (pc2 := 364) dL_law_363 rfl rfl ?_
  refine r_ci (x := 2) dL_law_364 rfl ?_
  refine r_p (pc2 := 366) dL_law_365 rfl rfl ?_
  refine r_xa dL_law_366 h2 ?_
  refine r_p (pc2 := 368) dL_law_367 rfl rfl ?_
  refine r_kl dL_law_368 klL_32 ?_
  refine r_p (pc2 := 372) dL_law_371 rfl rfl ?_
  refine r_p (pc2 := 373) dL_law_372 rfl rfl ?_
  refine r_p (pc2 := 374) dL_law_373 rfl rfl ?_
  refine r_p (pc2 := 375) dL_law_374 rfl rfl ?_
  refine r_ci (x := 3) dL_law_375 rfl ?_
  refine r_p (pc2 := 377) dL_law_376 rfl rfl ?_
  refine r_xa dL_law_377 h3 ?_
  refine r_cv (d1 := 2) dL_law_378 cvL_34 rfl rfl (show sh 0 = .inr 11 from rfl) rfl (Nat.le_of_ble_eq_true rfl) (Nat.le_of_ble_eq_true rfl) (Nat.le_of_ble_eq_true rfl) (c_x_feed ((((X.2 (i + 1).toNatClampNeg).toInt64) <<< ((32 : Int32).toInt64 &&& 63)) ||| (((X.2 (i + 2).toNatClampNeg).toInt64) &&& (4294967295))) (X.2 (i + 3).toNatClampNeg) q1) ?_
  refine r_p (pc2 := 382) dL_law_381 rfl rfl ?_
  refine r_p (pc2 := 383) dL_law_382 rfl rfl ?_
  refine r_p (pc2 := 384) dL_law_383 rfl rfl ?_
  refine r_ci (x := 1) dL_law_384 rfl ?_
  refine r_p (pc2 := 386) dL_law_385 rfl rfl ?_
  refine r_xa dL_law_386 h1 ?_
  refine r_p (pc2 := 388) dL_law_387 rfl rfl ?_
  refine r_cb (x := 32) dL_law_388 rfl ?_
  refine r_p (pc2 := 391) dL_law_390 rfl rfl ?_
  refine r_p (pc2 := 392) dL_law_391 rfl rfl ?_
  refine r_p (pc2 := 393) dL_law_392 rfl rfl ?_
  refine r_ci (x := 2) dL_law_393 rfl ?_
  refine r_p (pc2 := 395) dL_law_394 rfl rfl ?_
  refine r_xa dL_law_395 h2 ?_
  refine r_p (pc2 := 397) dL_law_396 rfl rfl ?_
  refine r_kl dL_law_397 klL_32 ?_
  refine r_p (pc2 := 401) dL_law_400 rfl rfl ?_
  refine r_p (pc2 := 402) dL_law_401 rfl rfl ?_
  refine r_p (pc2 := 403) dL_law_402 rfl rfl ?_
  refine r_p (pc2 := 404) dL_law_403 rfl rfl ?_
  refine r_ci (x := 3) dL_law_404 rfl ?_
  refine r_p (pc2 := 406) dL_law_405 rfl rfl ?_
  refine r_xa dL_law_406 h3 ?_
  refine r_cv (d1 := 2) dL_law_407 cvL_38 rfl rfl (show sh 571 = .inr 12 from rfl) rfl (Nat.le_of_ble_eq_true rfl) (Nat.le_of_ble_eq_true rfl) (Nat.le_of_ble_eq_true rfl) (c_m_feed ((((X.2 (i + 1).toNatClampNeg).toInt64) <<< ((32 : Int32).toInt64 &&& 63)) ||| (((X.2 (i + 2).toNatClampNeg).toInt64) &&& (4294967295))) (X.2 (i + 3).toNatClampNeg) q2) ?_
  refine r_ceq dL_law_410 rfl (fun _ => ?_) (fun c => absurd e c)
  exact k
def P_book (I : St → Prop) : Prop := ∀ T, I T → ok_x_book T ∧ ok_m_book (x_x_book T).2 ∧ (x_x_book T).1 = (x_m_book (x_x_book T).2).1 ∧ I ((x_m_book (x_x_book T).2).2)
theorem e_book {X : Nat × (Nat → Int32)} {I : St → Prop} {T : St} {i : Int32} (hp : P_book I) (hI : I T)  : ∃ T3, I T3 ∧ ∀ (v : Option Value) (T2 : St), tR X 60 mx_law 1209 [some (.ref (mx_B + 100)), some (.ref (0 : Nat)), some (.ref (571 : Nat)), some (.int i)] [] T3 v T2 → tR X 60 mx_law 415 [some (.ref (mx_B + 100)), some (.ref (0 : Nat)), some (.ref (571 : Nat)), some (.int i)] [] T v T2 := by
  obtain ⟨q1, q2, e, hI2⟩ := hp T hI 
  refine ⟨_, hI2, fun v T2 k => ?_⟩
  refine r_p (pc2 := 416) dL_law_415 rfl rfl ?_
  refine r_cv (d1 := 10) dL_law_416 cvL_39 rfl rfl (show sh 0 = .inr 11 from rfl) rfl (Nat.le_of_ble_eq_true rfl) (Nat.le_of_ble_eq_true rfl) (Nat.le_of_ble_eq_true rfl) (c_x_book  q1) ?_
  refine r_p (pc2 := 420) dL_law_419 rfl rfl ?_
  refine r_cv (d1 := 7) dL_law_420 cvL_43 rfl rfl (show sh 571 = .inr 12 from rfl) rfl (Nat.le_of_ble_eq_true rfl) (Nat.le_of_ble_eq_true rfl) (Nat.le_of_ble_eq_true rfl) (c_m_book  q2) ?_
  refine r_ceq dL_law_423 rfl (fun _ => ?_) (fun c => absurd e c)
  exact k
def P_fault (I : St → Prop) : Prop := ∀ T, I T → (x_x_fault T) = (x_m_fault T).1 ∧ I ((x_m_fault T).2)
theorem e_fault {X : Nat × (Nat → Int32)} {I : St → Prop} {T : St} {i : Int32} (hp : P_fault I) (hI : I T)  : ∃ T3, I T3 ∧ ∀ (v : Option Value) (T2 : St), tR X 60 mx_law 1209 [some (.ref (mx_B + 100)), some (.ref (0 : Nat)), some (.ref (571 : Nat)), some (.int i)] [] T3 v T2 → tR X 60 mx_law 428 [some (.ref (mx_B + 100)), some (.ref (0 : Nat)), some (.ref (571 : Nat)), some (.int i)] [] T v T2 := by
  obtain ⟨e, hI2⟩ := hp T hI 
  refine ⟨_, hI2, fun v T2 k => ?_⟩
  refine r_p (pc2 := 429) dL_law_428 rfl rfl ?_
  refine r_cv (d1 := 1) dL_law_429 cvL_44 rfl rfl (show sh 0 = .inr 11 from rfl) rfl (Nat.le_of_ble_eq_true rfl) (Nat.le_of_ble_eq_true rfl) (Nat.le_of_ble_eq_true rfl) (c_x_fault ) ?_
  refine r_p (pc2 := 433) dL_law_432 rfl rfl ?_
  refine r_cv (d1 := 1) dL_law_433 cvL_47 rfl rfl (show sh 571 = .inr 12 from rfl) rfl (Nat.le_of_ble_eq_true rfl) (Nat.le_of_ble_eq_true rfl) (Nat.le_of_ble_eq_true rfl) (c_m_fault ) ?_
  refine r_ceq dL_law_436 rfl (fun _ => ?_) (fun c => absurd e c)
  exact k
def P_dish (I : St → Prop) : Prop := ∀ T, I T → ∀ (p0 : Int32) (p1 : Int32), ok_x_dish T p0 p1 ∧ ok_m_dish T p0 p1 ∧ (x_x_dish T p0 p1) = (x_m_dish T p0 p1).1 ∧ I ((x_m_dish T p0 p1).2)
theorem e_dish {X : Nat × (Nat → Int32)} {I : St → Prop} {T : St} {i : Int32} (hp : P_dish I) (hI : I T) (h1 : vp_in (i + 1) X.1) (h2 : vp_in (i + 2) X.1) : ∃ T3, I T3 ∧ ∀ (v : Option Value) (T2 : St), tR X 60 mx_law 1209 [some (.ref (mx_B + 100)), some (.ref (0 : Nat)), some (.ref (571 : Nat)), some (.int i)] [] T3 v T2 → tR X 60 mx_law 441 [some (.ref (mx_B + 100)), some (.ref (0 : Nat)), some (.ref (571 : Nat)), some (.int i)] [] T v T2 := by
  obtain ⟨q1, q2, e, hI2⟩ := hp T hI (X.2 (i + 1).toNatClampNeg) (X.2 (i + 2).toNatClampNeg)
  refine ⟨_, hI2, fun v T2 k => ?_⟩
  refine r_p (pc2 := 442) dL_law_441 rfl rfl ?_
  refine r_p (pc2 := 443) dL_law_442 rfl rfl ?_
  refine r_p (pc2 := 444) dL_law_443 rfl rfl ?_
  refine r_ci (x := 1) dL_law_444 rfl ?_
  refine r_p (pc2 := 446) dL_law_445 rfl rfl ?_
  refine r_xa dL_law_446 h1 ?_
  refine r_p (pc2 := 448) dL_law_447 rfl rfl ?_
  refine r_p (pc2 := 449) dL_law_448 rfl rfl ?_
  refine r_ci (x := 2) dL_law_449 rfl ?_
  refine r_p (pc2 := 451) dL_law_450 rfl rfl ?_
  refine r_xa dL_law_451 h2 ?_
  refine r_cv (d1 := 2) dL_law_452 cvL_48 rfl rfl (show sh 0 = .inr 11 from rfl) rfl (Nat.le_of_ble_eq_true rfl) (Nat.le_of_ble_eq_true rfl) (Nat.le_of_ble_eq_true rfl) (c_x_dish (X.2 (i + 1).toNatClampNeg) (X.2 (i + 2).toNatClampNeg) q1) ?_
  refine r_p (pc2 := 456) dL_law_455 rfl rfl ?_
  refine r_p (pc2 := 457) dL_law_456 rfl rfl ?_
  refine r_p (pc2 := 458) dL_law_457 rfl rfl ?_
  refine r_ci (x := 1) dL_law_458 rfl ?_
  refine r_p (pc2 := 460) dL_law_459 rfl rfl ?_
  refine r_xa dL_law_460 h1 ?_
  refine r_p (pc2 := 462) dL_law_461 rfl rfl ?_
  refine r_p (pc2 := 463) dL_law_462 rfl rfl ?_
  refine r_ci (x := 2) dL_law_463 rfl ?_
  refine r_p (pc2 := 465) dL_law_464 rfl rfl ?_
  refine r_xa dL_law_465 h2 ?_
  refine r_cv (d1 := 4) dL_law_466 cvL_52 rfl rfl (show sh 571 = .inr 12 from rfl) rfl (Nat.le_of_ble_eq_true rfl) (Nat.le_of_ble_eq_true rfl) (Nat.le_of_ble_eq_true rfl) (c_m_dish (X.2 (i + 1).toNatClampNeg) (X.2 (i + 2).toNatClampNeg) q2) ?_
  refine r_ceq dL_law_469 rfl (fun _ => ?_) (fun c => absurd e c)
  exact k
def P_step (I : St → Prop) : Prop := ∀ T, I T → ∀ (p0 : Int32) (p1 : Int32), ok_x_step T p0 p1 ∧ ok_m_step T p0 p1 ∧ (x_x_step T p0 p1) = (x_m_step T p0 p1).1 ∧ I ((x_m_step T p0 p1).2)
theorem e_step {X : Nat × (Nat → Int32)} {I : St → Prop} {T : St} {i : Int32} (hp : P_step I) (hI : I T) (h1 : vp_in (i + 1) X.1) (h2 : vp_in (i + 2) X.1) : ∃ T3, I T3 ∧ ∀ (v : Option Value) (T2 : St), tR X 60 mx_law 1209 [some (.ref (mx_B + 100)), some (.ref (0 : Nat)), some (.ref (571 : Nat)), some (.int i)] [] T3 v T2 → tR X 60 mx_law 474 [some (.ref (mx_B + 100)), some (.ref (0 : Nat)), some (.ref (571 : Nat)), some (.int i)] [] T v T2 := by
  obtain ⟨q1, q2, e, hI2⟩ := hp T hI (X.2 (i + 1).toNatClampNeg) (X.2 (i + 2).toNatClampNeg)
  refine ⟨_, hI2, fun v T2 k => ?_⟩
  refine r_p (pc2 := 475) dL_law_474 rfl rfl ?_
  refine r_p (pc2 := 476) dL_law_475 rfl rfl ?_
  refine r_p (pc2 := 477) dL_law_476 rfl rfl ?_
  refine r_ci (x := 1) dL_law_477 rfl ?_
  refine r_p (pc2 := 479) dL_law_478 rfl rfl ?_
  refine r_xa dL_law_479 h1 ?_
  refine r_p (pc2 := 481) dL_law_480 rfl rfl ?_
  refine r_p (pc2 := 482) dL_law_481 rfl rfl ?_
  refine r_ci (x := 2) dL_law_482 rfl ?_
  refine r_p (pc2 := 484) dL_law_483 rfl rfl ?_
  refine r_xa dL_law_484 h2 ?_
  refine r_cv (d1 := 2) dL_law_485 cvL_53 rfl rfl (show sh 0 = .inr 11 from rfl) rfl (Nat.le_of_ble_eq_true rfl) (Nat.le_of_ble_eq_true rfl) (Nat.le_of_ble_eq_true rfl) (c_x_step (X.2 (i + 1).toNatClampNeg) (X.2 (i + 2).toNatClampNeg) q1) ?_
  refine r_p (pc2 := 489) dL_law_488 rfl rfl ?_
  refine r_p (pc2 := 490) dL_law_489 rfl rfl ?_
  refine r_p (pc2 := 491) dL_law_490 rfl rfl ?_
  refine r_ci (x := 1) dL_law_491 rfl ?_
  refine r_p (pc2 := 493) dL_law_492 rfl rfl ?_
  refine r_xa dL_law_493 h1 ?_
  refine r_p (pc2 := 495) dL_law_494 rfl rfl ?_
  refine r_p (pc2 := 496) dL_law_495 rfl rfl ?_
  refine r_ci (x := 2) dL_law_496 rfl ?_
  refine r_p (pc2 := 498) dL_law_497 rfl rfl ?_
  refine r_xa dL_law_498 h2 ?_
  refine r_cv (d1 := 3) dL_law_499 cvL_56 rfl rfl (show sh 571 = .inr 12 from rfl) rfl (Nat.le_of_ble_eq_true rfl) (Nat.le_of_ble_eq_true rfl) (Nat.le_of_ble_eq_true rfl) (c_m_step (X.2 (i + 1).toNatClampNeg) (X.2 (i + 2).toNatClampNeg) q2) ?_
  refine r_ceq dL_law_502 rfl (fun _ => ?_) (fun c => absurd e c)
  exact k
def P_gives (I : St → Prop) : Prop := ∀ T, I T → ∀ (p0 : Int32) (p1 : Int32), ok_x_gives T p0 p1 ∧ ok_m_gives T p0 p1 ∧ (x_x_gives T p0 p1) = (x_m_gives T p0 p1).1 ∧ I ((x_m_gives T p0 p1).2)
theorem e_gives {X : Nat × (Nat → Int32)} {I : St → Prop} {T : St} {i : Int32} (hp : P_gives I) (hI : I T) (h1 : vp_in (i + 1) X.1) (h2 : vp_in (i + 2) X.1) : ∃ T3, I T3 ∧ ∀ (v : Option Value) (T2 : St), tR X 60 mx_law 1209 [some (.ref (mx_B + 100)), some (.ref (0 : Nat)), some (.ref (571 : Nat)), some (.int i)] [] T3 v T2 → tR X 60 mx_law 507 [some (.ref (mx_B + 100)), some (.ref (0 : Nat)), some (.ref (571 : Nat)), some (.int i)] [] T v T2 := by
  obtain ⟨q1, q2, e, hI2⟩ := hp T hI (X.2 (i + 1).toNatClampNeg) (X.2 (i + 2).toNatClampNeg)
  refine ⟨_, hI2, fun v T2 k => ?_⟩
  refine r_p (pc2 := 508) dL_law_507 rfl rfl ?_
  refine r_p (pc2 := 509) dL_law_508 rfl rfl ?_
  refine r_p (pc2 := 510) dL_law_509 rfl rfl ?_
  refine r_ci (x := 1) dL_law_510 rfl ?_
  refine r_p (pc2 := 512) dL_law_511 rfl rfl ?_
  refine r_xa dL_law_512 h1 ?_
  refine r_p (pc2 := 514) dL_law_513 rfl rfl ?_
  refine r_p (pc2 := 515) dL_law_514 rfl rfl ?_
  refine r_ci (x := 2) dL_law_515 rfl ?_
  refine r_p (pc2 := 517) dL_law_516 rfl rfl ?_
  refine r_xa dL_law_517 h2 ?_
  refine r_cv (d1 := 3) dL_law_518 cvL_57 rfl rfl (show sh 0 = .inr 11 from rfl) rfl (Nat.le_of_ble_eq_true rfl) (Nat.le_of_ble_eq_true rfl) (Nat.le_of_ble_eq_true rfl) (c_x_gives (X.2 (i + 1).toNatClampNeg) (X.2 (i + 2).toNatClampNeg) q1) ?_
  refine r_p (pc2 := 522) dL_law_521 rfl rfl ?_
  refine r_p (pc2 := 523) dL_law_522 rfl rfl ?_
  refine r_p (pc2 := 524) dL_law_523 rfl rfl ?_
  refine r_ci (x := 1) dL_law_524 rfl ?_
  refine r_p (pc2 := 526) dL_law_525 rfl rfl ?_
  refine r_xa dL_law_526 h1 ?_
  refine r_p (pc2 := 528) dL_law_527 rfl rfl ?_
  refine r_p (pc2 := 529) dL_law_528 rfl rfl ?_
  refine r_ci (x := 2) dL_law_529 rfl ?_
  refine r_p (pc2 := 531) dL_law_530 rfl rfl ?_
  refine r_xa dL_law_531 h2 ?_
  refine r_cv (d1 := 3) dL_law_532 cvL_60 rfl rfl (show sh 571 = .inr 12 from rfl) rfl (Nat.le_of_ble_eq_true rfl) (Nat.le_of_ble_eq_true rfl) (Nat.le_of_ble_eq_true rfl) (c_m_gives (X.2 (i + 1).toNatClampNeg) (X.2 (i + 2).toNatClampNeg) q2) ?_
  refine r_ceq dL_law_535 rfl (fun _ => ?_) (fun c => absurd e c)
  exact k
def P_dinner (I : St → Prop) : Prop := ∀ T, I T → ∀ (p0 : Int32), ok_x_dinner T p0 ∧ ok_m_dinner (x_x_dinner T p0).2 p0 ∧ (x_x_dinner T p0).1 = (x_m_dinner (x_x_dinner T p0).2 p0).1 ∧ I ((x_m_dinner (x_x_dinner T p0).2 p0).2)
theorem e_dinner {X : Nat × (Nat → Int32)} {I : St → Prop} {T : St} {i : Int32} (hp : P_dinner I) (hI : I T) (h1 : vp_in (i + 1) X.1) : ∃ T3, I T3 ∧ ∀ (v : Option Value) (T2 : St), tR X 60 mx_law 1209 [some (.ref (mx_B + 100)), some (.ref (0 : Nat)), some (.ref (571 : Nat)), some (.int i)] [] T3 v T2 → tR X 60 mx_law 540 [some (.ref (mx_B + 100)), some (.ref (0 : Nat)), some (.ref (571 : Nat)), some (.int i)] [] T v T2 := by
  obtain ⟨q1, q2, e, hI2⟩ := hp T hI (X.2 (i + 1).toNatClampNeg)
  refine ⟨_, hI2, fun v T2 k => ?_⟩
  refine r_p (pc2 := 541) dL_law_540 rfl rfl ?_
  refine r_p (pc2 := 542) dL_law_541 rfl rfl ?_
  refine r_p (pc2 := 543) dL_law_542 rfl rfl ?_
  refine r_ci (x := 1) dL_law_543 rfl ?_
  refine r_p (pc2 := 545) dL_law_544 rfl rfl ?_
  refine r_xa dL_law_545 h1 ?_
  refine r_cv (d1 := 5) dL_law_546 cvL_61 rfl rfl (show sh 0 = .inr 11 from rfl) rfl (Nat.le_of_ble_eq_true rfl) (Nat.le_of_ble_eq_true rfl) (Nat.le_of_ble_eq_true rfl) (c_x_dinner (X.2 (i + 1).toNatClampNeg) q1) ?_
  refine r_p (pc2 := 550) dL_law_549 rfl rfl ?_
  refine r_p (pc2 := 551) dL_law_550 rfl rfl ?_
  refine r_p (pc2 := 552) dL_law_551 rfl rfl ?_
  refine r_ci (x := 1) dL_law_552 rfl ?_
  refine r_p (pc2 := 554) dL_law_553 rfl rfl ?_
  refine r_xa dL_law_554 h1 ?_
  refine r_cv (d1 := 2) dL_law_555 cvL_64 rfl rfl (show sh 571 = .inr 12 from rfl) rfl (Nat.le_of_ble_eq_true rfl) (Nat.le_of_ble_eq_true rfl) (Nat.le_of_ble_eq_true rfl) (c_m_dinner (X.2 (i + 1).toNatClampNeg) q2) ?_
  refine r_ceq dL_law_558 rfl (fun _ => ?_) (fun c => absurd e c)
  exact k
def P_out (I : St → Prop) : Prop := ∀ T, I T → ∀ (p0 : Int32), ok_x_out T p0 ∧ (x_x_out T p0).1 = (x_m_out (x_x_out T p0).2 p0).1 ∧ I ((x_m_out (x_x_out T p0).2 p0).2)
theorem e_out {X : Nat × (Nat → Int32)} {I : St → Prop} {T : St} {i : Int32} (hp : P_out I) (hI : I T) (h1 : vp_in (i + 1) X.1) : ∃ T3, I T3 ∧ ∀ (v : Option Value) (T2 : St), tR X 60 mx_law 1209 [some (.ref (mx_B + 100)), some (.ref (0 : Nat)), some (.ref (571 : Nat)), some (.int i)] [] T3 v T2 → tR X 60 mx_law 563 [some (.ref (mx_B + 100)), some (.ref (0 : Nat)), some (.ref (571 : Nat)), some (.int i)] [] T v T2 := by
  obtain ⟨q1, e, hI2⟩ := hp T hI (X.2 (i + 1).toNatClampNeg)
  refine ⟨_, hI2, fun v T2 k => ?_⟩
  refine r_p (pc2 := 564) dL_law_563 rfl rfl ?_
  refine r_p (pc2 := 565) dL_law_564 rfl rfl ?_
  refine r_p (pc2 := 566) dL_law_565 rfl rfl ?_
  refine r_ci (x := 1) dL_law_566 rfl ?_
  refine r_p (pc2 := 568) dL_law_567 rfl rfl ?_
  refine r_xa dL_law_568 h1 ?_
  refine r_cv (d1 := 5) dL_law_569 cvL_65 rfl rfl (show sh 0 = .inr 11 from rfl) rfl (Nat.le_of_ble_eq_true rfl) (Nat.le_of_ble_eq_true rfl) (Nat.le_of_ble_eq_true rfl) (c_x_out (X.2 (i + 1).toNatClampNeg) q1) ?_
  refine r_p (pc2 := 573) dL_law_572 rfl rfl ?_
  refine r_p (pc2 := 574) dL_law_573 rfl rfl ?_
  refine r_p (pc2 := 575) dL_law_574 rfl rfl ?_
  refine r_ci (x := 1) dL_law_575 rfl ?_
  refine r_p (pc2 := 577) dL_law_576 rfl rfl ?_
  refine r_xa dL_law_577 h1 ?_
  refine r_cv (d1 := 2) dL_law_578 cvL_68 rfl rfl (show sh 571 = .inr 12 from rfl) rfl (Nat.le_of_ble_eq_true rfl) (Nat.le_of_ble_eq_true rfl) (Nat.le_of_ble_eq_true rfl) (c_m_out (X.2 (i + 1).toNatClampNeg)) ?_
  refine r_ceq dL_law_581 rfl (fun _ => ?_) (fun c => absurd e c)
  exact k
def P_judge (I : St → Prop) : Prop := ∀ T, I T → ∀ (p0 : Int32) (p1 : Int32) (p2 : Int32), ok_x_judge T p0 p1 p2 ∧ ok_m_judge (x_x_judge T p0 p1 p2).2 p0 p1 p2 ∧ (x_x_judge T p0 p1 p2).1 = (x_m_judge (x_x_judge T p0 p1 p2).2 p0 p1 p2).1 ∧ I ((x_m_judge (x_x_judge T p0 p1 p2).2 p0 p1 p2).2)
theorem e_judge {X : Nat × (Nat → Int32)} {I : St → Prop} {T : St} {i : Int32} (hp : P_judge I) (hI : I T) (h1 : vp_in (i + 1) X.1) (h2 : vp_in (i + 2) X.1) (h3 : vp_in (i + 3) X.1) : ∃ T3, I T3 ∧ ∀ (v : Option Value) (T2 : St), tR X 60 mx_law 1209 [some (.ref (mx_B + 100)), some (.ref (0 : Nat)), some (.ref (571 : Nat)), some (.int i)] [] T3 v T2 → tR X 60 mx_law 586 [some (.ref (mx_B + 100)), some (.ref (0 : Nat)), some (.ref (571 : Nat)), some (.int i)] [] T v T2 := by
  obtain ⟨q1, q2, e, hI2⟩ := hp T hI (X.2 (i + 1).toNatClampNeg) (X.2 (i + 2).toNatClampNeg) (X.2 (i + 3).toNatClampNeg)
  refine ⟨_, hI2, fun v T2 k => ?_⟩
  refine r_p (pc2 := 587) dL_law_586 rfl rfl ?_
  refine r_p (pc2 := 588) dL_law_587 rfl rfl ?_
  refine r_p (pc2 := 589) dL_law_588 rfl rfl ?_
  refine r_ci (x := 1) dL_law_589 rfl ?_
  refine r_p (pc2 := 591) dL_law_590 rfl rfl ?_
  refine r_xa dL_law_591 h1 ?_
  refine r_p (pc2 := 593) dL_law_592 rfl rfl ?_
  refine r_p (pc2 := 594) dL_law_593 rfl rfl ?_
  refine r_ci (x := 2) dL_law_594 rfl ?_
  refine r_p (pc2 := 596) dL_law_595 rfl rfl ?_
  refine r_xa dL_law_596 h2 ?_
  refine r_p (pc2 := 598) dL_law_597 rfl rfl ?_
  refine r_p (pc2 := 599) dL_law_598 rfl rfl ?_
  refine r_ci (x := 3) dL_law_599 rfl ?_
  refine r_p (pc2 := 601) dL_law_600 rfl rfl ?_
  refine r_xa dL_law_601 h3 ?_
  refine r_cv (d1 := 6) dL_law_602 cvL_69 rfl rfl (show sh 0 = .inr 11 from rfl) rfl (Nat.le_of_ble_eq_true rfl) (Nat.le_of_ble_eq_true rfl) (Nat.le_of_ble_eq_true rfl) (c_x_judge (X.2 (i + 1).toNatClampNeg) (X.2 (i + 2).toNatClampNeg) (X.2 (i + 3).toNatClampNeg) q1) ?_
  refine r_p (pc2 := 606) dL_law_605 rfl rfl ?_
  refine r_p (pc2 := 607) dL_law_606 rfl rfl ?_
  refine r_p (pc2 := 608) dL_law_607 rfl rfl ?_
  refine r_ci (x := 1) dL_law_608 rfl ?_
  refine r_p (pc2 := 610) dL_law_609 rfl rfl ?_
  refine r_xa dL_law_610 h1 ?_
  refine r_p (pc2 := 612) dL_law_611 rfl rfl ?_
  refine r_p (pc2 := 613) dL_law_612 rfl rfl ?_
  refine r_ci (x := 2) dL_law_613 rfl ?_
  refine r_p (pc2 := 615) dL_law_614 rfl rfl ?_
  refine r_xa dL_law_615 h2 ?_
  refine r_p (pc2 := 617) dL_law_616 rfl rfl ?_
  refine r_p (pc2 := 618) dL_law_617 rfl rfl ?_
  refine r_ci (x := 3) dL_law_618 rfl ?_
  refine r_p (pc2 := 620) dL_law_619 rfl rfl ?_
  refine r_xa dL_law_620 h3 ?_
  refine r_cv (d1 := 5) dL_law_621 cvL_72 rfl rfl (show sh 571 = .inr 12 from rfl) rfl (Nat.le_of_ble_eq_true rfl) (Nat.le_of_ble_eq_true rfl) (Nat.le_of_ble_eq_true rfl) (c_m_judge (X.2 (i + 1).toNatClampNeg) (X.2 (i + 2).toNatClampNeg) (X.2 (i + 3).toNatClampNeg) q2) ?_
  refine r_ceq dL_law_624 rfl (fun _ => ?_) (fun c => absurd e c)
  exact k
def P_least (I : St → Prop) : Prop := ∀ T, I T → ∀ (p0 : Int32) (p1 : Int32), ok_x_least T p0 p1 ∧ ok_m_least (x_x_least T p0 p1).2 p0 p1 ∧ (x_x_least T p0 p1).1 = (x_m_least (x_x_least T p0 p1).2 p0 p1).1 ∧ I ((x_m_least (x_x_least T p0 p1).2 p0 p1).2)
theorem e_least {X : Nat × (Nat → Int32)} {I : St → Prop} {T : St} {i : Int32} (hp : P_least I) (hI : I T) (h1 : vp_in (i + 1) X.1) (h2 : vp_in (i + 2) X.1) : ∃ T3, I T3 ∧ ∀ (v : Option Value) (T2 : St), tR X 60 mx_law 1209 [some (.ref (mx_B + 100)), some (.ref (0 : Nat)), some (.ref (571 : Nat)), some (.int i)] [] T3 v T2 → tR X 60 mx_law 629 [some (.ref (mx_B + 100)), some (.ref (0 : Nat)), some (.ref (571 : Nat)), some (.int i)] [] T v T2 := by
  obtain ⟨q1, q2, e, hI2⟩ := hp T hI (X.2 (i + 1).toNatClampNeg) (X.2 (i + 2).toNatClampNeg)
  refine ⟨_, hI2, fun v T2 k => ?_⟩
  refine r_p (pc2 := 630) dL_law_629 rfl rfl ?_
  refine r_p (pc2 := 631) dL_law_630 rfl rfl ?_
  refine r_p (pc2 := 632) dL_law_631 rfl rfl ?_
  refine r_ci (x := 1) dL_law_632 rfl ?_
  refine r_p (pc2 := 634) dL_law_633 rfl rfl ?_
  refine r_xa dL_law_634 h1 ?_
  refine r_p (pc2 := 636) dL_law_635 rfl rfl ?_
  refine r_p (pc2 := 637) dL_law_636 rfl rfl ?_
  refine r_ci (x := 2) dL_law_637 rfl ?_
  refine r_p (pc2 := 639) dL_law_638 rfl rfl ?_
  refine r_xa dL_law_639 h2 ?_
  refine r_cv (d1 := 12) dL_law_640 cvL_73 rfl rfl (show sh 0 = .inr 11 from rfl) rfl (Nat.le_of_ble_eq_true rfl) (Nat.le_of_ble_eq_true rfl) (Nat.le_of_ble_eq_true rfl) (c_x_least (X.2 (i + 1).toNatClampNeg) (X.2 (i + 2).toNatClampNeg) q1) ?_
  refine r_p (pc2 := 644) dL_law_643 rfl rfl ?_
  refine r_p (pc2 := 645) dL_law_644 rfl rfl ?_
  refine r_p (pc2 := 646) dL_law_645 rfl rfl ?_
  refine r_ci (x := 1) dL_law_646 rfl ?_
  refine r_p (pc2 := 648) dL_law_647 rfl rfl ?_
  refine r_xa dL_law_648 h1 ?_
  refine r_p (pc2 := 650) dL_law_649 rfl rfl ?_
  refine r_p (pc2 := 651) dL_law_650 rfl rfl ?_
  refine r_ci (x := 2) dL_law_651 rfl ?_
  refine r_p (pc2 := 653) dL_law_652 rfl rfl ?_
  refine r_xa dL_law_653 h2 ?_
  refine r_cv (d1 := 7) dL_law_654 cvL_76 rfl rfl (show sh 571 = .inr 12 from rfl) rfl (Nat.le_of_ble_eq_true rfl) (Nat.le_of_ble_eq_true rfl) (Nat.le_of_ble_eq_true rfl) (c_m_least (X.2 (i + 1).toNatClampNeg) (X.2 (i + 2).toNatClampNeg) q2) ?_
  refine r_ceq dL_law_657 rfl (fun _ => ?_) (fun c => absurd e c)
  exact k
def P_begins (I : St → Prop) : Prop := ∀ T, I T → ∀ (p0 : Int32) (p1 : Int32), ok_x_begins T p0 p1 ∧ ok_m_begins (x_x_begins T p0 p1).2 p0 p1 ∧ (x_x_begins T p0 p1).1 = (x_m_begins (x_x_begins T p0 p1).2 p0 p1).1 ∧ I ((x_m_begins (x_x_begins T p0 p1).2 p0 p1).2)
theorem e_begins {X : Nat × (Nat → Int32)} {I : St → Prop} {T : St} {i : Int32} (hp : P_begins I) (hI : I T) (h1 : vp_in (i + 1) X.1) (h2 : vp_in (i + 2) X.1) : ∃ T3, I T3 ∧ ∀ (v : Option Value) (T2 : St), tR X 60 mx_law 1209 [some (.ref (mx_B + 100)), some (.ref (0 : Nat)), some (.ref (571 : Nat)), some (.int i)] [] T3 v T2 → tR X 60 mx_law 662 [some (.ref (mx_B + 100)), some (.ref (0 : Nat)), some (.ref (571 : Nat)), some (.int i)] [] T v T2 := by
  obtain ⟨q1, q2, e, hI2⟩ := hp T hI (X.2 (i + 1).toNatClampNeg) (X.2 (i + 2).toNatClampNeg)
  refine ⟨_, hI2, fun v T2 k => ?_⟩
  refine r_p (pc2 := 663) dL_law_662 rfl rfl ?_
  refine r_p (pc2 := 664) dL_law_663 rfl rfl ?_
  refine r_p (pc2 := 665) dL_law_664 rfl rfl ?_
  refine r_ci (x := 1) dL_law_665 rfl ?_
  refine r_p (pc2 := 667) dL_law_666 rfl rfl ?_
  refine r_xa dL_law_667 h1 ?_
  refine r_p (pc2 := 669) dL_law_668 rfl rfl ?_
  refine r_p (pc2 := 670) dL_law_669 rfl rfl ?_
  refine r_ci (x := 2) dL_law_670 rfl ?_
  refine r_p (pc2 := 672) dL_law_671 rfl rfl ?_
  refine r_xa dL_law_672 h2 ?_
  refine r_cv (d1 := 12) dL_law_673 cvL_77 rfl rfl (show sh 0 = .inr 11 from rfl) rfl (Nat.le_of_ble_eq_true rfl) (Nat.le_of_ble_eq_true rfl) (Nat.le_of_ble_eq_true rfl) (c_x_begins (X.2 (i + 1).toNatClampNeg) (X.2 (i + 2).toNatClampNeg) q1) ?_
  refine r_p (pc2 := 677) dL_law_676 rfl rfl ?_
  refine r_p (pc2 := 678) dL_law_677 rfl rfl ?_
  refine r_p (pc2 := 679) dL_law_678 rfl rfl ?_
  refine r_ci (x := 1) dL_law_679 rfl ?_
  refine r_p (pc2 := 681) dL_law_680 rfl rfl ?_
  refine r_xa dL_law_681 h1 ?_
  refine r_p (pc2 := 683) dL_law_682 rfl rfl ?_
  refine r_p (pc2 := 684) dL_law_683 rfl rfl ?_
  refine r_ci (x := 2) dL_law_684 rfl ?_
  refine r_p (pc2 := 686) dL_law_685 rfl rfl ?_
  refine r_xa dL_law_686 h2 ?_
  refine r_cv (d1 := 7) dL_law_687 cvL_80 rfl rfl (show sh 571 = .inr 12 from rfl) rfl (Nat.le_of_ble_eq_true rfl) (Nat.le_of_ble_eq_true rfl) (Nat.le_of_ble_eq_true rfl) (c_m_begins (X.2 (i + 1).toNatClampNeg) (X.2 (i + 2).toNatClampNeg) q2) ?_
  refine r_ceq dL_law_690 rfl (fun _ => ?_) (fun c => absurd e c)
  exact k
def P_seven (I : St → Prop) : Prop := ∀ T, I T → ∀ (p0 : Int32), ok_x_seven T p0 ∧ ok_m_seven (x_x_seven T p0).2 p0 ∧ (x_x_seven T p0).1 = (x_m_seven (x_x_seven T p0).2 p0).1 ∧ I ((x_m_seven (x_x_seven T p0).2 p0).2)
theorem e_seven {X : Nat × (Nat → Int32)} {I : St → Prop} {T : St} {i : Int32} (hp : P_seven I) (hI : I T) (h1 : vp_in (i + 1) X.1) : ∃ T3, I T3 ∧ ∀ (v : Option Value) (T2 : St), tR X 60 mx_law 1209 [some (.ref (mx_B + 100)), some (.ref (0 : Nat)), some (.ref (571 : Nat)), some (.int i)] [] T3 v T2 → tR X 60 mx_law 695 [some (.ref (mx_B + 100)), some (.ref (0 : Nat)), some (.ref (571 : Nat)), some (.int i)] [] T v T2 := by
  obtain ⟨q1, q2, e, hI2⟩ := hp T hI (X.2 (i + 1).toNatClampNeg)
  refine ⟨_, hI2, fun v T2 k => ?_⟩
  refine r_p (pc2 := 696) dL_law_695 rfl rfl ?_
  refine r_p (pc2 := 697) dL_law_696 rfl rfl ?_
  refine r_p (pc2 := 698) dL_law_697 rfl rfl ?_
  refine r_ci (x := 1) dL_law_698 rfl ?_
  refine r_p (pc2 := 700) dL_law_699 rfl rfl ?_
  refine r_xa dL_law_700 h1 ?_
  refine r_cv (d1 := 11) dL_law_701 cvL_81 rfl rfl (show sh 0 = .inr 11 from rfl) rfl (Nat.le_of_ble_eq_true rfl) (Nat.le_of_ble_eq_true rfl) (Nat.le_of_ble_eq_true rfl) (c_x_seven (X.2 (i + 1).toNatClampNeg) q1) ?_
  refine r_p (pc2 := 705) dL_law_704 rfl rfl ?_
  refine r_p (pc2 := 706) dL_law_705 rfl rfl ?_
  refine r_p (pc2 := 707) dL_law_706 rfl rfl ?_
  refine r_ci (x := 1) dL_law_707 rfl ?_
  refine r_p (pc2 := 709) dL_law_708 rfl rfl ?_
  refine r_xa dL_law_709 h1 ?_
  refine r_cv (d1 := 6) dL_law_710 cvL_84 rfl rfl (show sh 571 = .inr 12 from rfl) rfl (Nat.le_of_ble_eq_true rfl) (Nat.le_of_ble_eq_true rfl) (Nat.le_of_ble_eq_true rfl) (c_m_seven (X.2 (i + 1).toNatClampNeg) q2) ?_
  refine r_ceq dL_law_713 rfl (fun _ => ?_) (fun c => absurd e c)
  exact k
def P_earliest (I : St → Prop) : Prop := ∀ T, I T → ok_x_earliest T ∧ ok_m_earliest (x_x_earliest T).2 ∧ (x_x_earliest T).1 = (x_m_earliest (x_x_earliest T).2).1 ∧ I ((x_m_earliest (x_x_earliest T).2).2)
theorem e_earliest {X : Nat × (Nat → Int32)} {I : St → Prop} {T : St} {i : Int32} (hp : P_earliest I) (hI : I T)  : ∃ T3, I T3 ∧ ∀ (v : Option Value) (T2 : St), tR X 60 mx_law 1209 [some (.ref (mx_B + 100)), some (.ref (0 : Nat)), some (.ref (571 : Nat)), some (.int i)] [] T3 v T2 → tR X 60 mx_law 718 [some (.ref (mx_B + 100)), some (.ref (0 : Nat)), some (.ref (571 : Nat)), some (.int i)] [] T v T2 := by
  obtain ⟨q1, q2, e, hI2⟩ := hp T hI 
  refine ⟨_, hI2, fun v T2 k => ?_⟩
  refine r_p (pc2 := 719) dL_law_718 rfl rfl ?_
  refine r_cv (d1 := 12) dL_law_719 cvL_85 rfl rfl (show sh 0 = .inr 11 from rfl) rfl (Nat.le_of_ble_eq_true rfl) (Nat.le_of_ble_eq_true rfl) (Nat.le_of_ble_eq_true rfl) (c_x_earliest  q1) ?_
  refine r_p (pc2 := 723) dL_law_722 rfl rfl ?_
  refine r_cv (d1 := 7) dL_law_723 cvL_88 rfl rfl (show sh 571 = .inr 12 from rfl) rfl (Nat.le_of_ble_eq_true rfl) (Nat.le_of_ble_eq_true rfl) (Nat.le_of_ble_eq_true rfl) (c_m_earliest  q2) ?_
  refine r_ceq dL_law_726 rfl (fun _ => ?_) (fun c => absurd e c)
  exact k
def P_heat (I : St → Prop) : Prop := ∀ T, I T → ∀ (p0 : Int32) (p1 : Int32), ok_x_heat T p0 p1 ∧ ok_m_heat (x_x_heat T p0 p1).2 p0 p1 ∧ (x_x_heat T p0 p1).1 = (x_m_heat (x_x_heat T p0 p1).2 p0 p1).1 ∧ I ((x_m_heat (x_x_heat T p0 p1).2 p0 p1).2)
theorem e_heat {X : Nat × (Nat → Int32)} {I : St → Prop} {T : St} {i : Int32} (hp : P_heat I) (hI : I T) (h1 : vp_in (i + 1) X.1) (h2 : vp_in (i + 2) X.1) : ∃ T3, I T3 ∧ ∀ (v : Option Value) (T2 : St), tR X 60 mx_law 1209 [some (.ref (mx_B + 100)), some (.ref (0 : Nat)), some (.ref (571 : Nat)), some (.int i)] [] T3 v T2 → tR X 60 mx_law 731 [some (.ref (mx_B + 100)), some (.ref (0 : Nat)), some (.ref (571 : Nat)), some (.int i)] [] T v T2 := by
  obtain ⟨q1, q2, e, hI2⟩ := hp T hI (X.2 (i + 1).toNatClampNeg) (X.2 (i + 2).toNatClampNeg)
  refine ⟨_, hI2, fun v T2 k => ?_⟩
  refine r_p (pc2 := 732) dL_law_731 rfl rfl ?_
  refine r_p (pc2 := 733) dL_law_732 rfl rfl ?_
  refine r_p (pc2 := 734) dL_law_733 rfl rfl ?_
  refine r_ci (x := 1) dL_law_734 rfl ?_
  refine r_p (pc2 := 736) dL_law_735 rfl rfl ?_
  refine r_xa dL_law_736 h1 ?_
  refine r_p (pc2 := 738) dL_law_737 rfl rfl ?_
  refine r_p (pc2 := 739) dL_law_738 rfl rfl ?_
  refine r_ci (x := 2) dL_law_739 rfl ?_
  refine r_p (pc2 := 741) dL_law_740 rfl rfl ?_
  refine r_xa dL_law_741 h2 ?_
  refine r_cv (d1 := 12) dL_law_742 cvL_89 rfl rfl (show sh 0 = .inr 11 from rfl) rfl (Nat.le_of_ble_eq_true rfl) (Nat.le_of_ble_eq_true rfl) (Nat.le_of_ble_eq_true rfl) (c_x_heat (X.2 (i + 1).toNatClampNeg) (X.2 (i + 2).toNatClampNeg) q1) ?_
  refine r_p (pc2 := 746) dL_law_745 rfl rfl ?_
  refine r_p (pc2 := 747) dL_law_746 rfl rfl ?_
  refine r_p (pc2 := 748) dL_law_747 rfl rfl ?_
  refine r_ci (x := 1) dL_law_748 rfl ?_
  refine r_p (pc2 := 750) dL_law_749 rfl rfl ?_
  refine r_xa dL_law_750 h1 ?_
  refine r_p (pc2 := 752) dL_law_751 rfl rfl ?_
  refine r_p (pc2 := 753) dL_law_752 rfl rfl ?_
  refine r_ci (x := 2) dL_law_753 rfl ?_
  refine r_p (pc2 := 755) dL_law_754 rfl rfl ?_
  refine r_xa dL_law_755 h2 ?_
  refine r_cv (d1 := 7) dL_law_756 cvL_92 rfl rfl (show sh 571 = .inr 12 from rfl) rfl (Nat.le_of_ble_eq_true rfl) (Nat.le_of_ble_eq_true rfl) (Nat.le_of_ble_eq_true rfl) (c_m_heat (X.2 (i + 1).toNatClampNeg) (X.2 (i + 2).toNatClampNeg) q2) ?_
  refine r_ceq dL_law_759 rfl (fun _ => ?_) (fun c => absurd e c)
  exact k
def P_wanted (I : St → Prop) : Prop := ∀ T, I T → ∀ (p0 : Int32) (p1 : Int32) (p2 : Int32), ok_x_wanted T p0 p1 p2 ∧ ok_m_wanted (x_x_wanted T p0 p1 p2).2 p0 p1 p2 ∧ (x_x_wanted T p0 p1 p2).1 = (x_m_wanted (x_x_wanted T p0 p1 p2).2 p0 p1 p2).1 ∧ I ((x_m_wanted (x_x_wanted T p0 p1 p2).2 p0 p1 p2).2)
theorem e_wanted {X : Nat × (Nat → Int32)} {I : St → Prop} {T : St} {i : Int32} (hp : P_wanted I) (hI : I T) (h1 : vp_in (i + 1) X.1) (h2 : vp_in (i + 2) X.1) (h3 : vp_in (i + 3) X.1) : ∃ T3, I T3 ∧ ∀ (v : Option Value) (T2 : St), tR X 60 mx_law 1209 [some (.ref (mx_B + 100)), some (.ref (0 : Nat)), some (.ref (571 : Nat)), some (.int i)] [] T3 v T2 → tR X 60 mx_law 764 [some (.ref (mx_B + 100)), some (.ref (0 : Nat)), some (.ref (571 : Nat)), some (.int i)] [] T v T2 := by
  obtain ⟨q1, q2, e, hI2⟩ := hp T hI (X.2 (i + 1).toNatClampNeg) (X.2 (i + 2).toNatClampNeg) (X.2 (i + 3).toNatClampNeg)
  refine ⟨_, hI2, fun v T2 k => ?_⟩
  refine r_p (pc2 := 765) dL_law_764 rfl rfl ?_
  refine r_p (pc2 := 766) dL_law_765 rfl rfl ?_
  refine r_p (pc2 := 767) dL_law_766 rfl rfl ?_
  refine r_ci (x := 1) dL_law_767 rfl ?_
  refine r_p (pc2 := 769) dL_law_768 rfl rfl ?_
  refine r_xa dL_law_769 h1 ?_
  refine r_p (pc2 := 771) dL_law_770 rfl rfl ?_
  refine r_p (pc2 := 772) dL_law_771 rfl rfl ?_
  refine r_ci (x := 2) dL_law_772 rfl ?_
  refine r_p (pc2 := 774) dL_law_773 rfl rfl ?_
  refine r_xa dL_law_774 h2 ?_
  refine r_p (pc2 := 776) dL_law_775 rfl rfl ?_
  refine r_p (pc2 := 777) dL_law_776 rfl rfl ?_
  refine r_ci (x := 3) dL_law_777 rfl ?_
  refine r_p (pc2 := 779) dL_law_778 rfl rfl ?_
  refine r_xa dL_law_779 h3 ?_
  refine r_cv (d1 := 12) dL_law_780 cvL_93 rfl rfl (show sh 0 = .inr 11 from rfl) rfl (Nat.le_of_ble_eq_true rfl) (Nat.le_of_ble_eq_true rfl) (Nat.le_of_ble_eq_true rfl) (c_x_wanted (X.2 (i + 1).toNatClampNeg) (X.2 (i + 2).toNatClampNeg) (X.2 (i + 3).toNatClampNeg) q1) ?_
  refine r_p (pc2 := 784) dL_law_783 rfl rfl ?_
  refine r_p (pc2 := 785) dL_law_784 rfl rfl ?_
  refine r_p (pc2 := 786) dL_law_785 rfl rfl ?_
  refine r_ci (x := 1) dL_law_786 rfl ?_
  refine r_p (pc2 := 788) dL_law_787 rfl rfl ?_
  refine r_xa dL_law_788 h1 ?_
  refine r_p (pc2 := 790) dL_law_789 rfl rfl ?_
  refine r_p (pc2 := 791) dL_law_790 rfl rfl ?_
  refine r_ci (x := 2) dL_law_791 rfl ?_
  refine r_p (pc2 := 793) dL_law_792 rfl rfl ?_
  refine r_xa dL_law_793 h2 ?_
  refine r_p (pc2 := 795) dL_law_794 rfl rfl ?_
  refine r_p (pc2 := 796) dL_law_795 rfl rfl ?_
  refine r_ci (x := 3) dL_law_796 rfl ?_
  refine r_p (pc2 := 798) dL_law_797 rfl rfl ?_
  refine r_xa dL_law_798 h3 ?_
  refine r_cv (d1 := 7) dL_law_799 cvL_96 rfl rfl (show sh 571 = .inr 12 from rfl) rfl (Nat.le_of_ble_eq_true rfl) (Nat.le_of_ble_eq_true rfl) (Nat.le_of_ble_eq_true rfl) (c_m_wanted (X.2 (i + 1).toNatClampNeg) (X.2 (i + 2).toNatClampNeg) (X.2 (i + 3).toNatClampNeg) q2) ?_
  refine r_ceq dL_law_802 rfl (fun _ => ?_) (fun c => absurd e c)
  exact k
def P_dinners (I : St → Prop) : Prop := ∀ T, I T → ∀ (p0 : Int32) (p1 : Int32) (p2 : Int32), ok_x_dinners T p0 p1 p2 ∧ ok_m_dinners (x_x_dinners T p0 p1 p2).2 p0 p1 p2 ∧ (x_x_dinners T p0 p1 p2).1 = (x_m_dinners (x_x_dinners T p0 p1 p2).2 p0 p1 p2).1 ∧ I ((x_m_dinners (x_x_dinners T p0 p1 p2).2 p0 p1 p2).2)
theorem e_dinners {X : Nat × (Nat → Int32)} {I : St → Prop} {T : St} {i : Int32} (hp : P_dinners I) (hI : I T) (h1 : vp_in (i + 1) X.1) (h2 : vp_in (i + 2) X.1) (h3 : vp_in (i + 3) X.1) : ∃ T3, I T3 ∧ ∀ (v : Option Value) (T2 : St), tR X 60 mx_law 1209 [some (.ref (mx_B + 100)), some (.ref (0 : Nat)), some (.ref (571 : Nat)), some (.int i)] [] T3 v T2 → tR X 60 mx_law 807 [some (.ref (mx_B + 100)), some (.ref (0 : Nat)), some (.ref (571 : Nat)), some (.int i)] [] T v T2 := by
  obtain ⟨q1, q2, e, hI2⟩ := hp T hI (X.2 (i + 1).toNatClampNeg) (X.2 (i + 2).toNatClampNeg) (X.2 (i + 3).toNatClampNeg)
  refine ⟨_, hI2, fun v T2 k => ?_⟩
  refine r_p (pc2 := 808) dL_law_807 rfl rfl ?_
  refine r_p (pc2 := 809) dL_law_808 rfl rfl ?_
  refine r_p (pc2 := 810) dL_law_809 rfl rfl ?_
  refine r_ci (x := 1) dL_law_810 rfl ?_
  refine r_p (pc2 := 812) dL_law_811 rfl rfl ?_
  refine r_xa dL_law_812 h1 ?_
  refine r_p (pc2 := 814) dL_law_813 rfl rfl ?_
  refine r_p (pc2 := 815) dL_law_814 rfl rfl ?_
  refine r_ci (x := 2) dL_law_815 rfl ?_
  refine r_p (pc2 := 817) dL_law_816 rfl rfl ?_
  refine r_xa dL_law_817 h2 ?_
  refine r_p (pc2 := 819) dL_law_818 rfl rfl ?_
  refine r_p (pc2 := 820) dL_law_819 rfl rfl ?_
  refine r_ci (x := 3) dL_law_820 rfl ?_
  refine r_p (pc2 := 822) dL_law_821 rfl rfl ?_
  refine r_xa dL_law_822 h3 ?_
  refine r_cv (d1 := 12) dL_law_823 cvL_97 rfl rfl (show sh 0 = .inr 11 from rfl) rfl (Nat.le_of_ble_eq_true rfl) (Nat.le_of_ble_eq_true rfl) (Nat.le_of_ble_eq_true rfl) (c_x_dinners (X.2 (i + 1).toNatClampNeg) (X.2 (i + 2).toNatClampNeg) (X.2 (i + 3).toNatClampNeg) q1) ?_
  refine r_p (pc2 := 827) dL_law_826 rfl rfl ?_
  refine r_p (pc2 := 828) dL_law_827 rfl rfl ?_
  refine r_p (pc2 := 829) dL_law_828 rfl rfl ?_
  refine r_ci (x := 1) dL_law_829 rfl ?_
  refine r_p (pc2 := 831) dL_law_830 rfl rfl ?_
  refine r_xa dL_law_831 h1 ?_
  refine r_p (pc2 := 833) dL_law_832 rfl rfl ?_
  refine r_p (pc2 := 834) dL_law_833 rfl rfl ?_
  refine r_ci (x := 2) dL_law_834 rfl ?_
  refine r_p (pc2 := 836) dL_law_835 rfl rfl ?_
  refine r_xa dL_law_836 h2 ?_
  refine r_p (pc2 := 838) dL_law_837 rfl rfl ?_
  refine r_p (pc2 := 839) dL_law_838 rfl rfl ?_
  refine r_ci (x := 3) dL_law_839 rfl ?_
  refine r_p (pc2 := 841) dL_law_840 rfl rfl ?_
  refine r_xa dL_law_841 h3 ?_
  refine r_cv (d1 := 7) dL_law_842 cvL_100 rfl rfl (show sh 571 = .inr 12 from rfl) rfl (Nat.le_of_ble_eq_true rfl) (Nat.le_of_ble_eq_true rfl) (Nat.le_of_ble_eq_true rfl) (c_m_dinners (X.2 (i + 1).toNatClampNeg) (X.2 (i + 2).toNatClampNeg) (X.2 (i + 3).toNatClampNeg) q2) ?_
  refine r_ceq dL_law_845 rfl (fun _ => ?_) (fun c => absurd e c)
  exact k
def P_more (I : St → Prop) : Prop := ∀ T, I T → ∀ (p0 : Int32), ok_x_more T p0 ∧ ok_m_more (x_x_more T p0).2 p0 ∧ (x_x_more T p0).1 = (x_m_more (x_x_more T p0).2 p0).1 ∧ I ((x_m_more (x_x_more T p0).2 p0).2)
theorem e_more {X : Nat × (Nat → Int32)} {I : St → Prop} {T : St} {i : Int32} (hp : P_more I) (hI : I T) (h1 : vp_in (i + 1) X.1) : ∃ T3, I T3 ∧ ∀ (v : Option Value) (T2 : St), tR X 60 mx_law 1209 [some (.ref (mx_B + 100)), some (.ref (0 : Nat)), some (.ref (571 : Nat)), some (.int i)] [] T3 v T2 → tR X 60 mx_law 850 [some (.ref (mx_B + 100)), some (.ref (0 : Nat)), some (.ref (571 : Nat)), some (.int i)] [] T v T2 := by
  obtain ⟨q1, q2, e, hI2⟩ := hp T hI (X.2 (i + 1).toNatClampNeg)
  refine ⟨_, hI2, fun v T2 k => ?_⟩
  refine r_p (pc2 := 851) dL_law_850 rfl rfl ?_
  refine r_p (pc2 := 852) dL_law_851 rfl rfl ?_
  refine r_p (pc2 := 853) dL_law_852 rfl rfl ?_
  refine r_ci (x := 1) dL_law_853 rfl ?_
  refine r_p (pc2 := 855) dL_law_854 rfl rfl ?_
  refine r_xa dL_law_855 h1 ?_
  refine r_cv (d1 := 12) dL_law_856 cvL_101 rfl rfl (show sh 0 = .inr 11 from rfl) rfl (Nat.le_of_ble_eq_true rfl) (Nat.le_of_ble_eq_true rfl) (Nat.le_of_ble_eq_true rfl) (c_x_more (X.2 (i + 1).toNatClampNeg) q1) ?_
  refine r_p (pc2 := 860) dL_law_859 rfl rfl ?_
  refine r_p (pc2 := 861) dL_law_860 rfl rfl ?_
  refine r_p (pc2 := 862) dL_law_861 rfl rfl ?_
  refine r_ci (x := 1) dL_law_862 rfl ?_
  refine r_p (pc2 := 864) dL_law_863 rfl rfl ?_
  refine r_xa dL_law_864 h1 ?_
  refine r_cv (d1 := 7) dL_law_865 cvL_104 rfl rfl (show sh 571 = .inr 12 from rfl) rfl (Nat.le_of_ble_eq_true rfl) (Nat.le_of_ble_eq_true rfl) (Nat.le_of_ble_eq_true rfl) (c_m_more (X.2 (i + 1).toNatClampNeg) q2) ?_
  refine r_ceq dL_law_868 rfl (fun _ => ?_) (fun c => absurd e c)
  exact k
def P_mend (I : St → Prop) : Prop := ∀ T, I T → ∀ (p0 : Int32) (p1 : Int32), ok_x_mend T p0 p1 ∧ ok_m_mend (x_x_mend T p0 p1).2 p0 p1 ∧ (x_x_mend T p0 p1).1 = (x_m_mend (x_x_mend T p0 p1).2 p0 p1).1 ∧ I ((x_m_mend (x_x_mend T p0 p1).2 p0 p1).2)
theorem e_mend {X : Nat × (Nat → Int32)} {I : St → Prop} {T : St} {i : Int32} (hp : P_mend I) (hI : I T) (h1 : vp_in (i + 1) X.1) (h2 : vp_in (i + 2) X.1) : ∃ T3, I T3 ∧ ∀ (v : Option Value) (T2 : St), tR X 60 mx_law 1209 [some (.ref (mx_B + 100)), some (.ref (0 : Nat)), some (.ref (571 : Nat)), some (.int i)] [] T3 v T2 → tR X 60 mx_law 873 [some (.ref (mx_B + 100)), some (.ref (0 : Nat)), some (.ref (571 : Nat)), some (.int i)] [] T v T2 := by
  obtain ⟨q1, q2, e, hI2⟩ := hp T hI (X.2 (i + 1).toNatClampNeg) (X.2 (i + 2).toNatClampNeg)
  refine ⟨_, hI2, fun v T2 k => ?_⟩
  refine r_p (pc2 := 874) dL_law_873 rfl rfl ?_
  refine r_p (pc2 := 875) dL_law_874 rfl rfl ?_
  refine r_p (pc2 := 876) dL_law_875 rfl rfl ?_
  refine r_ci (x := 1) dL_law_876 rfl ?_
  refine r_p (pc2 := 878) dL_law_877 rfl rfl ?_
  refine r_xa dL_law_878 h1 ?_
  refine r_p (pc2 := 880) dL_law_879 rfl rfl ?_
  refine r_p (pc2 := 881) dL_law_880 rfl rfl ?_
  refine r_ci (x := 2) dL_law_881 rfl ?_
  refine r_p (pc2 := 883) dL_law_882 rfl rfl ?_
  refine r_xa dL_law_883 h2 ?_
  refine r_cv (d1 := 12) dL_law_884 cvL_105 rfl rfl (show sh 0 = .inr 11 from rfl) rfl (Nat.le_of_ble_eq_true rfl) (Nat.le_of_ble_eq_true rfl) (Nat.le_of_ble_eq_true rfl) (c_x_mend (X.2 (i + 1).toNatClampNeg) (X.2 (i + 2).toNatClampNeg) q1) ?_
  refine r_p (pc2 := 888) dL_law_887 rfl rfl ?_
  refine r_p (pc2 := 889) dL_law_888 rfl rfl ?_
  refine r_p (pc2 := 890) dL_law_889 rfl rfl ?_
  refine r_ci (x := 1) dL_law_890 rfl ?_
  refine r_p (pc2 := 892) dL_law_891 rfl rfl ?_
  refine r_xa dL_law_892 h1 ?_
  refine r_p (pc2 := 894) dL_law_893 rfl rfl ?_
  refine r_p (pc2 := 895) dL_law_894 rfl rfl ?_
  refine r_ci (x := 2) dL_law_895 rfl ?_
  refine r_p (pc2 := 897) dL_law_896 rfl rfl ?_
  refine r_xa dL_law_897 h2 ?_
  refine r_cv (d1 := 7) dL_law_898 cvL_108 rfl rfl (show sh 571 = .inr 12 from rfl) rfl (Nat.le_of_ble_eq_true rfl) (Nat.le_of_ble_eq_true rfl) (Nat.le_of_ble_eq_true rfl) (c_m_mend (X.2 (i + 1).toNatClampNeg) (X.2 (i + 2).toNatClampNeg) q2) ?_
  refine r_ceq dL_law_901 rfl (fun _ => ?_) (fun c => absurd e c)
  exact k
def P_slack (I : St → Prop) : Prop := ∀ T, I T → ∀ (p0 : Int32) (p1 : Int32), ok_x_slack T p0 p1 ∧ ok_m_slack (x_x_slack T p0 p1).2 p0 p1 ∧ (x_x_slack T p0 p1).1 = (x_m_slack (x_x_slack T p0 p1).2 p0 p1).1 ∧ I ((x_m_slack (x_x_slack T p0 p1).2 p0 p1).2)
theorem e_slack {X : Nat × (Nat → Int32)} {I : St → Prop} {T : St} {i : Int32} (hp : P_slack I) (hI : I T) (h1 : vp_in (i + 1) X.1) (h2 : vp_in (i + 2) X.1) : ∃ T3, I T3 ∧ ∀ (v : Option Value) (T2 : St), tR X 60 mx_law 1209 [some (.ref (mx_B + 100)), some (.ref (0 : Nat)), some (.ref (571 : Nat)), some (.int i)] [] T3 v T2 → tR X 60 mx_law 906 [some (.ref (mx_B + 100)), some (.ref (0 : Nat)), some (.ref (571 : Nat)), some (.int i)] [] T v T2 := by
  obtain ⟨q1, q2, e, hI2⟩ := hp T hI (X.2 (i + 1).toNatClampNeg) (X.2 (i + 2).toNatClampNeg)
  refine ⟨_, hI2, fun v T2 k => ?_⟩
  refine r_p (pc2 := 907) dL_law_906 rfl rfl ?_
  refine r_p (pc2 := 908) dL_law_907 rfl rfl ?_
  refine r_p (pc2 := 909) dL_law_908 rfl rfl ?_
  refine r_ci (x := 1) dL_law_909 rfl ?_
  refine r_p (pc2 := 911) dL_law_910 rfl rfl ?_
  refine r_xa dL_law_911 h1 ?_
  refine r_p (pc2 := 913) dL_law_912 rfl rfl ?_
  refine r_p (pc2 := 914) dL_law_913 rfl rfl ?_
  refine r_ci (x := 2) dL_law_914 rfl ?_
  refine r_p (pc2 := 916) dL_law_915 rfl rfl ?_
  refine r_xa dL_law_916 h2 ?_
  refine r_cv (d1 := 12) dL_law_917 cvL_109 rfl rfl (show sh 0 = .inr 11 from rfl) rfl (Nat.le_of_ble_eq_true rfl) (Nat.le_of_ble_eq_true rfl) (Nat.le_of_ble_eq_true rfl) (c_x_slack (X.2 (i + 1).toNatClampNeg) (X.2 (i + 2).toNatClampNeg) q1) ?_
  refine r_p (pc2 := 921) dL_law_920 rfl rfl ?_
  refine r_p (pc2 := 922) dL_law_921 rfl rfl ?_
  refine r_p (pc2 := 923) dL_law_922 rfl rfl ?_
  refine r_ci (x := 1) dL_law_923 rfl ?_
  refine r_p (pc2 := 925) dL_law_924 rfl rfl ?_
  refine r_xa dL_law_925 h1 ?_
  refine r_p (pc2 := 927) dL_law_926 rfl rfl ?_
  refine r_p (pc2 := 928) dL_law_927 rfl rfl ?_
  refine r_ci (x := 2) dL_law_928 rfl ?_
  refine r_p (pc2 := 930) dL_law_929 rfl rfl ?_
  refine r_xa dL_law_930 h2 ?_
  refine r_cv (d1 := 7) dL_law_931 cvL_112 rfl rfl (show sh 571 = .inr 12 from rfl) rfl (Nat.le_of_ble_eq_true rfl) (Nat.le_of_ble_eq_true rfl) (Nat.le_of_ble_eq_true rfl) (c_m_slack (X.2 (i + 1).toNatClampNeg) (X.2 (i + 2).toNatClampNeg) q2) ?_
  refine r_ceq dL_law_934 rfl (fun _ => ?_) (fun c => absurd e c)
  exact k
def P_bears (I : St → Prop) : Prop := ∀ T, I T → ∀ (p0 : Int32) (p1 : Int32) (p2 : Int32), ok_x_bears T p0 p1 p2 ∧ ok_m_bears (x_x_bears T p0 p1 p2).2 p0 p1 p2 ∧ (x_x_bears T p0 p1 p2).1 = (x_m_bears (x_x_bears T p0 p1 p2).2 p0 p1 p2).1 ∧ I ((x_m_bears (x_x_bears T p0 p1 p2).2 p0 p1 p2).2)
theorem e_bears {X : Nat × (Nat → Int32)} {I : St → Prop} {T : St} {i : Int32} (hp : P_bears I) (hI : I T) (h1 : vp_in (i + 1) X.1) (h2 : vp_in (i + 2) X.1) (h3 : vp_in (i + 3) X.1) : ∃ T3, I T3 ∧ ∀ (v : Option Value) (T2 : St), tR X 60 mx_law 1209 [some (.ref (mx_B + 100)), some (.ref (0 : Nat)), some (.ref (571 : Nat)), some (.int i)] [] T3 v T2 → tR X 60 mx_law 939 [some (.ref (mx_B + 100)), some (.ref (0 : Nat)), some (.ref (571 : Nat)), some (.int i)] [] T v T2 := by
  obtain ⟨q1, q2, e, hI2⟩ := hp T hI (X.2 (i + 1).toNatClampNeg) (X.2 (i + 2).toNatClampNeg) (X.2 (i + 3).toNatClampNeg)
  refine ⟨_, hI2, fun v T2 k => ?_⟩
  refine r_p (pc2 := 940) dL_law_939 rfl rfl ?_
  refine r_p (pc2 := 941) dL_law_940 rfl rfl ?_
  refine r_p (pc2 := 942) dL_law_941 rfl rfl ?_
  refine r_ci (x := 1) dL_law_942 rfl ?_
  refine r_p (pc2 := 944) dL_law_943 rfl rfl ?_
  refine r_xa dL_law_944 h1 ?_
  refine r_p (pc2 := 946) dL_law_945 rfl rfl ?_
  refine r_p (pc2 := 947) dL_law_946 rfl rfl ?_
  refine r_ci (x := 2) dL_law_947 rfl ?_
  refine r_p (pc2 := 949) dL_law_948 rfl rfl ?_
  refine r_xa dL_law_949 h2 ?_
  refine r_p (pc2 := 951) dL_law_950 rfl rfl ?_
  refine r_p (pc2 := 952) dL_law_951 rfl rfl ?_
  refine r_ci (x := 3) dL_law_952 rfl ?_
  refine r_p (pc2 := 954) dL_law_953 rfl rfl ?_
  refine r_xa dL_law_954 h3 ?_
  refine r_cv (d1 := 12) dL_law_955 cvL_113 rfl rfl (show sh 0 = .inr 11 from rfl) rfl (Nat.le_of_ble_eq_true rfl) (Nat.le_of_ble_eq_true rfl) (Nat.le_of_ble_eq_true rfl) (c_x_bears (X.2 (i + 1).toNatClampNeg) (X.2 (i + 2).toNatClampNeg) (X.2 (i + 3).toNatClampNeg) q1) ?_
  refine r_p (pc2 := 959) dL_law_958 rfl rfl ?_
  refine r_p (pc2 := 960) dL_law_959 rfl rfl ?_
  refine r_p (pc2 := 961) dL_law_960 rfl rfl ?_
  refine r_ci (x := 1) dL_law_961 rfl ?_
  refine r_p (pc2 := 963) dL_law_962 rfl rfl ?_
  refine r_xa dL_law_963 h1 ?_
  refine r_p (pc2 := 965) dL_law_964 rfl rfl ?_
  refine r_p (pc2 := 966) dL_law_965 rfl rfl ?_
  refine r_ci (x := 2) dL_law_966 rfl ?_
  refine r_p (pc2 := 968) dL_law_967 rfl rfl ?_
  refine r_xa dL_law_968 h2 ?_
  refine r_p (pc2 := 970) dL_law_969 rfl rfl ?_
  refine r_p (pc2 := 971) dL_law_970 rfl rfl ?_
  refine r_ci (x := 3) dL_law_971 rfl ?_
  refine r_p (pc2 := 973) dL_law_972 rfl rfl ?_
  refine r_xa dL_law_973 h3 ?_
  refine r_cv (d1 := 7) dL_law_974 cvL_116 rfl rfl (show sh 571 = .inr 12 from rfl) rfl (Nat.le_of_ble_eq_true rfl) (Nat.le_of_ble_eq_true rfl) (Nat.le_of_ble_eq_true rfl) (c_m_bears (X.2 (i + 1).toNatClampNeg) (X.2 (i + 2).toNatClampNeg) (X.2 (i + 3).toNatClampNeg) q2) ?_
  refine r_ceq dL_law_977 rfl (fun _ => ?_) (fun c => absurd e c)
  exact k
def P_mind (I : St → Prop) : Prop := ∀ T, I T → ∀ (p0 : Int32) (p1 : Int32), ok_x_mind T p0 p1 ∧ ok_m_mind (x_x_mind T p0 p1).2 p0 p1 ∧ (x_x_mind T p0 p1).1 = (x_m_mind (x_x_mind T p0 p1).2 p0 p1).1 ∧ I ((x_m_mind (x_x_mind T p0 p1).2 p0 p1).2)
theorem e_mind {X : Nat × (Nat → Int32)} {I : St → Prop} {T : St} {i : Int32} (hp : P_mind I) (hI : I T) (h1 : vp_in (i + 1) X.1) (h2 : vp_in (i + 2) X.1) : ∃ T3, I T3 ∧ ∀ (v : Option Value) (T2 : St), tR X 60 mx_law 1209 [some (.ref (mx_B + 100)), some (.ref (0 : Nat)), some (.ref (571 : Nat)), some (.int i)] [] T3 v T2 → tR X 60 mx_law 982 [some (.ref (mx_B + 100)), some (.ref (0 : Nat)), some (.ref (571 : Nat)), some (.int i)] [] T v T2 := by
  obtain ⟨q1, q2, e, hI2⟩ := hp T hI (X.2 (i + 1).toNatClampNeg) (X.2 (i + 2).toNatClampNeg)
  refine ⟨_, hI2, fun v T2 k => ?_⟩
  refine r_p (pc2 := 983) dL_law_982 rfl rfl ?_
  refine r_p (pc2 := 984) dL_law_983 rfl rfl ?_
  refine r_p (pc2 := 985) dL_law_984 rfl rfl ?_
  refine r_ci (x := 1) dL_law_985 rfl ?_
  refine r_p (pc2 := 987) dL_law_986 rfl rfl ?_
  refine r_xa dL_law_987 h1 ?_
  refine r_p (pc2 := 989) dL_law_988 rfl rfl ?_
  refine r_p (pc2 := 990) dL_law_989 rfl rfl ?_
  refine r_ci (x := 2) dL_law_990 rfl ?_
  refine r_p (pc2 := 992) dL_law_991 rfl rfl ?_
  refine r_xa dL_law_992 h2 ?_
  refine r_cv (d1 := 12) dL_law_993 cvL_117 rfl rfl (show sh 0 = .inr 11 from rfl) rfl (Nat.le_of_ble_eq_true rfl) (Nat.le_of_ble_eq_true rfl) (Nat.le_of_ble_eq_true rfl) (c_x_mind (X.2 (i + 1).toNatClampNeg) (X.2 (i + 2).toNatClampNeg) q1) ?_
  refine r_p (pc2 := 997) dL_law_996 rfl rfl ?_
  refine r_p (pc2 := 998) dL_law_997 rfl rfl ?_
  refine r_p (pc2 := 999) dL_law_998 rfl rfl ?_
  refine r_ci (x := 1) dL_law_999 rfl ?_
  refine r_p (pc2 := 1001) dL_law_1000 rfl rfl ?_
  refine r_xa dL_law_1001 h1 ?_
  refine r_p (pc2 := 1003) dL_law_1002 rfl rfl ?_
  refine r_p (pc2 := 1004) dL_law_1003 rfl rfl ?_
  refine r_ci (x := 2) dL_law_1004 rfl ?_
  refine r_p (pc2 := 1006) dL_law_1005 rfl rfl ?_
  refine r_xa dL_law_1006 h2 ?_
  refine r_cv (d1 := 7) dL_law_1007 cvL_120 rfl rfl (show sh 571 = .inr 12 from rfl) rfl (Nat.le_of_ble_eq_true rfl) (Nat.le_of_ble_eq_true rfl) (Nat.le_of_ble_eq_true rfl) (c_m_mind (X.2 (i + 1).toNatClampNeg) (X.2 (i + 2).toNatClampNeg) q2) ?_
  refine r_ceq dL_law_1010 rfl (fun _ => ?_) (fun c => absurd e c)
  exact k
def P_image (I : St → Prop) : Prop := ∀ T, I T → ∀ (p0 : Int32), ok_x_image T p0 ∧ ok_m_image (x_x_image T p0).2 p0 ∧ (x_x_image T p0).1 = (x_m_image (x_x_image T p0).2 p0).1 ∧ I ((x_m_image (x_x_image T p0).2 p0).2)
theorem e_image {X : Nat × (Nat → Int32)} {I : St → Prop} {T : St} {i : Int32} (hp : P_image I) (hI : I T) (h1 : vp_in (i + 1) X.1) : ∃ T3, I T3 ∧ ∀ (v : Option Value) (T2 : St), tR X 60 mx_law 1209 [some (.ref (mx_B + 100)), some (.ref (0 : Nat)), some (.ref (571 : Nat)), some (.int i)] [] T3 v T2 → tR X 60 mx_law 1015 [some (.ref (mx_B + 100)), some (.ref (0 : Nat)), some (.ref (571 : Nat)), some (.int i)] [] T v T2 := by
  obtain ⟨q1, q2, e, hI2⟩ := hp T hI (X.2 (i + 1).toNatClampNeg)
  refine ⟨_, hI2, fun v T2 k => ?_⟩
  refine r_p (pc2 := 1016) dL_law_1015 rfl rfl ?_
  refine r_p (pc2 := 1017) dL_law_1016 rfl rfl ?_
  refine r_p (pc2 := 1018) dL_law_1017 rfl rfl ?_
  refine r_ci (x := 1) dL_law_1018 rfl ?_
  refine r_p (pc2 := 1020) dL_law_1019 rfl rfl ?_
  refine r_xa dL_law_1020 h1 ?_
  refine r_cv (d1 := 3) dL_law_1021 cvL_121 rfl rfl (show sh 0 = .inr 11 from rfl) rfl (Nat.le_of_ble_eq_true rfl) (Nat.le_of_ble_eq_true rfl) (Nat.le_of_ble_eq_true rfl) (c_x_image (X.2 (i + 1).toNatClampNeg) q1) ?_
  refine r_p (pc2 := 1025) dL_law_1024 rfl rfl ?_
  refine r_p (pc2 := 1026) dL_law_1025 rfl rfl ?_
  refine r_p (pc2 := 1027) dL_law_1026 rfl rfl ?_
  refine r_ci (x := 1) dL_law_1027 rfl ?_
  refine r_p (pc2 := 1029) dL_law_1028 rfl rfl ?_
  refine r_xa dL_law_1029 h1 ?_
  refine r_cv (d1 := 2) dL_law_1030 cvL_124 rfl rfl (show sh 571 = .inr 12 from rfl) rfl (Nat.le_of_ble_eq_true rfl) (Nat.le_of_ble_eq_true rfl) (Nat.le_of_ble_eq_true rfl) (c_m_image (X.2 (i + 1).toNatClampNeg) q2) ?_
  refine r_ceq dL_law_1033 rfl (fun _ => ?_) (fun c => absurd e c)
  exact k
def P_restore (I : St → Prop) : Prop := ∀ T, I T → ∀ (p0 : Int32), ok_x_restore T p0 ∧ ok_m_restore (x_x_restore T p0).2 p0 ∧ (x_x_restore T p0).1 = (x_m_restore (x_x_restore T p0).2 p0).1 ∧ I ((x_m_restore (x_x_restore T p0).2 p0).2)
theorem e_restore {X : Nat × (Nat → Int32)} {I : St → Prop} {T : St} {i : Int32} (hp : P_restore I) (hI : I T) (h1 : vp_in (i + 1) X.1) : ∃ T3, I T3 ∧ ∀ (v : Option Value) (T2 : St), tR X 60 mx_law 1209 [some (.ref (mx_B + 100)), some (.ref (0 : Nat)), some (.ref (571 : Nat)), some (.int i)] [] T3 v T2 → tR X 60 mx_law 1038 [some (.ref (mx_B + 100)), some (.ref (0 : Nat)), some (.ref (571 : Nat)), some (.int i)] [] T v T2 := by
  obtain ⟨q1, q2, e, hI2⟩ := hp T hI (X.2 (i + 1).toNatClampNeg)
  refine ⟨_, hI2, fun v T2 k => ?_⟩
  refine r_p (pc2 := 1039) dL_law_1038 rfl rfl ?_
  refine r_p (pc2 := 1040) dL_law_1039 rfl rfl ?_
  refine r_p (pc2 := 1041) dL_law_1040 rfl rfl ?_
  refine r_ci (x := 1) dL_law_1041 rfl ?_
  refine r_p (pc2 := 1043) dL_law_1042 rfl rfl ?_
  refine r_xa dL_law_1043 h1 ?_
  refine r_cv (d1 := 5) dL_law_1044 cvL_125 rfl rfl (show sh 0 = .inr 11 from rfl) rfl (Nat.le_of_ble_eq_true rfl) (Nat.le_of_ble_eq_true rfl) (Nat.le_of_ble_eq_true rfl) (c_x_restore (X.2 (i + 1).toNatClampNeg) q1) ?_
  refine r_p (pc2 := 1048) dL_law_1047 rfl rfl ?_
  refine r_p (pc2 := 1049) dL_law_1048 rfl rfl ?_
  refine r_p (pc2 := 1050) dL_law_1049 rfl rfl ?_
  refine r_ci (x := 1) dL_law_1050 rfl ?_
  refine r_p (pc2 := 1052) dL_law_1051 rfl rfl ?_
  refine r_xa dL_law_1052 h1 ?_
  refine r_cv (d1 := 2) dL_law_1053 cvL_128 rfl rfl (show sh 571 = .inr 12 from rfl) rfl (Nat.le_of_ble_eq_true rfl) (Nat.le_of_ble_eq_true rfl) (Nat.le_of_ble_eq_true rfl) (c_m_restore (X.2 (i + 1).toNatClampNeg) q2) ?_
  refine r_ceq dL_law_1056 rfl (fun _ => ?_) (fun c => absurd e c)
  exact k
def P_kind (I : St → Prop) : Prop := ∀ T, I T → ∀ (p0 : Int32), ok_x_kind T p0 ∧ ok_m_kind T p0 ∧ (x_x_kind T p0) = (x_m_kind T p0).1 ∧ I ((x_m_kind T p0).2)
theorem e_kind {X : Nat × (Nat → Int32)} {I : St → Prop} {T : St} {i : Int32} (hp : P_kind I) (hI : I T) (h1 : vp_in (i + 1) X.1) : ∃ T3, I T3 ∧ ∀ (v : Option Value) (T2 : St), tR X 60 mx_law 1209 [some (.ref (mx_B + 100)), some (.ref (0 : Nat)), some (.ref (571 : Nat)), some (.int i)] [] T3 v T2 → tR X 60 mx_law 1061 [some (.ref (mx_B + 100)), some (.ref (0 : Nat)), some (.ref (571 : Nat)), some (.int i)] [] T v T2 := by
  obtain ⟨q1, q2, e, hI2⟩ := hp T hI (X.2 (i + 1).toNatClampNeg)
  refine ⟨_, hI2, fun v T2 k => ?_⟩
  refine r_p (pc2 := 1062) dL_law_1061 rfl rfl ?_
  refine r_p (pc2 := 1063) dL_law_1062 rfl rfl ?_
  refine r_p (pc2 := 1064) dL_law_1063 rfl rfl ?_
  refine r_ci (x := 1) dL_law_1064 rfl ?_
  refine r_p (pc2 := 1066) dL_law_1065 rfl rfl ?_
  refine r_xa dL_law_1066 h1 ?_
  refine r_cv (d1 := 2) dL_law_1067 cvL_129 rfl rfl (show sh 0 = .inr 11 from rfl) rfl (Nat.le_of_ble_eq_true rfl) (Nat.le_of_ble_eq_true rfl) (Nat.le_of_ble_eq_true rfl) (c_x_kind (X.2 (i + 1).toNatClampNeg) q1) ?_
  refine r_p (pc2 := 1071) dL_law_1070 rfl rfl ?_
  refine r_p (pc2 := 1072) dL_law_1071 rfl rfl ?_
  refine r_p (pc2 := 1073) dL_law_1072 rfl rfl ?_
  refine r_ci (x := 1) dL_law_1073 rfl ?_
  refine r_p (pc2 := 1075) dL_law_1074 rfl rfl ?_
  refine r_xa dL_law_1075 h1 ?_
  refine r_cv (d1 := 3) dL_law_1076 cvL_132 rfl rfl (show sh 571 = .inr 12 from rfl) rfl (Nat.le_of_ble_eq_true rfl) (Nat.le_of_ble_eq_true rfl) (Nat.le_of_ble_eq_true rfl) (c_m_kind (X.2 (i + 1).toNatClampNeg) q2) ?_
  refine r_ceq dL_law_1079 rfl (fun _ => ?_) (fun c => absurd e c)
  exact k
def P_as (I : St → Prop) : Prop := ∀ T, I T → ∀ (p0 : Int32) (p1 : Int32), ok_x_as T p0 p1 ∧ ok_m_as (x_x_as T p0 p1).2 p0 p1 ∧ (x_x_as T p0 p1).1 = (x_m_as (x_x_as T p0 p1).2 p0 p1).1 ∧ I ((x_m_as (x_x_as T p0 p1).2 p0 p1).2)
theorem e_as {X : Nat × (Nat → Int32)} {I : St → Prop} {T : St} {i : Int32} (hp : P_as I) (hI : I T) (h1 : vp_in (i + 1) X.1) (h2 : vp_in (i + 2) X.1) : ∃ T3, I T3 ∧ ∀ (v : Option Value) (T2 : St), tR X 60 mx_law 1209 [some (.ref (mx_B + 100)), some (.ref (0 : Nat)), some (.ref (571 : Nat)), some (.int i)] [] T3 v T2 → tR X 60 mx_law 1084 [some (.ref (mx_B + 100)), some (.ref (0 : Nat)), some (.ref (571 : Nat)), some (.int i)] [] T v T2 := by
  obtain ⟨q1, q2, e, hI2⟩ := hp T hI (X.2 (i + 1).toNatClampNeg) (X.2 (i + 2).toNatClampNeg)
  refine ⟨_, hI2, fun v T2 k => ?_⟩
  refine r_p (pc2 := 1085) dL_law_1084 rfl rfl ?_
  refine r_p (pc2 := 1086) dL_law_1085 rfl rfl ?_
  refine r_p (pc2 := 1087) dL_law_1086 rfl rfl ?_
  refine r_ci (x := 1) dL_law_1087 rfl ?_
  refine r_p (pc2 := 1089) dL_law_1088 rfl rfl ?_
  refine r_xa dL_law_1089 h1 ?_
  refine r_p (pc2 := 1091) dL_law_1090 rfl rfl ?_
  refine r_p (pc2 := 1092) dL_law_1091 rfl rfl ?_
  refine r_ci (x := 2) dL_law_1092 rfl ?_
  refine r_p (pc2 := 1094) dL_law_1093 rfl rfl ?_
  refine r_xa dL_law_1094 h2 ?_
  refine r_cv (d1 := 2) dL_law_1095 cvL_133 rfl rfl (show sh 0 = .inr 11 from rfl) rfl (Nat.le_of_ble_eq_true rfl) (Nat.le_of_ble_eq_true rfl) (Nat.le_of_ble_eq_true rfl) (c_x_as (X.2 (i + 1).toNatClampNeg) (X.2 (i + 2).toNatClampNeg) q1) ?_
  refine r_p (pc2 := 1099) dL_law_1098 rfl rfl ?_
  refine r_p (pc2 := 1100) dL_law_1099 rfl rfl ?_
  refine r_p (pc2 := 1101) dL_law_1100 rfl rfl ?_
  refine r_ci (x := 1) dL_law_1101 rfl ?_
  refine r_p (pc2 := 1103) dL_law_1102 rfl rfl ?_
  refine r_xa dL_law_1103 h1 ?_
  refine r_p (pc2 := 1105) dL_law_1104 rfl rfl ?_
  refine r_p (pc2 := 1106) dL_law_1105 rfl rfl ?_
  refine r_ci (x := 2) dL_law_1106 rfl ?_
  refine r_p (pc2 := 1108) dL_law_1107 rfl rfl ?_
  refine r_xa dL_law_1108 h2 ?_
  refine r_cv (d1 := 3) dL_law_1109 cvL_136 rfl rfl (show sh 571 = .inr 12 from rfl) rfl (Nat.le_of_ble_eq_true rfl) (Nat.le_of_ble_eq_true rfl) (Nat.le_of_ble_eq_true rfl) (c_m_as (X.2 (i + 1).toNatClampNeg) (X.2 (i + 2).toNatClampNeg) q2) ?_
  refine r_ceq dL_law_1112 rfl (fun _ => ?_) (fun c => absurd e c)
  exact k
def P_ask (I : St → Prop) : Prop := ∀ T, I T → ∀ (p0 : Int32) (p1 : Int32), ok_x_ask T p0 p1 ∧ ok_m_ask (x_x_ask T p0 p1).2 p0 p1 ∧ (x_x_ask T p0 p1).1 = (x_m_ask (x_x_ask T p0 p1).2 p0 p1).1 ∧ I ((x_m_ask (x_x_ask T p0 p1).2 p0 p1).2)
theorem e_ask {X : Nat × (Nat → Int32)} {I : St → Prop} {T : St} {i : Int32} (hp : P_ask I) (hI : I T) (h1 : vp_in (i + 1) X.1) (h2 : vp_in (i + 2) X.1) : ∃ T3, I T3 ∧ ∀ (v : Option Value) (T2 : St), tR X 60 mx_law 1209 [some (.ref (mx_B + 100)), some (.ref (0 : Nat)), some (.ref (571 : Nat)), some (.int i)] [] T3 v T2 → tR X 60 mx_law 1117 [some (.ref (mx_B + 100)), some (.ref (0 : Nat)), some (.ref (571 : Nat)), some (.int i)] [] T v T2 := by
  obtain ⟨q1, q2, e, hI2⟩ := hp T hI (X.2 (i + 1).toNatClampNeg) (X.2 (i + 2).toNatClampNeg)
  refine ⟨_, hI2, fun v T2 k => ?_⟩
  refine r_p (pc2 := 1118) dL_law_1117 rfl rfl ?_
  refine r_p (pc2 := 1119) dL_law_1118 rfl rfl ?_
  refine r_p (pc2 := 1120) dL_law_1119 rfl rfl ?_
  refine r_ci (x := 1) dL_law_1120 rfl ?_
  refine r_p (pc2 := 1122) dL_law_1121 rfl rfl ?_
  refine r_xa dL_law_1122 h1 ?_
  refine r_p (pc2 := 1124) dL_law_1123 rfl rfl ?_
  refine r_p (pc2 := 1125) dL_law_1124 rfl rfl ?_
  refine r_ci (x := 2) dL_law_1125 rfl ?_
  refine r_p (pc2 := 1127) dL_law_1126 rfl rfl ?_
  refine r_xa dL_law_1127 h2 ?_
  refine r_cv (d1 := 8) dL_law_1128 cvL_137 rfl rfl (show sh 0 = .inr 11 from rfl) rfl (Nat.le_of_ble_eq_true rfl) (Nat.le_of_ble_eq_true rfl) (Nat.le_of_ble_eq_true rfl) (c_x_ask (X.2 (i + 1).toNatClampNeg) (X.2 (i + 2).toNatClampNeg) q1) ?_
  refine r_p (pc2 := 1132) dL_law_1131 rfl rfl ?_
  refine r_p (pc2 := 1133) dL_law_1132 rfl rfl ?_
  refine r_p (pc2 := 1134) dL_law_1133 rfl rfl ?_
  refine r_ci (x := 1) dL_law_1134 rfl ?_
  refine r_p (pc2 := 1136) dL_law_1135 rfl rfl ?_
  refine r_xa dL_law_1136 h1 ?_
  refine r_p (pc2 := 1138) dL_law_1137 rfl rfl ?_
  refine r_p (pc2 := 1139) dL_law_1138 rfl rfl ?_
  refine r_ci (x := 2) dL_law_1139 rfl ?_
  refine r_p (pc2 := 1141) dL_law_1140 rfl rfl ?_
  refine r_xa dL_law_1141 h2 ?_
  refine r_cv (d1 := 4) dL_law_1142 cvL_140 rfl rfl (show sh 571 = .inr 12 from rfl) rfl (Nat.le_of_ble_eq_true rfl) (Nat.le_of_ble_eq_true rfl) (Nat.le_of_ble_eq_true rfl) (c_m_ask (X.2 (i + 1).toNatClampNeg) (X.2 (i + 2).toNatClampNeg) q2) ?_
  refine r_ceq dL_law_1145 rfl (fun _ => ?_) (fun c => absurd e c)
  exact k
def P_trace (I : St → Prop) : Prop := ∀ T, I T → ∀ (p0 : Int32), ok_x_trace T p0 ∧ ok_m_trace T p0 ∧ (x_x_trace T p0) = (x_m_trace T p0).1 ∧ I ((x_m_trace T p0).2)
theorem e_trace {X : Nat × (Nat → Int32)} {I : St → Prop} {T : St} {i : Int32} (hp : P_trace I) (hI : I T) (h1 : vp_in (i + 1) X.1) : ∃ T3, I T3 ∧ ∀ (v : Option Value) (T2 : St), tR X 60 mx_law 1209 [some (.ref (mx_B + 100)), some (.ref (0 : Nat)), some (.ref (571 : Nat)), some (.int i)] [] T3 v T2 → tR X 60 mx_law 1150 [some (.ref (mx_B + 100)), some (.ref (0 : Nat)), some (.ref (571 : Nat)), some (.int i)] [] T v T2 := by
  obtain ⟨q1, q2, e, hI2⟩ := hp T hI (X.2 (i + 1).toNatClampNeg)
  refine ⟨_, hI2, fun v T2 k => ?_⟩
  refine r_p (pc2 := 1151) dL_law_1150 rfl rfl ?_
  refine r_p (pc2 := 1152) dL_law_1151 rfl rfl ?_
  refine r_p (pc2 := 1153) dL_law_1152 rfl rfl ?_
  refine r_ci (x := 1) dL_law_1153 rfl ?_
  refine r_p (pc2 := 1155) dL_law_1154 rfl rfl ?_
  refine r_xa dL_law_1155 h1 ?_
  refine r_cv (d1 := 1) dL_law_1156 cvL_141 rfl rfl (show sh 0 = .inr 11 from rfl) rfl (Nat.le_of_ble_eq_true rfl) (Nat.le_of_ble_eq_true rfl) (Nat.le_of_ble_eq_true rfl) (c_x_trace (X.2 (i + 1).toNatClampNeg) q1) ?_
  refine r_p (pc2 := 1160) dL_law_1159 rfl rfl ?_
  refine r_p (pc2 := 1161) dL_law_1160 rfl rfl ?_
  refine r_p (pc2 := 1162) dL_law_1161 rfl rfl ?_
  refine r_ci (x := 1) dL_law_1162 rfl ?_
  refine r_p (pc2 := 1164) dL_law_1163 rfl rfl ?_
  refine r_xa dL_law_1164 h1 ?_
  refine r_cv (d1 := 2) dL_law_1165 cvL_144 rfl rfl (show sh 571 = .inr 12 from rfl) rfl (Nat.le_of_ble_eq_true rfl) (Nat.le_of_ble_eq_true rfl) (Nat.le_of_ble_eq_true rfl) (c_m_trace (X.2 (i + 1).toNatClampNeg) q2) ?_
  refine r_ceq dL_law_1168 rfl (fun _ => ?_) (fun c => absurd e c)
  exact k
def P_count (I : St → Prop) : Prop := ∀ T, I T → ∀ (p0 : Int32), ok_x_count T p0 ∧ ok_m_count T p0 ∧ (x_x_count T p0) = (x_m_count T p0).1 ∧ I ((x_m_count T p0).2)
theorem e_count {X : Nat × (Nat → Int32)} {I : St → Prop} {T : St} {i : Int32} (hp : P_count I) (hI : I T) (h1 : vp_in (i + 1) X.1) : ∃ T3, I T3 ∧ ∀ (v : Option Value) (T2 : St), tR X 60 mx_law 1209 [some (.ref (mx_B + 100)), some (.ref (0 : Nat)), some (.ref (571 : Nat)), some (.int i)] [] T3 v T2 → tR X 60 mx_law 1173 [some (.ref (mx_B + 100)), some (.ref (0 : Nat)), some (.ref (571 : Nat)), some (.int i)] [] T v T2 := by
  obtain ⟨q1, q2, e, hI2⟩ := hp T hI (X.2 (i + 1).toNatClampNeg)
  refine ⟨_, hI2, fun v T2 k => ?_⟩
  refine r_p (pc2 := 1174) dL_law_1173 rfl rfl ?_
  refine r_p (pc2 := 1175) dL_law_1174 rfl rfl ?_
  refine r_p (pc2 := 1176) dL_law_1175 rfl rfl ?_
  refine r_ci (x := 1) dL_law_1176 rfl ?_
  refine r_p (pc2 := 1178) dL_law_1177 rfl rfl ?_
  refine r_xa dL_law_1178 h1 ?_
  refine r_cv (d1 := 2) dL_law_1179 cvL_145 rfl rfl (show sh 0 = .inr 11 from rfl) rfl (Nat.le_of_ble_eq_true rfl) (Nat.le_of_ble_eq_true rfl) (Nat.le_of_ble_eq_true rfl) (c_x_count (X.2 (i + 1).toNatClampNeg) q1) ?_
  refine r_p (pc2 := 1183) dL_law_1182 rfl rfl ?_
  refine r_p (pc2 := 1184) dL_law_1183 rfl rfl ?_
  refine r_p (pc2 := 1185) dL_law_1184 rfl rfl ?_
  refine r_ci (x := 1) dL_law_1185 rfl ?_
  refine r_p (pc2 := 1187) dL_law_1186 rfl rfl ?_
  refine r_xa dL_law_1187 h1 ?_
  refine r_cv (d1 := 2) dL_law_1188 cvL_148 rfl rfl (show sh 571 = .inr 12 from rfl) rfl (Nat.le_of_ble_eq_true rfl) (Nat.le_of_ble_eq_true rfl) (Nat.le_of_ble_eq_true rfl) (c_m_count (X.2 (i + 1).toNatClampNeg) q2) ?_
  refine r_ceq dL_law_1191 rfl (fun _ => ?_) (fun c => absurd e c)
  exact k
def P_status (I : St → Prop) : Prop := ∀ T, I T → (x_x_status T) = (x_m_status T).1 ∧ I ((x_m_status T).2)
theorem e_status {X : Nat × (Nat → Int32)} {I : St → Prop} {T : St} {i : Int32} (hp : P_status I) (hI : I T)  : ∃ T3, I T3 ∧ ∀ (v : Option Value) (T2 : St), tR X 60 mx_law 1209 [some (.ref (mx_B + 100)), some (.ref (0 : Nat)), some (.ref (571 : Nat)), some (.int i)] [] T3 v T2 → tR X 60 mx_law 1196 [some (.ref (mx_B + 100)), some (.ref (0 : Nat)), some (.ref (571 : Nat)), some (.int i)] [] T v T2 := by
  obtain ⟨e, hI2⟩ := hp T hI 
  refine ⟨_, hI2, fun v T2 k => ?_⟩
  refine r_p (pc2 := 1197) dL_law_1196 rfl rfl ?_
  refine r_cv (d1 := 1) dL_law_1197 cvL_149 rfl rfl (show sh 0 = .inr 11 from rfl) rfl (Nat.le_of_ble_eq_true rfl) (Nat.le_of_ble_eq_true rfl) (Nat.le_of_ble_eq_true rfl) (c_x_status ) ?_
  refine r_p (pc2 := 1201) dL_law_1200 rfl rfl ?_
  refine r_cv (d1 := 1) dL_law_1201 cvL_152 rfl rfl (show sh 571 = .inr 12 from rfl) rfl (Nat.le_of_ble_eq_true rfl) (Nat.le_of_ble_eq_true rfl) (Nat.le_of_ble_eq_true rfl) (c_m_status ) ?_
  refine r_ceq dL_law_1204 rfl (fun _ => ?_) (fun c => absurd e c)
  exact k
def PP (I : St → Prop) : Prop := I T0 ∧ P_sheet I ∧ P_set I ∧ P_copy I ∧ P_drop I ∧ P_feed I ∧ P_book I ∧ P_fault I ∧ P_dish I ∧ P_step I ∧ P_gives I ∧ P_dinner I ∧ P_out I ∧ P_judge I ∧ P_least I ∧ P_begins I ∧ P_seven I ∧ P_earliest I ∧ P_heat I ∧ P_wanted I ∧ P_dinners I ∧ P_more I ∧ P_mend I ∧ P_slack I ∧ P_bears I ∧ P_mind I ∧ P_image I ∧ P_restore I ∧ P_kind I ∧ P_as I ∧ P_ask I ∧ P_trace I ∧ P_count I ∧ P_status I
theorem nI_6 {j : Nat} (hj : j ≤ 100) : (nI (6 * j)).toInt = 6 * (j : Int) := by rw [nI_t (by omega)]; omega
theorem lw_gt {j n : Nat} (hj : j ≤ 100) (hn : n ≤ 384) (h : n < 6 * j + 6) : (Int32.ofNat n - 6) < nI (6 * j) := by
  rw [i_lt, nI_6 hj, Int32.toInt_sub, show (Int32.ofNat n).toInt = (n : Int) from nI_t (by omega), show (6 : Int32).toInt = 6 from rfl, i_bm (by omega) (by omega)]
  omega
theorem lw_ngt {j n : Nat} (hj : j ≤ 100) (hn : n ≤ 384) (h : 6 * j + 6 ≤ n) : ¬ (Int32.ofNat n - 6) < nI (6 * j) := by
  rw [i_lt, nI_6 hj, Int32.toInt_sub, show (Int32.ofNat n).toInt = (n : Int) from nI_t (by omega), show (6 : Int32).toInt = 6 from rfl, i_bm (by omega) (by omega)]
  omega
theorem lw_in {j n k : Nat} {c : Int32} (hc : c.toInt = (k : Int)) (hk : k < 6) (hj : j ≤ 100) (h : 6 * j + 6 ≤ n) : vp_in (nI (6 * j) + c) n := by
  rw [i_in, Int32.toInt_add, nI_6 hj, hc, i_bm (by omega) (by omega)]
  omega
theorem lw_in0 {j n : Nat} (hj : j ≤ 100) (h : 6 * j + 6 ≤ n) : vp_in (nI (6 * j)) n := by
  rw [i_in, nI_6 hj]
  omega
theorem lw_6 (j : Nat) : nI (6 * j) + 6 = nI (6 * (j + 1)) := by
  rw [Nat.mul_succ]
  unfold nI
  exact (Int32.ofNat_add _ _).symm
theorem law_loop {X : Nat × (Nat → Int32)} {I : St → Prop} (hp : PP I) (hX : X.1 ≤ 384) : ∀ (m j : Nat) (T : St), I T → j ≤ 100 → X.1 < 6 * j + 6 + 6 * m → ∃ T2, tR X 60 mx_law 18 [some (.ref (mx_B + 100)), some (.ref (0 : Nat)), some (.ref (571 : Nat)), some (.int (nI (6 * j)))] [] T (some (.int 1)) T2 := by
  intro m
  have fin : ∀ (j : Nat) (T : St), j ≤ 100 → X.1 < 6 * j + 6 → ∃ T2, tR X 60 mx_law 18 [some (.ref (mx_B + 100)), some (.ref (0 : Nat)), some (.ref (571 : Nat)), some (.int (nI (6 * j)))] [] T (some (.int 1)) T2 := by
    intro j T hj h
    refine ⟨T, ?_⟩
    refine r_p (pc2 := 19) dL_law_18 rfl rfl ?_
    refine r_p (pc2 := 20) dL_law_19 rfl rfl ?_
    refine r_xl dL_law_20 ?_
    refine r_cb (x := 6) dL_law_21 rfl ?_
    refine r_p (pc2 := 24) dL_law_23 rfl rfl ?_
    refine r_cgt dL_law_24 rfl (fun _ => ?_) (fun c => absurd (lw_gt hj hX h) c)
    refine r_ci (x := 1) dL_law_1215 rfl ?_
    exact r_ri dL_law_1216 rfl rfl rfl rfl
  induction m with
  | zero => intro j T hI hj h; exact fin j T hj (by omega)
  | succ m ih =>
    intro j T hI hj h
    by_cases q : X.1 < 6 * j + 6
    · exact fin j T hj q
    have nx : ∀ T3, I T3 → ∃ T2, tR X 60 mx_law 1209 [some (.ref (mx_B + 100)), some (.ref (0 : Nat)), some (.ref (571 : Nat)), some (.int (nI (6 * j)))] [] T3 (some (.int 1)) T2 := fun T3 h3 => by
      obtain ⟨T2, h2⟩ := ih (j + 1) T3 h3 (by omega) (by omega)
      refine ⟨T2, ?_⟩
      refine r_inc (L2 := [some (.ref (mx_B + 100)), some (.ref (0 : Nat)), some (.ref (571 : Nat)), some (.int (nI (6 * (j + 1))))]) (y := 6) dL_law_1209 rfl rfl (by rw [← lw_6]; rfl) ?_
      exact r_go dL_law_1212 rfl h2
    have en : ∀ (T2 : St), tR X 60 mx_law 33 [some (.ref (mx_B + 100)), some (.ref (0 : Nat)), some (.ref (571 : Nat)), some (.int (nI (6 * j)))] [.int (X.2 (nI (6 * j)).toNatClampNeg &&& 63)] T (some (.int 1)) T2 → tR X 60 mx_law 18 [some (.ref (mx_B + 100)), some (.ref (0 : Nat)), some (.ref (571 : Nat)), some (.int (nI (6 * j)))] [] T (some (.int 1)) T2 := fun T2 h2 => by
      refine r_p (pc2 := 19) dL_law_18 rfl rfl ?_
      refine r_p (pc2 := 20) dL_law_19 rfl rfl ?_
      refine r_xl dL_law_20 ?_
      refine r_cb (x := 6) dL_law_21 rfl ?_
      refine r_p (pc2 := 24) dL_law_23 rfl rfl ?_
      refine r_cgt dL_law_24 rfl (fun c => absurd c (lw_ngt hj hX (by omega))) (fun _ => ?_)
      refine r_p (pc2 := 28) dL_law_27 rfl rfl ?_
      refine r_p (pc2 := 29) dL_law_28 rfl rfl ?_
      refine r_xa dL_law_29 (lw_in0 hj (by omega)) ?_
      refine r_cb (x := 63) dL_law_30 rfl ?_
      refine r_p (pc2 := 33) dL_law_32 rfl rfl ?_
      exact h2
    generalize hx : X.2 (nI (6 * j)).toNatClampNeg &&& 63 = x at en
    by_cases s0 : x = 0
    · obtain ⟨T3, h3, k3⟩ := e_sheet (X := X) (i := nI (6 * j)) hp.2.1 hI (lw_in (k := 1) rfl (by decide) hj (by omega)) (lw_in (k := 2) rfl (by decide) hj (by omega)) (lw_in (k := 3) rfl (by decide) hj (by omega))
      obtain ⟨T2, h2⟩ := nx T3 h3
      exact ⟨T2, en T2 (r_tin dL_law_33 (by rw [s0]; decide) (by rw [s0]; decide) (off := 147) (by rw [s0]; rfl) rfl (k3 _ _ h2))⟩
    by_cases s1 : x = 1
    · obtain ⟨T3, h3, k3⟩ := e_set (X := X) (i := nI (6 * j)) hp.2.2.1 hI (lw_in (k := 1) rfl (by decide) hj (by omega)) (lw_in (k := 2) rfl (by decide) hj (by omega)) (lw_in (k := 3) rfl (by decide) hj (by omega))
      obtain ⟨T2, h2⟩ := nx T3 h3
      exact ⟨T2, en T2 (r_tin dL_law_33 (by rw [s1]; decide) (by rw [s1]; decide) (off := 190) (by rw [s1]; rfl) rfl (k3 _ _ h2))⟩
    by_cases s2 : x = 2
    · obtain ⟨T3, h3, k3⟩ := e_copy (X := X) (i := nI (6 * j)) hp.2.2.2.1 hI (lw_in (k := 1) rfl (by decide) hj (by omega)) (lw_in (k := 2) rfl (by decide) hj (by omega)) (lw_in (k := 3) rfl (by decide) hj (by omega)) (lw_in (k := 4) rfl (by decide) hj (by omega)) (lw_in (k := 5) rfl (by decide) hj (by omega))
      obtain ⟨T2, h2⟩ := nx T3 h3
      exact ⟨T2, en T2 (r_tin dL_law_33 (by rw [s2]; decide) (by rw [s2]; decide) (off := 233) (by rw [s2]; rfl) rfl (k3 _ _ h2))⟩
    by_cases s3 : x = 3
    · obtain ⟨T3, h3, k3⟩ := e_drop (X := X) (i := nI (6 * j)) hp.2.2.2.2.1 hI (lw_in (k := 1) rfl (by decide) hj (by omega))
      obtain ⟨T2, h2⟩ := nx T3 h3
      exact ⟨T2, en T2 (r_tin dL_law_33 (by rw [s3]; decide) (by rw [s3]; decide) (off := 296) (by rw [s3]; rfl) rfl (k3 _ _ h2))⟩
    by_cases s4 : x = 4
    · obtain ⟨T3, h3, k3⟩ := e_feed (X := X) (i := nI (6 * j)) hp.2.2.2.2.2.1 hI (lw_in (k := 1) rfl (by decide) hj (by omega)) (lw_in (k := 2) rfl (by decide) hj (by omega)) (lw_in (k := 3) rfl (by decide) hj (by omega))
      obtain ⟨T2, h2⟩ := nx T3 h3
      exact ⟨T2, en T2 (r_tin dL_law_33 (by rw [s4]; decide) (by rw [s4]; decide) (off := 319) (by rw [s4]; rfl) rfl (k3 _ _ h2))⟩
    by_cases s5 : x = 5
    · obtain ⟨T3, h3, k3⟩ := e_book (X := X) (i := nI (6 * j)) hp.2.2.2.2.2.2.1 hI 
      obtain ⟨T2, h2⟩ := nx T3 h3
      exact ⟨T2, en T2 (r_tin dL_law_33 (by rw [s5]; decide) (by rw [s5]; decide) (off := 382) (by rw [s5]; rfl) rfl (k3 _ _ h2))⟩
    by_cases s6 : x = 6
    · obtain ⟨T3, h3, k3⟩ := e_fault (X := X) (i := nI (6 * j)) hp.2.2.2.2.2.2.2.1 hI 
      obtain ⟨T2, h2⟩ := nx T3 h3
      exact ⟨T2, en T2 (r_tin dL_law_33 (by rw [s6]; decide) (by rw [s6]; decide) (off := 395) (by rw [s6]; rfl) rfl (k3 _ _ h2))⟩
    by_cases s7 : x = 7
    · obtain ⟨T3, h3, k3⟩ := e_dish (X := X) (i := nI (6 * j)) hp.2.2.2.2.2.2.2.2.1 hI (lw_in (k := 1) rfl (by decide) hj (by omega)) (lw_in (k := 2) rfl (by decide) hj (by omega))
      obtain ⟨T2, h2⟩ := nx T3 h3
      exact ⟨T2, en T2 (r_tin dL_law_33 (by rw [s7]; decide) (by rw [s7]; decide) (off := 408) (by rw [s7]; rfl) rfl (k3 _ _ h2))⟩
    by_cases s8 : x = 8
    · obtain ⟨T3, h3, k3⟩ := e_step (X := X) (i := nI (6 * j)) hp.2.2.2.2.2.2.2.2.2.1 hI (lw_in (k := 1) rfl (by decide) hj (by omega)) (lw_in (k := 2) rfl (by decide) hj (by omega))
      obtain ⟨T2, h2⟩ := nx T3 h3
      exact ⟨T2, en T2 (r_tin dL_law_33 (by rw [s8]; decide) (by rw [s8]; decide) (off := 441) (by rw [s8]; rfl) rfl (k3 _ _ h2))⟩
    by_cases s9 : x = 9
    · obtain ⟨T3, h3, k3⟩ := e_gives (X := X) (i := nI (6 * j)) hp.2.2.2.2.2.2.2.2.2.2.1 hI (lw_in (k := 1) rfl (by decide) hj (by omega)) (lw_in (k := 2) rfl (by decide) hj (by omega))
      obtain ⟨T2, h2⟩ := nx T3 h3
      exact ⟨T2, en T2 (r_tin dL_law_33 (by rw [s9]; decide) (by rw [s9]; decide) (off := 474) (by rw [s9]; rfl) rfl (k3 _ _ h2))⟩
    by_cases s10 : x = 10
    · obtain ⟨T3, h3, k3⟩ := e_dinner (X := X) (i := nI (6 * j)) hp.2.2.2.2.2.2.2.2.2.2.2.1 hI (lw_in (k := 1) rfl (by decide) hj (by omega))
      obtain ⟨T2, h2⟩ := nx T3 h3
      exact ⟨T2, en T2 (r_tin dL_law_33 (by rw [s10]; decide) (by rw [s10]; decide) (off := 507) (by rw [s10]; rfl) rfl (k3 _ _ h2))⟩
    by_cases s11 : x = 11
    · obtain ⟨T3, h3, k3⟩ := e_out (X := X) (i := nI (6 * j)) hp.2.2.2.2.2.2.2.2.2.2.2.2.1 hI (lw_in (k := 1) rfl (by decide) hj (by omega))
      obtain ⟨T2, h2⟩ := nx T3 h3
      exact ⟨T2, en T2 (r_tin dL_law_33 (by rw [s11]; decide) (by rw [s11]; decide) (off := 530) (by rw [s11]; rfl) rfl (k3 _ _ h2))⟩
    by_cases s12 : x = 12
    · obtain ⟨T3, h3, k3⟩ := e_judge (X := X) (i := nI (6 * j)) hp.2.2.2.2.2.2.2.2.2.2.2.2.2.1 hI (lw_in (k := 1) rfl (by decide) hj (by omega)) (lw_in (k := 2) rfl (by decide) hj (by omega)) (lw_in (k := 3) rfl (by decide) hj (by omega))
      obtain ⟨T2, h2⟩ := nx T3 h3
      exact ⟨T2, en T2 (r_tin dL_law_33 (by rw [s12]; decide) (by rw [s12]; decide) (off := 553) (by rw [s12]; rfl) rfl (k3 _ _ h2))⟩
    by_cases s13 : x = 13
    · obtain ⟨T3, h3, k3⟩ := e_least (X := X) (i := nI (6 * j)) hp.2.2.2.2.2.2.2.2.2.2.2.2.2.2.1 hI (lw_in (k := 1) rfl (by decide) hj (by omega)) (lw_in (k := 2) rfl (by decide) hj (by omega))
      obtain ⟨T2, h2⟩ := nx T3 h3
      exact ⟨T2, en T2 (r_tin dL_law_33 (by rw [s13]; decide) (by rw [s13]; decide) (off := 596) (by rw [s13]; rfl) rfl (k3 _ _ h2))⟩
    by_cases s14 : x = 14
    · obtain ⟨T3, h3, k3⟩ := e_begins (X := X) (i := nI (6 * j)) hp.2.2.2.2.2.2.2.2.2.2.2.2.2.2.2.1 hI (lw_in (k := 1) rfl (by decide) hj (by omega)) (lw_in (k := 2) rfl (by decide) hj (by omega))
      obtain ⟨T2, h2⟩ := nx T3 h3
      exact ⟨T2, en T2 (r_tin dL_law_33 (by rw [s14]; decide) (by rw [s14]; decide) (off := 629) (by rw [s14]; rfl) rfl (k3 _ _ h2))⟩
    by_cases s15 : x = 15
    · obtain ⟨T3, h3, k3⟩ := e_seven (X := X) (i := nI (6 * j)) hp.2.2.2.2.2.2.2.2.2.2.2.2.2.2.2.2.1 hI (lw_in (k := 1) rfl (by decide) hj (by omega))
      obtain ⟨T2, h2⟩ := nx T3 h3
      exact ⟨T2, en T2 (r_tin dL_law_33 (by rw [s15]; decide) (by rw [s15]; decide) (off := 662) (by rw [s15]; rfl) rfl (k3 _ _ h2))⟩
    by_cases s16 : x = 16
    · obtain ⟨T3, h3, k3⟩ := e_earliest (X := X) (i := nI (6 * j)) hp.2.2.2.2.2.2.2.2.2.2.2.2.2.2.2.2.2.1 hI 
      obtain ⟨T2, h2⟩ := nx T3 h3
      exact ⟨T2, en T2 (r_tin dL_law_33 (by rw [s16]; decide) (by rw [s16]; decide) (off := 685) (by rw [s16]; rfl) rfl (k3 _ _ h2))⟩
    by_cases s17 : x = 17
    · obtain ⟨T3, h3, k3⟩ := e_heat (X := X) (i := nI (6 * j)) hp.2.2.2.2.2.2.2.2.2.2.2.2.2.2.2.2.2.2.1 hI (lw_in (k := 1) rfl (by decide) hj (by omega)) (lw_in (k := 2) rfl (by decide) hj (by omega))
      obtain ⟨T2, h2⟩ := nx T3 h3
      exact ⟨T2, en T2 (r_tin dL_law_33 (by rw [s17]; decide) (by rw [s17]; decide) (off := 698) (by rw [s17]; rfl) rfl (k3 _ _ h2))⟩
    by_cases s18 : x = 18
    · obtain ⟨T3, h3, k3⟩ := e_wanted (X := X) (i := nI (6 * j)) hp.2.2.2.2.2.2.2.2.2.2.2.2.2.2.2.2.2.2.2.1 hI (lw_in (k := 1) rfl (by decide) hj (by omega)) (lw_in (k := 2) rfl (by decide) hj (by omega)) (lw_in (k := 3) rfl (by decide) hj (by omega))
      obtain ⟨T2, h2⟩ := nx T3 h3
      exact ⟨T2, en T2 (r_tin dL_law_33 (by rw [s18]; decide) (by rw [s18]; decide) (off := 731) (by rw [s18]; rfl) rfl (k3 _ _ h2))⟩
    by_cases s19 : x = 19
    · obtain ⟨T3, h3, k3⟩ := e_dinners (X := X) (i := nI (6 * j)) hp.2.2.2.2.2.2.2.2.2.2.2.2.2.2.2.2.2.2.2.2.1 hI (lw_in (k := 1) rfl (by decide) hj (by omega)) (lw_in (k := 2) rfl (by decide) hj (by omega)) (lw_in (k := 3) rfl (by decide) hj (by omega))
      obtain ⟨T2, h2⟩ := nx T3 h3
      exact ⟨T2, en T2 (r_tin dL_law_33 (by rw [s19]; decide) (by rw [s19]; decide) (off := 774) (by rw [s19]; rfl) rfl (k3 _ _ h2))⟩
    by_cases s20 : x = 20
    · obtain ⟨T3, h3, k3⟩ := e_more (X := X) (i := nI (6 * j)) hp.2.2.2.2.2.2.2.2.2.2.2.2.2.2.2.2.2.2.2.2.2.1 hI (lw_in (k := 1) rfl (by decide) hj (by omega))
      obtain ⟨T2, h2⟩ := nx T3 h3
      exact ⟨T2, en T2 (r_tin dL_law_33 (by rw [s20]; decide) (by rw [s20]; decide) (off := 817) (by rw [s20]; rfl) rfl (k3 _ _ h2))⟩
    by_cases s21 : x = 21
    · obtain ⟨T3, h3, k3⟩ := e_mend (X := X) (i := nI (6 * j)) hp.2.2.2.2.2.2.2.2.2.2.2.2.2.2.2.2.2.2.2.2.2.2.1 hI (lw_in (k := 1) rfl (by decide) hj (by omega)) (lw_in (k := 2) rfl (by decide) hj (by omega))
      obtain ⟨T2, h2⟩ := nx T3 h3
      exact ⟨T2, en T2 (r_tin dL_law_33 (by rw [s21]; decide) (by rw [s21]; decide) (off := 840) (by rw [s21]; rfl) rfl (k3 _ _ h2))⟩
    by_cases s22 : x = 22
    · obtain ⟨T3, h3, k3⟩ := e_slack (X := X) (i := nI (6 * j)) hp.2.2.2.2.2.2.2.2.2.2.2.2.2.2.2.2.2.2.2.2.2.2.2.1 hI (lw_in (k := 1) rfl (by decide) hj (by omega)) (lw_in (k := 2) rfl (by decide) hj (by omega))
      obtain ⟨T2, h2⟩ := nx T3 h3
      exact ⟨T2, en T2 (r_tin dL_law_33 (by rw [s22]; decide) (by rw [s22]; decide) (off := 873) (by rw [s22]; rfl) rfl (k3 _ _ h2))⟩
    by_cases s23 : x = 23
    · obtain ⟨T3, h3, k3⟩ := e_bears (X := X) (i := nI (6 * j)) hp.2.2.2.2.2.2.2.2.2.2.2.2.2.2.2.2.2.2.2.2.2.2.2.2.1 hI (lw_in (k := 1) rfl (by decide) hj (by omega)) (lw_in (k := 2) rfl (by decide) hj (by omega)) (lw_in (k := 3) rfl (by decide) hj (by omega))
      obtain ⟨T2, h2⟩ := nx T3 h3
      exact ⟨T2, en T2 (r_tin dL_law_33 (by rw [s23]; decide) (by rw [s23]; decide) (off := 906) (by rw [s23]; rfl) rfl (k3 _ _ h2))⟩
    by_cases s24 : x = 24
    · obtain ⟨T3, h3, k3⟩ := e_mind (X := X) (i := nI (6 * j)) hp.2.2.2.2.2.2.2.2.2.2.2.2.2.2.2.2.2.2.2.2.2.2.2.2.2.1 hI (lw_in (k := 1) rfl (by decide) hj (by omega)) (lw_in (k := 2) rfl (by decide) hj (by omega))
      obtain ⟨T2, h2⟩ := nx T3 h3
      exact ⟨T2, en T2 (r_tin dL_law_33 (by rw [s24]; decide) (by rw [s24]; decide) (off := 949) (by rw [s24]; rfl) rfl (k3 _ _ h2))⟩
    by_cases s25 : x = 25
    · obtain ⟨T3, h3, k3⟩ := e_image (X := X) (i := nI (6 * j)) hp.2.2.2.2.2.2.2.2.2.2.2.2.2.2.2.2.2.2.2.2.2.2.2.2.2.2.1 hI (lw_in (k := 1) rfl (by decide) hj (by omega))
      obtain ⟨T2, h2⟩ := nx T3 h3
      exact ⟨T2, en T2 (r_tin dL_law_33 (by rw [s25]; decide) (by rw [s25]; decide) (off := 982) (by rw [s25]; rfl) rfl (k3 _ _ h2))⟩
    by_cases s26 : x = 26
    · obtain ⟨T3, h3, k3⟩ := e_restore (X := X) (i := nI (6 * j)) hp.2.2.2.2.2.2.2.2.2.2.2.2.2.2.2.2.2.2.2.2.2.2.2.2.2.2.2.1 hI (lw_in (k := 1) rfl (by decide) hj (by omega))
      obtain ⟨T2, h2⟩ := nx T3 h3
      exact ⟨T2, en T2 (r_tin dL_law_33 (by rw [s26]; decide) (by rw [s26]; decide) (off := 1005) (by rw [s26]; rfl) rfl (k3 _ _ h2))⟩
    by_cases s27 : x = 27
    · obtain ⟨T3, h3, k3⟩ := e_kind (X := X) (i := nI (6 * j)) hp.2.2.2.2.2.2.2.2.2.2.2.2.2.2.2.2.2.2.2.2.2.2.2.2.2.2.2.2.1 hI (lw_in (k := 1) rfl (by decide) hj (by omega))
      obtain ⟨T2, h2⟩ := nx T3 h3
      exact ⟨T2, en T2 (r_tin dL_law_33 (by rw [s27]; decide) (by rw [s27]; decide) (off := 1028) (by rw [s27]; rfl) rfl (k3 _ _ h2))⟩
    by_cases s28 : x = 28
    · obtain ⟨T3, h3, k3⟩ := e_as (X := X) (i := nI (6 * j)) hp.2.2.2.2.2.2.2.2.2.2.2.2.2.2.2.2.2.2.2.2.2.2.2.2.2.2.2.2.2.1 hI (lw_in (k := 1) rfl (by decide) hj (by omega)) (lw_in (k := 2) rfl (by decide) hj (by omega))
      obtain ⟨T2, h2⟩ := nx T3 h3
      exact ⟨T2, en T2 (r_tin dL_law_33 (by rw [s28]; decide) (by rw [s28]; decide) (off := 1051) (by rw [s28]; rfl) rfl (k3 _ _ h2))⟩
    by_cases s29 : x = 29
    · obtain ⟨T3, h3, k3⟩ := e_ask (X := X) (i := nI (6 * j)) hp.2.2.2.2.2.2.2.2.2.2.2.2.2.2.2.2.2.2.2.2.2.2.2.2.2.2.2.2.2.2.1 hI (lw_in (k := 1) rfl (by decide) hj (by omega)) (lw_in (k := 2) rfl (by decide) hj (by omega))
      obtain ⟨T2, h2⟩ := nx T3 h3
      exact ⟨T2, en T2 (r_tin dL_law_33 (by rw [s29]; decide) (by rw [s29]; decide) (off := 1084) (by rw [s29]; rfl) rfl (k3 _ _ h2))⟩
    by_cases s30 : x = 30
    · obtain ⟨T3, h3, k3⟩ := e_trace (X := X) (i := nI (6 * j)) hp.2.2.2.2.2.2.2.2.2.2.2.2.2.2.2.2.2.2.2.2.2.2.2.2.2.2.2.2.2.2.2.1 hI (lw_in (k := 1) rfl (by decide) hj (by omega))
      obtain ⟨T2, h2⟩ := nx T3 h3
      exact ⟨T2, en T2 (r_tin dL_law_33 (by rw [s30]; decide) (by rw [s30]; decide) (off := 1117) (by rw [s30]; rfl) rfl (k3 _ _ h2))⟩
    by_cases s31 : x = 31
    · obtain ⟨T3, h3, k3⟩ := e_count (X := X) (i := nI (6 * j)) hp.2.2.2.2.2.2.2.2.2.2.2.2.2.2.2.2.2.2.2.2.2.2.2.2.2.2.2.2.2.2.2.2.1 hI (lw_in (k := 1) rfl (by decide) hj (by omega))
      obtain ⟨T2, h2⟩ := nx T3 h3
      exact ⟨T2, en T2 (r_tin dL_law_33 (by rw [s31]; decide) (by rw [s31]; decide) (off := 1140) (by rw [s31]; rfl) rfl (k3 _ _ h2))⟩
    by_cases s32 : x = 32
    · obtain ⟨T3, h3, k3⟩ := e_status (X := X) (i := nI (6 * j)) hp.2.2.2.2.2.2.2.2.2.2.2.2.2.2.2.2.2.2.2.2.2.2.2.2.2.2.2.2.2.2.2.2.2 hI 
      obtain ⟨T2, h2⟩ := nx T3 h3
      exact ⟨T2, en T2 (r_tin dL_law_33 (by rw [s32]; decide) (by rw [s32]; decide) (off := 1163) (by rw [s32]; rfl) rfl (k3 _ _ h2))⟩
    obtain ⟨T2, h2⟩ := nx T hI
    refine ⟨T2, en T2 (r_tout dL_law_33 ?_ rfl h2)⟩
    have := i_rg x
    simp only [i_eq, i_0, i_1, i_2, i_3, i_4, i_5, i_6, i_7, i_8, i_9, i_10, i_11, i_12, i_13, i_14, i_15, i_16, i_17, i_18, i_19, i_20, i_21, i_22, i_23, i_24, i_25, i_26, i_27, i_28, i_29, i_30, i_31, i_32] at s0 s1 s2 s3 s4 s5 s6 s7 s8 s9 s10 s11 s12 s13 s14 s15 s16 s17 s18 s19 s20 s21 s22 s23 s24 s25 s26 s27 s28 s29 s30 s31 s32
    omega
theorem law_pure {I : St → Prop} (hp : PP I) : mx_Pure := by
  intro L xs hL
  obtain ⟨T2, h2⟩ := law_loop (X := (L, xs)) hp hL 65 0 T0 hp.1 (by omega) (by show L < _; omega)
  obtain ⟨k, hk⟩ := law_start (X := (L, xs)) (d := 60) (by decide) h2
  exact ⟨60, k, (conc T2, NN, SS), by decide, (by decide : NN ≤ 600000), (by decide : SS ≤ 7302250), hk⟩
