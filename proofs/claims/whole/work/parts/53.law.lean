theorem gwL {w : Cond} (h : w ∈ lw_tbl) (hg : goodWord w = true) : w ∈ gw := List.mem_filter.mpr ⟨h, hg⟩
-- ===== the law's cases, its loop =====
section LQ
variable {Γ : LC} {bc bs pc L i : Nat} {xs : Nat → Int32} {st : List AV} {h : HS}
abbrev lvL (i : Nat) : List (Nat × AV) := [(3, aI (nI i)), (2, aR 26 0), (1, aR 0 0), (0, aR 70 0)]
theorem L_argc {k : Nat} {n : Int} (X : LX Γ L xs) (hL : L ≤ 4096) (hn : Int32.ofInt n = nI k) (d1 : decode cL_law pc = .ok (.aload_n 0, 1)) (d2 : decode cL_law (pc + 1) = .ok (.iload_n 3, 1)) (d3 : decode cL_law (pc + 2) = .ok (.iconst n, 1)) (d4 : decode cL_law (pc + 3) = .ok (.iadd, 1)) (d5 : decode cL_law (pc + 4) = .ok (.iaload, 1)) (hk : i + k < L) (kk : LV true Γ bc bs (pc + 5) (lvL i) (aI (xs (i + k)) :: st) h) : LV true Γ bc bs pc (lvL i) st h := by
  refine L_aload 0 d1 rfl rfl (L_iload 3 d2 rfl rfl (L_iconst (nI k) d3 hn (L_iadd d4 ?_)))
  rw [nI_add]
  refine L_sld X d5 (vp_in_nI hk (by omega)) ?_
  rw [nI_clamp (by omega)]
  exact kk
theorem L_argb {k : Nat} {n : Int} (X : LX Γ L xs) (hL : L ≤ 4096) (hn : (Int8.ofInt n).toInt32 = nI k) (d1 : decode cL_law pc = .ok (.aload_n 0, 1)) (d2 : decode cL_law (pc + 1) = .ok (.iload_n 3, 1)) (d3 : decode cL_law (pc + 2) = .ok (.bipush n, 2)) (d4 : decode cL_law (pc + 4) = .ok (.iadd, 1)) (d5 : decode cL_law (pc + 5) = .ok (.iaload, 1)) (hk : i + k < L) (kk : LV true Γ bc bs (pc + 6) (lvL i) (aI (xs (i + k)) :: st) h) : LV true Γ bc bs pc (lvL i) st h := by
  refine L_aload 0 d1 rfl rfl (L_iload 3 d2 rfl rfl (L_bipush (nI k) d3 hn (L_iadd d4 ?_)))
  rw [nI_add]
  refine L_sld X d5 (vp_in_nI hk (by omega)) ?_
  rw [nI_clamp (by omega)]
  exact kk
theorem L_c_thing (X : LX Γ L xs) (hL : L ≤ 4096) (hi : i + 8 ≤ L) (I : Inv h) (hb1 : 3 ≤ bc) (hb2 : 569 ≤ bs) (kk : ∀ h2, Inv h2 → LV true Γ (bc - 3) (bs - 569) 785 (lvL i) [] h2) : LV true Γ bc bs 124 (lvL i) [] h := by
  refine L_aload 1 dL_law_124 rfl rfl ?_
  refine L_argc (k := 1) X hL rfl dL_law_125 dL_law_126 dL_law_127 dL_law_128 dL_law_129 (by omega) ?_
  refine L_argc (k := 2) X hL rfl dL_law_130 dL_law_131 dL_law_132 dL_law_133 dL_law_134 (by omega) ?_
  refine L_callV (mc := 3) (ms := 569) (as := [aI (xs (i + 1)), aI (xs (i + 2))]) (st := []) (by decide) rt_0 rfl dL_law_135 okX9_thing inX9_thing seX9_thing (gwL (by decide +kernel) rfl) rfl (Nat.le_of_ble_eq_true rfl) hb1 hb2 (Cl.mono (fun r h1 z => ?_) (sim_thing I))
  obtain ⟨x, rfl, z2⟩ := z
  show LV true Γ _ _ 138 (lvL i) [aI x] h1
  refine L_aload 2 dL_law_138 rfl rfl ?_
  refine L_argc (k := 1) X hL rfl dL_law_139 dL_law_140 dL_law_141 dL_law_142 dL_law_143 (by omega) ?_
  refine L_argc (k := 2) X hL rfl dL_law_144 dL_law_145 dL_law_146 dL_law_147 dL_law_148 (by omega) ?_
  refine L_callV (mc := 0) (ms := 0) (as := [aI (xs (i + 1)), aI (xs (i + 2))]) (st := [aI x]) (by decide) rt_26 rfl dL_law_149 okX10_thing inX10_thing seX10_thing (gwL (by decide +kernel) rfl) rfl (Nat.le_of_ble_eq_true rfl) (Nat.zero_le _) (Nat.zero_le _) (Cl.mono (fun r h2 z => ?_) z2)
  obtain ⟨rfl, I2⟩ := z
  show LV true Γ _ _ 152 (lvL i) [aI x, aI x] h2
  exact L_icmpeq 785 dL_law_152 (by decide) rfl (LV_bud (by omega) (by omega) (kk h2 I2))
theorem L_c_tag (X : LX Γ L xs) (hL : L ≤ 4096) (hi : i + 8 ≤ L) (I : Inv h) (kk : ∀ h2, Inv h2 → LV true Γ (bc - 0) (bs - 0) 785 (lvL i) [] h2) : LV true Γ bc bs 157 (lvL i) [] h := by
  refine L_aload 1 dL_law_157 rfl rfl ?_
  refine L_argc (k := 1) X hL rfl dL_law_158 dL_law_159 dL_law_160 dL_law_161 dL_law_162 (by omega) ?_
  refine L_argc (k := 2) X hL rfl dL_law_163 dL_law_164 dL_law_165 dL_law_166 dL_law_167 (by omega) ?_
  refine L_callV (mc := 0) (ms := 0) (as := [aI (xs (i + 1)), aI (xs (i + 2))]) (st := []) (by decide) rt_0 rfl dL_law_168 okX9_tag inX9_tag seX9_tag (gwL (by decide +kernel) rfl) rfl (Nat.le_of_ble_eq_true rfl) (Nat.zero_le _) (Nat.zero_le _) (Cl.mono (fun r h1 z => ?_) (sim_tag I))
  obtain ⟨x, rfl, z2⟩ := z
  show LV true Γ _ _ 171 (lvL i) [aI x] h1
  refine L_aload 2 dL_law_171 rfl rfl ?_
  refine L_argc (k := 1) X hL rfl dL_law_172 dL_law_173 dL_law_174 dL_law_175 dL_law_176 (by omega) ?_
  refine L_argc (k := 2) X hL rfl dL_law_177 dL_law_178 dL_law_179 dL_law_180 dL_law_181 (by omega) ?_
  refine L_callV (mc := 0) (ms := 0) (as := [aI (xs (i + 1)), aI (xs (i + 2))]) (st := [aI x]) (by decide) rt_26 rfl dL_law_182 okX10_tag inX10_tag seX10_tag (gwL (by decide +kernel) rfl) rfl (Nat.le_of_ble_eq_true rfl) (Nat.zero_le _) (Nat.zero_le _) (Cl.mono (fun r h2 z => ?_) z2)
  obtain ⟨rfl, I2⟩ := z
  show LV true Γ _ _ 185 (lvL i) [aI x, aI x] h2
  exact L_icmpeq 785 dL_law_185 (by decide) rfl (kk h2 I2)
theorem L_c_of (X : LX Γ L xs) (hL : L ≤ 4096) (hi : i + 8 ≤ L) (I : Inv h) (kk : ∀ h2, Inv h2 → LV true Γ (bc - 0) (bs - 0) 785 (lvL i) [] h2) : LV true Γ bc bs 190 (lvL i) [] h := by
  refine L_aload 1 dL_law_190 rfl rfl ?_
  refine L_argc (k := 1) X hL rfl dL_law_191 dL_law_192 dL_law_193 dL_law_194 dL_law_195 (by omega) ?_
  refine L_argc (k := 2) X hL rfl dL_law_196 dL_law_197 dL_law_198 dL_law_199 dL_law_200 (by omega) ?_
  refine L_callV (mc := 0) (ms := 0) (as := [aI (xs (i + 1)), aI (xs (i + 2))]) (st := []) (by decide) rt_0 rfl dL_law_201 okX9_of inX9_of seX9_of (gwL (by decide +kernel) rfl) rfl (Nat.le_of_ble_eq_true rfl) (Nat.zero_le _) (Nat.zero_le _) (Cl.mono (fun r h1 z => ?_) (sim_of I))
  obtain ⟨x, rfl, z2⟩ := z
  show LV true Γ _ _ 204 (lvL i) [aI x] h1
  refine L_aload 2 dL_law_204 rfl rfl ?_
  refine L_argc (k := 1) X hL rfl dL_law_205 dL_law_206 dL_law_207 dL_law_208 dL_law_209 (by omega) ?_
  refine L_argc (k := 2) X hL rfl dL_law_210 dL_law_211 dL_law_212 dL_law_213 dL_law_214 (by omega) ?_
  refine L_callV (mc := 0) (ms := 0) (as := [aI (xs (i + 1)), aI (xs (i + 2))]) (st := [aI x]) (by decide) rt_26 rfl dL_law_215 okX10_of inX10_of seX10_of (gwL (by decide +kernel) rfl) rfl (Nat.le_of_ble_eq_true rfl) (Nat.zero_le _) (Nat.zero_le _) (Cl.mono (fun r h2 z => ?_) z2)
  obtain ⟨rfl, I2⟩ := z
  show LV true Γ _ _ 218 (lvL i) [aI x, aI x] h2
  exact L_icmpeq 785 dL_law_218 (by decide) rfl (kk h2 I2)
theorem L_c_next (X : LX Γ L xs) (hL : L ≤ 4096) (hi : i + 8 ≤ L) (I : Inv h) (kk : ∀ h2, Inv h2 → LV true Γ (bc - 0) (bs - 0) 785 (lvL i) [] h2) : LV true Γ bc bs 223 (lvL i) [] h := by
  refine L_aload 1 dL_law_223 rfl rfl ?_
  refine L_callV (mc := 0) (ms := 0) (as := []) (st := []) (by decide) rt_0 rfl dL_law_224 okX9_next inX9_next seX9_next (gwL (by decide +kernel) rfl) rfl (Nat.le_of_ble_eq_true rfl) (Nat.zero_le _) (Nat.zero_le _) (Cl.mono (fun r h1 z => ?_) (sim_next I))
  obtain ⟨x, rfl, z2⟩ := z
  show LV true Γ _ _ 227 (lvL i) [aI x] h1
  refine L_aload 2 dL_law_227 rfl rfl ?_
  refine L_callV (mc := 0) (ms := 0) (as := []) (st := [aI x]) (by decide) rt_26 rfl dL_law_228 okX10_next inX10_next seX10_next (gwL (by decide +kernel) rfl) rfl (Nat.le_of_ble_eq_true rfl) (Nat.zero_le _) (Nat.zero_le _) (Cl.mono (fun r h2 z => ?_) z2)
  obtain ⟨rfl, I2⟩ := z
  show LV true Γ _ _ 231 (lvL i) [aI x, aI x] h2
  exact L_icmpeq 785 dL_law_231 (by decide) rfl (kk h2 I2)
theorem L_c_slip (X : LX Γ L xs) (hL : L ≤ 4096) (hi : i + 8 ≤ L) (I : Inv h) (hb1 : 2 ≤ bc) (hb2 : 212 ≤ bs) (kk : ∀ h2, Inv h2 → LV true Γ (bc - 2) (bs - 212) 785 (lvL i) [] h2) : LV true Γ bc bs 236 (lvL i) [] h := by
  refine L_aload 1 dL_law_236 rfl rfl ?_
  refine L_argc (k := 1) X hL rfl dL_law_237 dL_law_238 dL_law_239 dL_law_240 dL_law_241 (by omega) ?_
  refine L_argc (k := 2) X hL rfl dL_law_242 dL_law_243 dL_law_244 dL_law_245 dL_law_246 (by omega) ?_
  refine L_argc (k := 3) X hL rfl dL_law_247 dL_law_248 dL_law_249 dL_law_250 dL_law_251 (by omega) ?_
  refine L_argc (k := 4) X hL rfl dL_law_252 dL_law_253 dL_law_254 dL_law_255 dL_law_256 (by omega) ?_
  refine L_argc (k := 5) X hL rfl dL_law_257 dL_law_258 dL_law_259 dL_law_260 dL_law_261 (by omega) ?_
  refine L_argb (k := 6) X hL rfl dL_law_262 dL_law_263 dL_law_264 dL_law_266 dL_law_267 (by omega) ?_
  refine L_argb (k := 7) X hL rfl dL_law_268 dL_law_269 dL_law_270 dL_law_272 dL_law_273 (by omega) ?_
  refine L_callV (mc := 2) (ms := 212) (as := [aI (xs (i + 1)), aI (xs (i + 2)), aI (xs (i + 3)), aI (xs (i + 4)), aI (xs (i + 5)), aI (xs (i + 6)), aI (xs (i + 7))]) (st := []) (by decide) rt_0 rfl dL_law_274 okX9_slip inX9_slip seX9_slip (gwL (by decide +kernel) rfl) rfl (Nat.le_of_ble_eq_true rfl) hb1 hb2 (Cl.mono (fun r h1 z => ?_) (sim_slip I))
  obtain ⟨x, rfl, z2⟩ := z
  show LV true Γ _ _ 277 (lvL i) [aI x] h1
  refine L_aload 2 dL_law_277 rfl rfl ?_
  refine L_argc (k := 1) X hL rfl dL_law_278 dL_law_279 dL_law_280 dL_law_281 dL_law_282 (by omega) ?_
  refine L_argc (k := 2) X hL rfl dL_law_283 dL_law_284 dL_law_285 dL_law_286 dL_law_287 (by omega) ?_
  refine L_argc (k := 3) X hL rfl dL_law_288 dL_law_289 dL_law_290 dL_law_291 dL_law_292 (by omega) ?_
  refine L_argc (k := 4) X hL rfl dL_law_293 dL_law_294 dL_law_295 dL_law_296 dL_law_297 (by omega) ?_
  refine L_argc (k := 5) X hL rfl dL_law_298 dL_law_299 dL_law_300 dL_law_301 dL_law_302 (by omega) ?_
  refine L_argb (k := 6) X hL rfl dL_law_303 dL_law_304 dL_law_305 dL_law_307 dL_law_308 (by omega) ?_
  refine L_argb (k := 7) X hL rfl dL_law_309 dL_law_310 dL_law_311 dL_law_313 dL_law_314 (by omega) ?_
  refine L_callV (mc := 0) (ms := 0) (as := [aI (xs (i + 1)), aI (xs (i + 2)), aI (xs (i + 3)), aI (xs (i + 4)), aI (xs (i + 5)), aI (xs (i + 6)), aI (xs (i + 7))]) (st := [aI x]) (by decide) rt_26 rfl dL_law_315 okX10_slip inX10_slip seX10_slip (gwL (by decide +kernel) rfl) rfl (Nat.le_of_ble_eq_true rfl) (Nat.zero_le _) (Nat.zero_le _) (Cl.mono (fun r h2 z => ?_) z2)
  obtain ⟨rfl, I2⟩ := z
  show LV true Γ _ _ 318 (lvL i) [aI x, aI x] h2
  exact L_icmpeq 785 dL_law_318 (by decide) rfl (LV_bud (by omega) (by omega) (kk h2 I2))
theorem L_c_paper (X : LX Γ L xs) (hL : L ≤ 4096) (hi : i + 8 ≤ L) (I : Inv h) (kk : ∀ h2, Inv h2 → LV true Γ (bc - 0) (bs - 0) 785 (lvL i) [] h2) : LV true Γ bc bs 323 (lvL i) [] h := by
  refine L_aload 1 dL_law_323 rfl rfl ?_
  refine L_argc (k := 1) X hL rfl dL_law_324 dL_law_325 dL_law_326 dL_law_327 dL_law_328 (by omega) ?_
  refine L_argc (k := 2) X hL rfl dL_law_329 dL_law_330 dL_law_331 dL_law_332 dL_law_333 (by omega) ?_
  refine L_callV (mc := 0) (ms := 0) (as := [aI (xs (i + 1)), aI (xs (i + 2))]) (st := []) (by decide) rt_0 rfl dL_law_334 okX9_paper inX9_paper seX9_paper (gwL (by decide +kernel) rfl) rfl (Nat.le_of_ble_eq_true rfl) (Nat.zero_le _) (Nat.zero_le _) (Cl.mono (fun r h1 z => ?_) (sim_paper I))
  obtain ⟨x, rfl, z2⟩ := z
  show LV true Γ _ _ 337 (lvL i) [aI x] h1
  refine L_aload 2 dL_law_337 rfl rfl ?_
  refine L_argc (k := 1) X hL rfl dL_law_338 dL_law_339 dL_law_340 dL_law_341 dL_law_342 (by omega) ?_
  refine L_argc (k := 2) X hL rfl dL_law_343 dL_law_344 dL_law_345 dL_law_346 dL_law_347 (by omega) ?_
  refine L_callV (mc := 0) (ms := 0) (as := [aI (xs (i + 1)), aI (xs (i + 2))]) (st := [aI x]) (by decide) rt_26 rfl dL_law_348 okX10_paper inX10_paper seX10_paper (gwL (by decide +kernel) rfl) rfl (Nat.le_of_ble_eq_true rfl) (Nat.zero_le _) (Nat.zero_le _) (Cl.mono (fun r h2 z => ?_) z2)
  obtain ⟨rfl, I2⟩ := z
  show LV true Γ _ _ 351 (lvL i) [aI x, aI x] h2
  exact L_icmpeq 785 dL_law_351 (by decide) rfl (kk h2 I2)
theorem L_c_back (X : LX Γ L xs) (hL : L ≤ 4096) (hi : i + 8 ≤ L) (I : Inv h) (kk : ∀ h2, Inv h2 → LV true Γ (bc - 0) (bs - 0) 785 (lvL i) [] h2) : LV true Γ bc bs 356 (lvL i) [] h := by
  refine L_aload 1 dL_law_356 rfl rfl ?_
  refine L_argc (k := 1) X hL rfl dL_law_357 dL_law_358 dL_law_359 dL_law_360 dL_law_361 (by omega) ?_
  refine L_callV (mc := 0) (ms := 0) (as := [aI (xs (i + 1))]) (st := []) (by decide) rt_0 rfl dL_law_362 okX9_back inX9_back seX9_back (gwL (by decide +kernel) rfl) rfl (Nat.le_of_ble_eq_true rfl) (Nat.zero_le _) (Nat.zero_le _) (Cl.mono (fun r h1 z => ?_) (sim_back I))
  obtain ⟨x, rfl, z2⟩ := z
  show LV true Γ _ _ 365 (lvL i) [aI x] h1
  refine L_aload 2 dL_law_365 rfl rfl ?_
  refine L_argc (k := 1) X hL rfl dL_law_366 dL_law_367 dL_law_368 dL_law_369 dL_law_370 (by omega) ?_
  refine L_callV (mc := 0) (ms := 0) (as := [aI (xs (i + 1))]) (st := [aI x]) (by decide) rt_26 rfl dL_law_371 okX10_back inX10_back seX10_back (gwL (by decide +kernel) rfl) rfl (Nat.le_of_ble_eq_true rfl) (Nat.zero_le _) (Nat.zero_le _) (Cl.mono (fun r h2 z => ?_) z2)
  obtain ⟨rfl, I2⟩ := z
  show LV true Γ _ _ 374 (lvL i) [aI x, aI x] h2
  exact L_icmpeq 785 dL_law_374 (by decide) rfl (kk h2 I2)
theorem L_c_look (X : LX Γ L xs) (hL : L ≤ 4096) (hi : i + 8 ≤ L) (I : Inv h) (kk : ∀ h2, Inv h2 → LV true Γ (bc - 0) (bs - 0) 785 (lvL i) [] h2) : LV true Γ bc bs 379 (lvL i) [] h := by
  refine L_aload 1 dL_law_379 rfl rfl ?_
  refine L_argc (k := 1) X hL rfl dL_law_380 dL_law_381 dL_law_382 dL_law_383 dL_law_384 (by omega) ?_
  refine L_callV (mc := 0) (ms := 0) (as := [aI (xs (i + 1))]) (st := []) (by decide) rt_0 rfl dL_law_385 okX9_look inX9_look seX9_look (gwL (by decide +kernel) rfl) rfl (Nat.le_of_ble_eq_true rfl) (Nat.zero_le _) (Nat.zero_le _) (Cl.mono (fun r h1 z => ?_) (sim_look I))
  obtain ⟨x, rfl, z2⟩ := z
  show LV true Γ _ _ 388 (lvL i) [aI x] h1
  refine L_aload 2 dL_law_388 rfl rfl ?_
  refine L_argc (k := 1) X hL rfl dL_law_389 dL_law_390 dL_law_391 dL_law_392 dL_law_393 (by omega) ?_
  refine L_callV (mc := 0) (ms := 0) (as := [aI (xs (i + 1))]) (st := [aI x]) (by decide) rt_26 rfl dL_law_394 okX10_look inX10_look seX10_look (gwL (by decide +kernel) rfl) rfl (Nat.le_of_ble_eq_true rfl) (Nat.zero_le _) (Nat.zero_le _) (Cl.mono (fun r h2 z => ?_) z2)
  obtain ⟨rfl, I2⟩ := z
  show LV true Γ _ _ 397 (lvL i) [aI x, aI x] h2
  exact L_icmpeq 785 dL_law_397 (by decide) rfl (kk h2 I2)
theorem L_c_van (X : LX Γ L xs) (hL : L ≤ 4096) (hi : i + 8 ≤ L) (I : Inv h) (kk : ∀ h2, Inv h2 → LV true Γ (bc - 0) (bs - 0) 785 (lvL i) [] h2) : LV true Γ bc bs 402 (lvL i) [] h := by
  refine L_aload 1 dL_law_402 rfl rfl ?_
  refine L_argc (k := 1) X hL rfl dL_law_403 dL_law_404 dL_law_405 dL_law_406 dL_law_407 (by omega) ?_
  refine L_callV (mc := 0) (ms := 0) (as := [aI (xs (i + 1))]) (st := []) (by decide) rt_0 rfl dL_law_408 okX9_van inX9_van seX9_van (gwL (by decide +kernel) rfl) rfl (Nat.le_of_ble_eq_true rfl) (Nat.zero_le _) (Nat.zero_le _) (Cl.mono (fun r h1 z => ?_) (sim_van I))
  obtain ⟨x, rfl, z2⟩ := z
  show LV true Γ _ _ 411 (lvL i) [aI x] h1
  refine L_aload 2 dL_law_411 rfl rfl ?_
  refine L_argc (k := 1) X hL rfl dL_law_412 dL_law_413 dL_law_414 dL_law_415 dL_law_416 (by omega) ?_
  refine L_callV (mc := 0) (ms := 0) (as := [aI (xs (i + 1))]) (st := [aI x]) (by decide) rt_26 rfl dL_law_417 okX10_van inX10_van seX10_van (gwL (by decide +kernel) rfl) rfl (Nat.le_of_ble_eq_true rfl) (Nat.zero_le _) (Nat.zero_le _) (Cl.mono (fun r h2 z => ?_) z2)
  obtain ⟨rfl, I2⟩ := z
  show LV true Γ _ _ 420 (lvL i) [aI x, aI x] h2
  exact L_icmpeq 785 dL_law_420 (by decide) rfl (kk h2 I2)
theorem L_c_house (X : LX Γ L xs) (hL : L ≤ 4096) (hi : i + 8 ≤ L) (I : Inv h) (kk : ∀ h2, Inv h2 → LV true Γ (bc - 0) (bs - 0) 785 (lvL i) [] h2) : LV true Γ bc bs 425 (lvL i) [] h := by
  refine L_aload 1 dL_law_425 rfl rfl ?_
  refine L_argc (k := 1) X hL rfl dL_law_426 dL_law_427 dL_law_428 dL_law_429 dL_law_430 (by omega) ?_
  refine L_callV (mc := 0) (ms := 0) (as := [aI (xs (i + 1))]) (st := []) (by decide) rt_0 rfl dL_law_431 okX9_house inX9_house seX9_house (gwL (by decide +kernel) rfl) rfl (Nat.le_of_ble_eq_true rfl) (Nat.zero_le _) (Nat.zero_le _) (Cl.mono (fun r h1 z => ?_) (sim_house I))
  obtain ⟨x, rfl, z2⟩ := z
  show LV true Γ _ _ 434 (lvL i) [aI x] h1
  refine L_aload 2 dL_law_434 rfl rfl ?_
  refine L_argc (k := 1) X hL rfl dL_law_435 dL_law_436 dL_law_437 dL_law_438 dL_law_439 (by omega) ?_
  refine L_callV (mc := 0) (ms := 0) (as := [aI (xs (i + 1))]) (st := [aI x]) (by decide) rt_26 rfl dL_law_440 okX10_house inX10_house seX10_house (gwL (by decide +kernel) rfl) rfl (Nat.le_of_ble_eq_true rfl) (Nat.zero_le _) (Nat.zero_le _) (Cl.mono (fun r h2 z => ?_) z2)
  obtain ⟨rfl, I2⟩ := z
  show LV true Γ _ _ 443 (lvL i) [aI x, aI x] h2
  exact L_icmpeq 785 dL_law_443 (by decide) rfl (kk h2 I2)
theorem L_c_feed (X : LX Γ L xs) (hL : L ≤ 4096) (hi : i + 8 ≤ L) (I : Inv h) (kk : ∀ h2, Inv h2 → LV true Γ (bc - 0) (bs - 0) 785 (lvL i) [] h2) : LV true Γ bc bs 448 (lvL i) [] h := by
  refine L_aload 1 dL_law_448 rfl rfl ?_
  refine L_argc (k := 1) X hL rfl dL_law_449 dL_law_450 dL_law_451 dL_law_452 dL_law_453 (by omega) ?_
  refine L_argc (k := 2) X hL rfl dL_law_454 dL_law_455 dL_law_456 dL_law_457 dL_law_458 (by omega) ?_
  refine L_argc (k := 3) X hL rfl dL_law_459 dL_law_460 dL_law_461 dL_law_462 dL_law_463 (by omega) ?_
  refine L_argc (k := 4) X hL rfl dL_law_464 dL_law_465 dL_law_466 dL_law_467 dL_law_468 (by omega) ?_
  refine L_argc (k := 5) X hL rfl dL_law_469 dL_law_470 dL_law_471 dL_law_472 dL_law_473 (by omega) ?_
  refine L_callV (mc := 0) (ms := 0) (as := [aI (xs (i + 1)), aI (xs (i + 2)), aI (xs (i + 3)), aI (xs (i + 4)), aI (xs (i + 5))]) (st := []) (by decide) rt_0 rfl dL_law_474 okX9_feed inX9_feed seX9_feed (gwL (by decide +kernel) rfl) rfl (Nat.le_of_ble_eq_true rfl) (Nat.zero_le _) (Nat.zero_le _) (Cl.mono (fun r h1 z => ?_) (sim_feed I))
  obtain ⟨x, rfl, z2⟩ := z
  show LV true Γ _ _ 477 (lvL i) [aI x] h1
  refine L_aload 2 dL_law_477 rfl rfl ?_
  refine L_argc (k := 1) X hL rfl dL_law_478 dL_law_479 dL_law_480 dL_law_481 dL_law_482 (by omega) ?_
  refine L_argc (k := 2) X hL rfl dL_law_483 dL_law_484 dL_law_485 dL_law_486 dL_law_487 (by omega) ?_
  refine L_argc (k := 3) X hL rfl dL_law_488 dL_law_489 dL_law_490 dL_law_491 dL_law_492 (by omega) ?_
  refine L_argc (k := 4) X hL rfl dL_law_493 dL_law_494 dL_law_495 dL_law_496 dL_law_497 (by omega) ?_
  refine L_argc (k := 5) X hL rfl dL_law_498 dL_law_499 dL_law_500 dL_law_501 dL_law_502 (by omega) ?_
  refine L_callV (mc := 0) (ms := 0) (as := [aI (xs (i + 1)), aI (xs (i + 2)), aI (xs (i + 3)), aI (xs (i + 4)), aI (xs (i + 5))]) (st := [aI x]) (by decide) rt_26 rfl dL_law_503 okX10_feed inX10_feed seX10_feed (gwL (by decide +kernel) rfl) rfl (Nat.le_of_ble_eq_true rfl) (Nat.zero_le _) (Nat.zero_le _) (Cl.mono (fun r h2 z => ?_) z2)
  obtain ⟨rfl, I2⟩ := z
  show LV true Γ _ _ 506 (lvL i) [aI x, aI x] h2
  exact L_icmpeq 785 dL_law_506 (by decide) rfl (kk h2 I2)
theorem L_c_end (X : LX Γ L xs) (hL : L ≤ 4096) (hi : i + 8 ≤ L) (I : Inv h) (kk : ∀ h2, Inv h2 → LV true Γ (bc - 0) (bs - 0) 785 (lvL i) [] h2) : LV true Γ bc bs 511 (lvL i) [] h := by
  refine L_aload 1 dL_law_511 rfl rfl ?_
  refine L_argc (k := 1) X hL rfl dL_law_512 dL_law_513 dL_law_514 dL_law_515 dL_law_516 (by omega) ?_
  refine L_callV (mc := 0) (ms := 0) (as := [aI (xs (i + 1))]) (st := []) (by decide) rt_0 rfl dL_law_517 okX9_end inX9_end seX9_end (gwL (by decide +kernel) rfl) rfl (Nat.le_of_ble_eq_true rfl) (Nat.zero_le _) (Nat.zero_le _) (Cl.mono (fun r h1 z => ?_) (sim_end I))
  obtain ⟨x, rfl, z2⟩ := z
  show LV true Γ _ _ 520 (lvL i) [aI x] h1
  refine L_aload 2 dL_law_520 rfl rfl ?_
  refine L_argc (k := 1) X hL rfl dL_law_521 dL_law_522 dL_law_523 dL_law_524 dL_law_525 (by omega) ?_
  refine L_callV (mc := 0) (ms := 0) (as := [aI (xs (i + 1))]) (st := [aI x]) (by decide) rt_26 rfl dL_law_526 okX10_end inX10_end seX10_end (gwL (by decide +kernel) rfl) rfl (Nat.le_of_ble_eq_true rfl) (Nat.zero_le _) (Nat.zero_le _) (Cl.mono (fun r h2 z => ?_) z2)
  obtain ⟨rfl, I2⟩ := z
  show LV true Γ _ _ 529 (lvL i) [aI x, aI x] h2
  exact L_icmpeq 785 dL_law_529 (by decide) rfl (kk h2 I2)
theorem L_c_rule (X : LX Γ L xs) (hL : L ≤ 4096) (hi : i + 8 ≤ L) (I : Inv h) (kk : ∀ h2, Inv h2 → LV true Γ (bc - 0) (bs - 0) 785 (lvL i) [] h2) : LV true Γ bc bs 534 (lvL i) [] h := by
  refine L_aload 1 dL_law_534 rfl rfl ?_
  refine L_callV (mc := 0) (ms := 0) (as := []) (st := []) (by decide) rt_0 rfl dL_law_535 okX9_rule inX9_rule seX9_rule (gwL (by decide +kernel) rfl) rfl (Nat.le_of_ble_eq_true rfl) (Nat.zero_le _) (Nat.zero_le _) (Cl.mono (fun r h1 z => ?_) (sim_rule I))
  obtain ⟨x, rfl, z2⟩ := z
  show LV true Γ _ _ 538 (lvL i) [aI x] h1
  refine L_aload 2 dL_law_538 rfl rfl ?_
  refine L_callV (mc := 0) (ms := 0) (as := []) (st := [aI x]) (by decide) rt_26 rfl dL_law_539 okX10_rule inX10_rule seX10_rule (gwL (by decide +kernel) rfl) rfl (Nat.le_of_ble_eq_true rfl) (Nat.zero_le _) (Nat.zero_le _) (Cl.mono (fun r h2 z => ?_) z2)
  obtain ⟨rfl, I2⟩ := z
  show LV true Γ _ _ 542 (lvL i) [aI x, aI x] h2
  exact L_icmpeq 785 dL_law_542 (by decide) rfl (kk h2 I2)
theorem L_c_fault (X : LX Γ L xs) (hL : L ≤ 4096) (hi : i + 8 ≤ L) (I : Inv h) (kk : ∀ h2, Inv h2 → LV true Γ (bc - 0) (bs - 0) 785 (lvL i) [] h2) : LV true Γ bc bs 547 (lvL i) [] h := by
  refine L_aload 1 dL_law_547 rfl rfl ?_
  refine L_argc (k := 1) X hL rfl dL_law_548 dL_law_549 dL_law_550 dL_law_551 dL_law_552 (by omega) ?_
  refine L_callV (mc := 0) (ms := 0) (as := [aI (xs (i + 1))]) (st := []) (by decide) rt_0 rfl dL_law_553 okX9_fault inX9_fault seX9_fault (gwL (by decide +kernel) rfl) rfl (Nat.le_of_ble_eq_true rfl) (Nat.zero_le _) (Nat.zero_le _) (Cl.mono (fun r h1 z => ?_) (sim_fault I))
  obtain ⟨x, rfl, z2⟩ := z
  show LV true Γ _ _ 556 (lvL i) [aI x] h1
  refine L_aload 2 dL_law_556 rfl rfl ?_
  refine L_argc (k := 1) X hL rfl dL_law_557 dL_law_558 dL_law_559 dL_law_560 dL_law_561 (by omega) ?_
  refine L_callV (mc := 0) (ms := 0) (as := [aI (xs (i + 1))]) (st := [aI x]) (by decide) rt_26 rfl dL_law_562 okX10_fault inX10_fault seX10_fault (gwL (by decide +kernel) rfl) rfl (Nat.le_of_ble_eq_true rfl) (Nat.zero_le _) (Nat.zero_le _) (Cl.mono (fun r h2 z => ?_) z2)
  obtain ⟨rfl, I2⟩ := z
  show LV true Γ _ _ 565 (lvL i) [aI x, aI x] h2
  exact L_icmpeq 785 dL_law_565 (by decide) rfl (kk h2 I2)
theorem L_c_pay (X : LX Γ L xs) (hL : L ≤ 4096) (hi : i + 8 ≤ L) (I : Inv h) (kk : ∀ h2, Inv h2 → LV true Γ (bc - 0) (bs - 0) 785 (lvL i) [] h2) : LV true Γ bc bs 570 (lvL i) [] h := by
  refine L_aload 1 dL_law_570 rfl rfl ?_
  refine L_argc (k := 1) X hL rfl dL_law_571 dL_law_572 dL_law_573 dL_law_574 dL_law_575 (by omega) ?_
  refine L_argc (k := 2) X hL rfl dL_law_576 dL_law_577 dL_law_578 dL_law_579 dL_law_580 (by omega) ?_
  refine L_argc (k := 3) X hL rfl dL_law_581 dL_law_582 dL_law_583 dL_law_584 dL_law_585 (by omega) ?_
  refine L_callV (mc := 0) (ms := 0) (as := [aI (xs (i + 1)), aI (xs (i + 2)), aI (xs (i + 3))]) (st := []) (by decide) rt_0 rfl dL_law_586 okX9_pay inX9_pay seX9_pay (gwL (by decide +kernel) rfl) rfl (Nat.le_of_ble_eq_true rfl) (Nat.zero_le _) (Nat.zero_le _) (Cl.mono (fun r h1 z => ?_) (sim_pay I))
  obtain ⟨x, rfl, z2⟩ := z
  show LV true Γ _ _ 589 (lvL i) [aI x] h1
  refine L_aload 2 dL_law_589 rfl rfl ?_
  refine L_argc (k := 1) X hL rfl dL_law_590 dL_law_591 dL_law_592 dL_law_593 dL_law_594 (by omega) ?_
  refine L_argc (k := 2) X hL rfl dL_law_595 dL_law_596 dL_law_597 dL_law_598 dL_law_599 (by omega) ?_
  refine L_argc (k := 3) X hL rfl dL_law_600 dL_law_601 dL_law_602 dL_law_603 dL_law_604 (by omega) ?_
  refine L_callV (mc := 0) (ms := 0) (as := [aI (xs (i + 1)), aI (xs (i + 2)), aI (xs (i + 3))]) (st := [aI x]) (by decide) rt_26 rfl dL_law_605 okX10_pay inX10_pay seX10_pay (gwL (by decide +kernel) rfl) rfl (Nat.le_of_ble_eq_true rfl) (Nat.zero_le _) (Nat.zero_le _) (Cl.mono (fun r h2 z => ?_) z2)
  obtain ⟨rfl, I2⟩ := z
  show LV true Γ _ _ 608 (lvL i) [aI x, aI x] h2
  exact L_icmpeq 785 dL_law_608 (by decide) rfl (kk h2 I2)
theorem L_c_statement (X : LX Γ L xs) (hL : L ≤ 4096) (hi : i + 8 ≤ L) (I : Inv h) (kk : ∀ h2, Inv h2 → LV true Γ (bc - 0) (bs - 0) 785 (lvL i) [] h2) : LV true Γ bc bs 613 (lvL i) [] h := by
  refine L_aload 1 dL_law_613 rfl rfl ?_
  refine L_argc (k := 1) X hL rfl dL_law_614 dL_law_615 dL_law_616 dL_law_617 dL_law_618 (by omega) ?_
  refine L_argc (k := 2) X hL rfl dL_law_619 dL_law_620 dL_law_621 dL_law_622 dL_law_623 (by omega) ?_
  refine L_argc (k := 3) X hL rfl dL_law_624 dL_law_625 dL_law_626 dL_law_627 dL_law_628 (by omega) ?_
  refine L_callV (mc := 0) (ms := 0) (as := [aI (xs (i + 1)), aI (xs (i + 2)), aI (xs (i + 3))]) (st := []) (by decide) rt_0 rfl dL_law_629 okX9_statement inX9_statement seX9_statement (gwL (by decide +kernel) rfl) rfl (Nat.le_of_ble_eq_true rfl) (Nat.zero_le _) (Nat.zero_le _) (Cl.mono (fun r h1 z => ?_) (sim_statement I))
  obtain ⟨x, rfl, z2⟩ := z
  show LV true Γ _ _ 632 (lvL i) [aI x] h1
  refine L_aload 2 dL_law_632 rfl rfl ?_
  refine L_argc (k := 1) X hL rfl dL_law_633 dL_law_634 dL_law_635 dL_law_636 dL_law_637 (by omega) ?_
  refine L_argc (k := 2) X hL rfl dL_law_638 dL_law_639 dL_law_640 dL_law_641 dL_law_642 (by omega) ?_
  refine L_argc (k := 3) X hL rfl dL_law_643 dL_law_644 dL_law_645 dL_law_646 dL_law_647 (by omega) ?_
  refine L_callV (mc := 0) (ms := 0) (as := [aI (xs (i + 1)), aI (xs (i + 2)), aI (xs (i + 3))]) (st := [aI x]) (by decide) rt_26 rfl dL_law_648 okX10_statement inX10_statement seX10_statement (gwL (by decide +kernel) rfl) rfl (Nat.le_of_ble_eq_true rfl) (Nat.zero_le _) (Nat.zero_le _) (Cl.mono (fun r h2 z => ?_) z2)
  obtain ⟨rfl, I2⟩ := z
  show LV true Γ _ _ 651 (lvL i) [aI x, aI x] h2
  exact L_icmpeq 785 dL_law_651 (by decide) rfl (kk h2 I2)
theorem L_c_count (X : LX Γ L xs) (hL : L ≤ 4096) (hi : i + 8 ≤ L) (I : Inv h) (kk : ∀ h2, Inv h2 → LV true Γ (bc - 0) (bs - 0) 785 (lvL i) [] h2) : LV true Γ bc bs 656 (lvL i) [] h := by
  refine L_aload 1 dL_law_656 rfl rfl ?_
  refine L_argc (k := 1) X hL rfl dL_law_657 dL_law_658 dL_law_659 dL_law_660 dL_law_661 (by omega) ?_
  refine L_argc (k := 2) X hL rfl dL_law_662 dL_law_663 dL_law_664 dL_law_665 dL_law_666 (by omega) ?_
  refine L_callV (mc := 0) (ms := 0) (as := [aI (xs (i + 1)), aI (xs (i + 2))]) (st := []) (by decide) rt_0 rfl dL_law_667 okX9_count inX9_count seX9_count (gwL (by decide +kernel) rfl) rfl (Nat.le_of_ble_eq_true rfl) (Nat.zero_le _) (Nat.zero_le _) (Cl.mono (fun r h1 z => ?_) (sim_count I))
  obtain ⟨x, rfl, z2⟩ := z
  show LV true Γ _ _ 670 (lvL i) [aI x] h1
  refine L_aload 2 dL_law_670 rfl rfl ?_
  refine L_argc (k := 1) X hL rfl dL_law_671 dL_law_672 dL_law_673 dL_law_674 dL_law_675 (by omega) ?_
  refine L_argc (k := 2) X hL rfl dL_law_676 dL_law_677 dL_law_678 dL_law_679 dL_law_680 (by omega) ?_
  refine L_callV (mc := 0) (ms := 0) (as := [aI (xs (i + 1)), aI (xs (i + 2))]) (st := [aI x]) (by decide) rt_26 rfl dL_law_681 okX10_count inX10_count seX10_count (gwL (by decide +kernel) rfl) rfl (Nat.le_of_ble_eq_true rfl) (Nat.zero_le _) (Nat.zero_le _) (Cl.mono (fun r h2 z => ?_) z2)
  obtain ⟨rfl, I2⟩ := z
  show LV true Γ _ _ 684 (lvL i) [aI x, aI x] h2
  exact L_icmpeq 785 dL_law_684 (by decide) rfl (kk h2 I2)
theorem L_c_level (X : LX Γ L xs) (hL : L ≤ 4096) (hi : i + 8 ≤ L) (I : Inv h) (kk : ∀ h2, Inv h2 → LV true Γ (bc - 0) (bs - 0) 785 (lvL i) [] h2) : LV true Γ bc bs 689 (lvL i) [] h := by
  refine L_aload 1 dL_law_689 rfl rfl ?_
  refine L_argc (k := 1) X hL rfl dL_law_690 dL_law_691 dL_law_692 dL_law_693 dL_law_694 (by omega) ?_
  refine L_argc (k := 2) X hL rfl dL_law_695 dL_law_696 dL_law_697 dL_law_698 dL_law_699 (by omega) ?_
  refine L_argc (k := 3) X hL rfl dL_law_700 dL_law_701 dL_law_702 dL_law_703 dL_law_704 (by omega) ?_
  refine L_callV (mc := 0) (ms := 0) (as := [aI (xs (i + 1)), aI (xs (i + 2)), aI (xs (i + 3))]) (st := []) (by decide) rt_0 rfl dL_law_705 okX9_level inX9_level seX9_level (gwL (by decide +kernel) rfl) rfl (Nat.le_of_ble_eq_true rfl) (Nat.zero_le _) (Nat.zero_le _) (Cl.mono (fun r h1 z => ?_) (sim_level I))
  obtain ⟨x, rfl, z2⟩ := z
  show LV true Γ _ _ 708 (lvL i) [aI x] h1
  refine L_aload 2 dL_law_708 rfl rfl ?_
  refine L_argc (k := 1) X hL rfl dL_law_709 dL_law_710 dL_law_711 dL_law_712 dL_law_713 (by omega) ?_
  refine L_argc (k := 2) X hL rfl dL_law_714 dL_law_715 dL_law_716 dL_law_717 dL_law_718 (by omega) ?_
  refine L_argc (k := 3) X hL rfl dL_law_719 dL_law_720 dL_law_721 dL_law_722 dL_law_723 (by omega) ?_
  refine L_callV (mc := 0) (ms := 0) (as := [aI (xs (i + 1)), aI (xs (i + 2)), aI (xs (i + 3))]) (st := [aI x]) (by decide) rt_26 rfl dL_law_724 okX10_level inX10_level seX10_level (gwL (by decide +kernel) rfl) rfl (Nat.le_of_ble_eq_true rfl) (Nat.zero_le _) (Nat.zero_le _) (Cl.mono (fun r h2 z => ?_) z2)
  obtain ⟨rfl, I2⟩ := z
  show LV true Γ _ _ 727 (lvL i) [aI x, aI x] h2
  exact L_icmpeq 785 dL_law_727 (by decide) rfl (kk h2 I2)
theorem L_c_best (X : LX Γ L xs) (hL : L ≤ 4096) (hi : i + 8 ≤ L) (I : Inv h) (kk : ∀ h2, Inv h2 → LV true Γ (bc - 0) (bs - 0) 785 (lvL i) [] h2) : LV true Γ bc bs 732 (lvL i) [] h := by
  refine L_aload 1 dL_law_732 rfl rfl ?_
  refine L_argc (k := 1) X hL rfl dL_law_733 dL_law_734 dL_law_735 dL_law_736 dL_law_737 (by omega) ?_
  refine L_argc (k := 2) X hL rfl dL_law_738 dL_law_739 dL_law_740 dL_law_741 dL_law_742 (by omega) ?_
  refine L_argc (k := 3) X hL rfl dL_law_743 dL_law_744 dL_law_745 dL_law_746 dL_law_747 (by omega) ?_
  refine L_argc (k := 4) X hL rfl dL_law_748 dL_law_749 dL_law_750 dL_law_751 dL_law_752 (by omega) ?_
  refine L_callV (mc := 0) (ms := 0) (as := [aI (xs (i + 1)), aI (xs (i + 2)), aI (xs (i + 3)), aI (xs (i + 4))]) (st := []) (by decide) rt_0 rfl dL_law_753 okX9_best inX9_best seX9_best (gwL (by decide +kernel) rfl) rfl (Nat.le_of_ble_eq_true rfl) (Nat.zero_le _) (Nat.zero_le _) (Cl.mono (fun r h1 z => ?_) (sim_best I))
  obtain ⟨x, rfl, z2⟩ := z
  show LV true Γ _ _ 756 (lvL i) [aI x] h1
  refine L_aload 2 dL_law_756 rfl rfl ?_
  refine L_argc (k := 1) X hL rfl dL_law_757 dL_law_758 dL_law_759 dL_law_760 dL_law_761 (by omega) ?_
  refine L_argc (k := 2) X hL rfl dL_law_762 dL_law_763 dL_law_764 dL_law_765 dL_law_766 (by omega) ?_
  refine L_argc (k := 3) X hL rfl dL_law_767 dL_law_768 dL_law_769 dL_law_770 dL_law_771 (by omega) ?_
  refine L_argc (k := 4) X hL rfl dL_law_772 dL_law_773 dL_law_774 dL_law_775 dL_law_776 (by omega) ?_
  refine L_callV (mc := 0) (ms := 0) (as := [aI (xs (i + 1)), aI (xs (i + 2)), aI (xs (i + 3)), aI (xs (i + 4))]) (st := [aI x]) (by decide) rt_26 rfl dL_law_777 okX10_best inX10_best seX10_best (gwL (by decide +kernel) rfl) rfl (Nat.le_of_ble_eq_true rfl) (Nat.zero_le _) (Nat.zero_le _) (Cl.mono (fun r h2 z => ?_) z2)
  obtain ⟨rfl, I2⟩ := z
  show LV true Γ _ _ 780 (lvL i) [aI x, aI x] h2
  exact L_icmpeq 785 dL_law_780 (by decide) rfl (kk h2 I2)
theorem L_loop (X : LX Γ L xs) (hL : L ≤ 4096) : ∀ r i h, L < i + 8 * (r + 1) → i ≤ 5000 → Inv h → LV true Γ (3 * r) (569 * r) 18 (lvL i) [] h := by
  intro r
  induction r with
  | zero =>
    intro i h h1 h2 I
    refine L_iload 3 dL_law_18 rfl rfl (L_aload 0 dL_law_19 rfl rfl (L_slen X dL_law_20 (L_bipush 8 dL_law_21 (by decide) (L_isub dL_law_23 (L_icmpgt 791 dL_law_24 (by decide) ⟨fun _ => L_iconst 1 dL_law_791 (by decide) (L_ret dL_law_792), fun z => ?_⟩)))))
    refine absurd ?_ z
    rw [iLt, show (nI L - 8 : Int32).toInt = (L : Int) - 8 from pk_sub_toInt (a := L) (b := 8) (by omega) (by decide), nI_toInt (by omega)]
    omega
  | succ r ih =>
    intro i h h1 h2 I
    refine L_iload 3 dL_law_18 rfl rfl (L_aload 0 dL_law_19 rfl rfl (L_slen X dL_law_20 (L_bipush 8 dL_law_21 (by decide) (L_isub dL_law_23 (L_icmpgt 791 dL_law_24 (by decide) ⟨fun _ => L_iconst 1 dL_law_791 (by decide) (L_ret dL_law_792), fun z => ?_⟩)))))
    rw [iLt, show (nI L - 8 : Int32).toInt = (L : Int) - 8 from pk_sub_toInt (a := L) (b := 8) (by omega) (by decide), nI_toInt (by omega)] at z
    have hi : i + 8 ≤ L := by omega
    have nx : ∀ h2, Inv h2 → ∀ bc bs, 3 * r ≤ bc → 569 * r ≤ bs → LV true Γ bc bs 785 (lvL i) [] h2 := fun h2 I2 bc bs q1 q2 => by
      refine LV_bud q1 q2 (L_iinc 3 (v := nI (i + 8)) dL_law_785 rfl (nI_add i 8) (by decide) rfl (L_goto 18 dL_law_788 (by decide) ?_))
      exact ih (i + 8) h2 (by omega) (by omega) I2
    refine L_aload 0 dL_law_27 rfl rfl (L_iload 3 dL_law_28 rfl rfl (L_sld X dL_law_29 (vp_in_nI (by omega) (by omega)) ?_))
    rw [nI_clamp (by omega)]
    refine L_bipush 31 dL_law_30 (by decide) (L_iand dL_law_32 ?_)
    obtain ⟨j, hj, e⟩ := pk_andE (xs i) (m := 31) 5 (by decide)
    rw [e]
    have hj' : j < 19 ∨ 19 ≤ j := by omega
    rcases hj' with q | q
    rotate_left
    · refine L_tabOut 785 dL_law_33 (Or.inr ?_) (by decide) (nx h I _ _ (by omega) (by omega))
      rw [nI_toInt (by omega)]
      omega
    have hc : j = 0 ∨ j = 1 ∨ j = 2 ∨ j = 3 ∨ j = 4 ∨ j = 5 ∨ j = 6 ∨ j = 7 ∨ j = 8 ∨ j = 9 ∨ j = 10 ∨ j = 11 ∨ j = 12 ∨ j = 13 ∨ j = 14 ∨ j = 15 ∨ j = 16 ∨ j = 17 ∨ j = 18 := by omega
    rcases hc with rfl | rfl | rfl | rfl | rfl | rfl | rfl | rfl | rfl | rfl | rfl | rfl | rfl | rfl | rfl | rfl | rfl | rfl | rfl
    · exact L_tabIn 124 dL_law_33 (by decide) (by decide) (off := 91) (by decide) (by decide) (L_c_thing X hL (by omega) I (by omega) (by omega) (fun h2 I2 => nx h2 I2 _ _ (by omega) (by omega)))
    · exact L_tabIn 157 dL_law_33 (by decide) (by decide) (off := 124) (by decide) (by decide) (L_c_tag X hL (by omega) I (fun h2 I2 => nx h2 I2 _ _ (by omega) (by omega)))
    · exact L_tabIn 190 dL_law_33 (by decide) (by decide) (off := 157) (by decide) (by decide) (L_c_of X hL (by omega) I (fun h2 I2 => nx h2 I2 _ _ (by omega) (by omega)))
    · exact L_tabIn 223 dL_law_33 (by decide) (by decide) (off := 190) (by decide) (by decide) (L_c_next X hL (by omega) I (fun h2 I2 => nx h2 I2 _ _ (by omega) (by omega)))
    · exact L_tabIn 236 dL_law_33 (by decide) (by decide) (off := 203) (by decide) (by decide) (L_c_slip X hL (by omega) I (by omega) (by omega) (fun h2 I2 => nx h2 I2 _ _ (by omega) (by omega)))
    · exact L_tabIn 323 dL_law_33 (by decide) (by decide) (off := 290) (by decide) (by decide) (L_c_paper X hL (by omega) I (fun h2 I2 => nx h2 I2 _ _ (by omega) (by omega)))
    · exact L_tabIn 356 dL_law_33 (by decide) (by decide) (off := 323) (by decide) (by decide) (L_c_back X hL (by omega) I (fun h2 I2 => nx h2 I2 _ _ (by omega) (by omega)))
    · exact L_tabIn 379 dL_law_33 (by decide) (by decide) (off := 346) (by decide) (by decide) (L_c_look X hL (by omega) I (fun h2 I2 => nx h2 I2 _ _ (by omega) (by omega)))
    · exact L_tabIn 402 dL_law_33 (by decide) (by decide) (off := 369) (by decide) (by decide) (L_c_van X hL (by omega) I (fun h2 I2 => nx h2 I2 _ _ (by omega) (by omega)))
    · exact L_tabIn 425 dL_law_33 (by decide) (by decide) (off := 392) (by decide) (by decide) (L_c_house X hL (by omega) I (fun h2 I2 => nx h2 I2 _ _ (by omega) (by omega)))
    · exact L_tabIn 448 dL_law_33 (by decide) (by decide) (off := 415) (by decide) (by decide) (L_c_feed X hL (by omega) I (fun h2 I2 => nx h2 I2 _ _ (by omega) (by omega)))
    · exact L_tabIn 511 dL_law_33 (by decide) (by decide) (off := 478) (by decide) (by decide) (L_c_end X hL (by omega) I (fun h2 I2 => nx h2 I2 _ _ (by omega) (by omega)))
    · exact L_tabIn 534 dL_law_33 (by decide) (by decide) (off := 501) (by decide) (by decide) (L_c_rule X hL (by omega) I (fun h2 I2 => nx h2 I2 _ _ (by omega) (by omega)))
    · exact L_tabIn 547 dL_law_33 (by decide) (by decide) (off := 514) (by decide) (by decide) (L_c_fault X hL (by omega) I (fun h2 I2 => nx h2 I2 _ _ (by omega) (by omega)))
    · exact L_tabIn 570 dL_law_33 (by decide) (by decide) (off := 537) (by decide) (by decide) (L_c_pay X hL (by omega) I (fun h2 I2 => nx h2 I2 _ _ (by omega) (by omega)))
    · exact L_tabIn 613 dL_law_33 (by decide) (by decide) (off := 580) (by decide) (by decide) (L_c_statement X hL (by omega) I (fun h2 I2 => nx h2 I2 _ _ (by omega) (by omega)))
    · exact L_tabIn 656 dL_law_33 (by decide) (by decide) (off := 623) (by decide) (by decide) (L_c_count X hL (by omega) I (fun h2 I2 => nx h2 I2 _ _ (by omega) (by omega)))
    · exact L_tabIn 689 dL_law_33 (by decide) (by decide) (off := 656) (by decide) (by decide) (L_c_level X hL (by omega) I (fun h2 I2 => nx h2 I2 _ _ (by omega) (by omega)))
    · exact L_tabIn 732 dL_law_33 (by decide) (by decide) (off := 699) (by decide) (by decide) (L_c_best X hL (by omega) I (fun h2 I2 => nx h2 I2 _ _ (by omega) (by omega)))
end LQ
