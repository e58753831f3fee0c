theorem lm_L_13 : Cond.methodLink RL 13 yX10_person ∈ k_gw := k_at 363 (by decide +kernel) rfl
theorem lm_L_17 : Cond.methodLink RL 17 yX11_person ∈ k_gw := k_at 995 (by decide +kernel) rfl
theorem lm_L_18 : Cond.methodLink RL 18 yX10_personIs ∈ k_gw := k_at 387 (by decide +kernel) rfl
theorem lm_L_22 : Cond.methodLink RL 22 yX11_personIs ∈ k_gw := k_at 1016 (by decide +kernel) rfl
theorem lm_L_23 : Cond.methodLink RL 23 yX10_become ∈ k_gw := k_at 413 (by decide +kernel) rfl
theorem lm_L_26 : Cond.methodLink RL 26 yX11_become ∈ k_gw := k_at 1032 (by decide +kernel) rfl
theorem lm_L_27 : Cond.methodLink RL 27 yX10_as ∈ k_gw := k_at 418 (by decide +kernel) rfl
theorem lm_L_30 : Cond.methodLink RL 30 yX11_as ∈ k_gw := k_at 1040 (by decide +kernel) rfl
theorem lm_L_31 : Cond.methodLink RL 31 yX10_change ∈ k_gw := k_at 434 (by decide +kernel) rfl
theorem lm_L_35 : Cond.methodLink RL 35 yX11_change ∈ k_gw := k_at 1045 (by decide +kernel) rfl
theorem lm_L_36 : Cond.methodLink RL 36 yX10_has ∈ k_gw := k_at 438 (by decide +kernel) rfl
theorem lm_L_39 : Cond.methodLink RL 39 yX11_has ∈ k_gw := k_at 1049 (by decide +kernel) rfl
theorem lm_L_40 : Cond.methodLink RL 40 yX10_give ∈ k_gw := k_at 446 (by decide +kernel) rfl
theorem lm_L_43 : Cond.methodLink RL 43 yX11_give ∈ k_gw := k_at 1056 (by decide +kernel) rfl
theorem lm_L_44 : Cond.methodLink RL 44 yX10_price ∈ k_gw := k_at 451 (by decide +kernel) rfl
theorem lm_L_47 : Cond.methodLink RL 47 yX11_price ∈ k_gw := k_at 1060 (by decide +kernel) rfl
theorem lm_L_48 : Cond.methodLink RL 48 yX10_sell ∈ k_gw := k_at 487 (by decide +kernel) rfl
theorem lm_L_51 : Cond.methodLink RL 51 yX11_sell ∈ k_gw := k_at 1082 (by decide +kernel) rfl
theorem lm_L_52 : Cond.methodLink RL 52 yX10_sellWeek ∈ k_gw := k_at 514 (by decide +kernel) rfl
theorem lm_L_55 : Cond.methodLink RL 55 yX11_sellWeek ∈ k_gw := k_at 1099 (by decide +kernel) rfl
theorem lm_L_56 : Cond.methodLink RL 56 yX10_promise ∈ k_gw := k_at 522 (by decide +kernel) rfl
theorem lm_L_59 : Cond.methodLink RL 59 yX11_promise ∈ k_gw := k_at 1114 (by decide +kernel) rfl
theorem lm_L_60 : Cond.methodLink RL 60 yX10_promiseIs ∈ k_gw := k_at 530 (by decide +kernel) rfl
theorem lm_L_63 : Cond.methodLink RL 63 yX11_promiseIs ∈ k_gw := k_at 1118 (by decide +kernel) rfl
theorem lm_L_66 : Cond.methodLink RL 66 yX10_feed ∈ k_gw := k_at 543 (by decide +kernel) rfl
theorem lm_L_70 : Cond.methodLink RL 70 yX11_feed ∈ k_gw := k_at 1134 (by decide +kernel) rfl
theorem lm_L_71 : Cond.methodLink RL 71 yX10_text ∈ k_gw := k_at 551 (by decide +kernel) rfl
theorem lm_L_74 : Cond.methodLink RL 74 yX11_text ∈ k_gw := k_at 1139 (by decide +kernel) rfl
theorem lm_L_75 : Cond.methodLink RL 75 yX10_untell ∈ k_gw := k_at 612 (by decide +kernel) rfl
theorem lm_L_78 : Cond.methodLink RL 78 yX11_untell ∈ k_gw := k_at 1187 (by decide +kernel) rfl
theorem lm_L_79 : Cond.methodLink RL 79 yX10_law ∈ k_gw := k_at 617 (by decide +kernel) rfl
theorem lm_L_83 : Cond.methodLink RL 83 yX11_law ∈ k_gw := k_at 1191 (by decide +kernel) rfl
theorem lm_L_84 : Cond.methodLink RL 84 yX10_days ∈ k_gw := k_at 622 (by decide +kernel) rfl
theorem lm_L_87 : Cond.methodLink RL 87 yX11_days ∈ k_gw := k_at 1195 (by decide +kernel) rfl
theorem lm_L_88 : Cond.methodLink RL 88 yX10_loose ∈ k_gw := k_at 650 (by decide +kernel) rfl
theorem lm_L_91 : Cond.methodLink RL 91 yX11_loose ∈ k_gw := k_at 1215 (by decide +kernel) rfl
theorem lm_L_92 : Cond.methodLink RL 92 yX10_seed ∈ k_gw := k_at 665 (by decide +kernel) rfl
theorem lm_L_95 : Cond.methodLink RL 95 yX11_seed ∈ k_gw := k_at 1228 (by decide +kernel) rfl
theorem lm_L_96 : Cond.methodLink RL 96 yX10_then ∈ k_gw := k_at 669 (by decide +kernel) rfl
theorem lm_L_99 : Cond.methodLink RL 99 yX11_then ∈ k_gw := k_at 1232 (by decide +kernel) rfl
theorem lm_L_100 : Cond.methodLink RL 100 yX10_alone ∈ k_gw := k_at 675 (by decide +kernel) rfl
theorem lm_L_103 : Cond.methodLink RL 103 yX11_alone ∈ k_gw := k_at 1236 (by decide +kernel) rfl
theorem lm_L_104 : Cond.methodLink RL 104 yX10_meet ∈ k_gw := k_at 684 (by decide +kernel) rfl
theorem lm_L_107 : Cond.methodLink RL 107 yX11_meet ∈ k_gw := k_at 1240 (by decide +kernel) rfl
theorem lm_L_108 : Cond.methodLink RL 108 yX10_keepers ∈ k_gw := k_at 692 (by decide +kernel) rfl
theorem lm_L_111 : Cond.methodLink RL 111 yX11_keepers ∈ k_gw := k_at 1245 (by decide +kernel) rfl
theorem lm_L_112 : Cond.methodLink RL 112 yX10_buys ∈ k_gw := k_at 713 (by decide +kernel) rfl
theorem lm_L_115 : Cond.methodLink RL 115 yX11_buys ∈ k_gw := k_at 1256 (by decide +kernel) rfl
theorem lm_L_116 : Cond.methodLink RL 116 yX10_bailiffs ∈ k_gw := k_at 731 (by decide +kernel) rfl
theorem lm_L_119 : Cond.methodLink RL 119 yX11_bailiffs ∈ k_gw := k_at 1264 (by decide +kernel) rfl
theorem lm_L_120 : Cond.methodLink RL 120 yX10_odds ∈ k_gw := k_at 774 (by decide +kernel) rfl
theorem lm_L_123 : Cond.methodLink RL 123 yX11_odds ∈ k_gw := k_at 1276 (by decide +kernel) rfl
theorem lm_L_124 : Cond.methodLink RL 124 yX10_fits ∈ k_gw := k_at 781 (by decide +kernel) rfl
theorem lm_L_127 : Cond.methodLink RL 127 yX11_fits ∈ k_gw := k_at 1280 (by decide +kernel) rfl
theorem lm_L_128 : Cond.methodLink RL 128 yX10_voice ∈ k_gw := k_at 800 (by decide +kernel) rfl
theorem lm_L_131 : Cond.methodLink RL 131 yX11_voice ∈ k_gw := k_at 1291 (by decide +kernel) rfl
theorem lm_L_132 : Cond.methodLink RL 132 yX10_body ∈ k_gw := k_at 835 (by decide +kernel) rfl
theorem lm_L_135 : Cond.methodLink RL 135 yX11_body ∈ k_gw := k_at 1340 (by decide +kernel) rfl
theorem lm_L_136 : Cond.methodLink RL 136 yX10_sheet ∈ k_gw := k_at 839 (by decide +kernel) rfl
theorem lm_L_139 : Cond.methodLink RL 139 yX11_sheet ∈ k_gw := k_at 1344 (by decide +kernel) rfl
theorem lm_L_140 : Cond.methodLink RL 140 yX10_put ∈ k_gw := k_at 847 (by decide +kernel) rfl
theorem lm_L_143 : Cond.methodLink RL 143 yX11_put ∈ k_gw := k_at 1348 (by decide +kernel) rfl
theorem lm_L_144 : Cond.methodLink RL 144 yX10_move ∈ k_gw := k_at 855 (by decide +kernel) rfl
theorem lm_L_148 : Cond.methodLink RL 148 yX11_move ∈ k_gw := k_at 1352 (by decide +kernel) rfl
theorem lm_L_149 : Cond.methodLink RL 149 yX10_funds ∈ k_gw := k_at 868 (by decide +kernel) rfl
theorem lm_L_152 : Cond.methodLink RL 152 yX11_funds ∈ k_gw := k_at 1360 (by decide +kernel) rfl
theorem lm_L_153 : Cond.methodLink RL 153 yX10_judge ∈ k_gw := k_at 873 (by decide +kernel) rfl
theorem lm_L_156 : Cond.methodLink RL 156 yX11_judge ∈ k_gw := k_at 1364 (by decide +kernel) rfl
theorem lm_L_157 : Cond.methodLink RL 157 yX10_image ∈ k_gw := k_at 877 (by decide +kernel) rfl
theorem lm_L_161 : Cond.methodLink RL 161 yX11_image ∈ k_gw := k_at 1368 (by decide +kernel) rfl
theorem lm_L_162 : Cond.methodLink RL 162 yX10_restore ∈ k_gw := k_at 896 (by decide +kernel) rfl
theorem lm_L_165 : Cond.methodLink RL 165 yX11_restore ∈ k_gw := k_at 1372 (by decide +kernel) rfl
theorem lm_L_166 : Cond.methodLink RL 166 yX10_tell ∈ k_gw := k_at 900 (by decide +kernel) rfl
theorem lm_L_169 : Cond.methodLink RL 169 yX11_tell ∈ k_gw := k_at 1376 (by decide +kernel) rfl
theorem lm_L_170 : Cond.methodLink RL 170 yX10_check ∈ k_gw := k_at 904 (by decide +kernel) rfl
theorem lm_L_173 : Cond.methodLink RL 173 yX11_check ∈ k_gw := k_at 1380 (by decide +kernel) rfl
theorem lm_L_174 : Cond.methodLink RL 174 yX10_count ∈ k_gw := k_at 908 (by decide +kernel) rfl
theorem lm_L_177 : Cond.methodLink RL 177 yX11_count ∈ k_gw := k_at 1384 (by decide +kernel) rfl
theorem lm_L_178 : Cond.methodLink RL 178 yX10_told ∈ k_gw := k_at 912 (by decide +kernel) rfl
theorem lm_L_181 : Cond.methodLink RL 181 yX11_told ∈ k_gw := k_at 1388 (by decide +kernel) rfl
theorem lc_L_64 : Cond.constantLong RL 64 (4294967295 : Int64) ∈ k_gw := k_at 1392 (by decide +kernel) rfl
section P75
variable {l : Launch} {G : va_G} {cI : ClassId} {adC adR : Nat → Nat} {b L i : Nat} {xs : Nat → Int32} {σ τ : Sg}
theorem cs_0 (hL : L ≤ 3072) (hi : i + 6 ≤ L) (hR : RR σ τ) (hloop : ∀ σ' τ', RR σ' τ' → WL l G cI adC adR b L xs 1498 (k_lv adC adR b i) [] σ' τ') : WL l G cI adC adR b L xs 208 (k_lv adC adR b i) [] σ τ := by
  refine wl_aload (k := 1) dL_law_208 (List.mem_cons_of_mem _ List.mem_cons_self) ?_
  refine wl_arg (k := 1) dL_law_209 dL_law_210 dL_law_211 dL_law_212 dL_law_213 rfl (by omega) hL ?_
  refine wl_callC (vs := [.int (xs (i + 1))]) (rest := []) dL_law_214 mV_X10_person lm_L_13 rfl rfl rfl rfl (by decide) ((P_person (E := (l, G, adC, cI)) (E' := (l, G, adR, cI)) (d := 0) (d' := 0) (Z := fun v w σ' τ' => v = w ∧ RR σ' τ') hR (fun _ _ _ h => ⟨rfl, h⟩)).deep (by decide)) (fun v σ' hK => ?_)
  refine wl_aload (k := 2) dL_law_217 (List.mem_cons_of_mem _ (List.mem_cons_of_mem _ List.mem_cons_self)) ?_
  refine wl_arg (k := 1) dL_law_218 dL_law_219 dL_law_220 dL_law_221 dL_law_222 rfl (by omega) hL ?_
  refine wl_callR (vs := [.int (xs (i + 1))]) (rest := [.int v]) dL_law_223 mV_X11_person lm_L_17 rfl rfl rfl rfl (Nat.le_of_ble_eq_true rfl) (hK.deep (by decide)) (fun w τ' hq => ?_)
  obtain ⟨rfl, hR2⟩ := hq
  exact wl_eq (tgt := 1498) dL_law_226 (by decide) (hloop _ _ hR2)
theorem cs_1 (hL : L ≤ 3072) (hi : i + 6 ≤ L) (hR : RR σ τ) (hloop : ∀ σ' τ', RR σ' τ' → WL l G cI adC adR b L xs 1498 (k_lv adC adR b i) [] σ' τ') : WL l G cI adC adR b L xs 231 (k_lv adC adR b i) [] σ τ := by
  refine wl_aload (k := 1) dL_law_231 (List.mem_cons_of_mem _ List.mem_cons_self) ?_
  refine wl_arg (k := 1) dL_law_232 dL_law_233 dL_law_234 dL_law_235 dL_law_236 rfl (by omega) hL ?_
  refine wl_arg (k := 2) dL_law_237 dL_law_238 dL_law_239 dL_law_240 dL_law_241 rfl (by omega) hL ?_
  refine wl_callC (vs := [.int (xs (i + 1)), .int (xs (i + 2))]) (rest := []) dL_law_242 mV_X10_personIs lm_L_18 rfl rfl rfl rfl (by decide) ((P_personIs (E := (l, G, adC, cI)) (E' := (l, G, adR, cI)) (d := 0) (d' := 0) (Z := fun v w σ' τ' => v = w ∧ RR σ' τ') hR (fun _ _ _ h => ⟨rfl, h⟩)).deep (by decide)) (fun v σ' hK => ?_)
  refine wl_aload (k := 2) dL_law_245 (List.mem_cons_of_mem _ (List.mem_cons_of_mem _ List.mem_cons_self)) ?_
  refine wl_arg (k := 1) dL_law_246 dL_law_247 dL_law_248 dL_law_249 dL_law_250 rfl (by omega) hL ?_
  refine wl_arg (k := 2) dL_law_251 dL_law_252 dL_law_253 dL_law_254 dL_law_255 rfl (by omega) hL ?_
  refine wl_callR (vs := [.int (xs (i + 1)), .int (xs (i + 2))]) (rest := [.int v]) dL_law_256 mV_X11_personIs lm_L_22 rfl rfl rfl rfl (Nat.le_of_ble_eq_true rfl) (hK.deep (by decide)) (fun w τ' hq => ?_)
  obtain ⟨rfl, hR2⟩ := hq
  exact wl_eq (tgt := 1498) dL_law_259 (by decide) (hloop _ _ hR2)
theorem cs_2 (hL : L ≤ 3072) (hi : i + 6 ≤ L) (hR : RR σ τ) (hloop : ∀ σ' τ', RR σ' τ' → WL l G cI adC adR b L xs 1498 (k_lv adC adR b i) [] σ' τ') : WL l G cI adC adR b L xs 264 (k_lv adC adR b i) [] σ τ := by
  refine wl_aload (k := 1) dL_law_264 (List.mem_cons_of_mem _ List.mem_cons_self) ?_
  refine wl_arg (k := 1) dL_law_265 dL_law_266 dL_law_267 dL_law_268 dL_law_269 rfl (by omega) hL ?_
  refine wl_arg (k := 2) dL_law_270 dL_law_271 dL_law_272 dL_law_273 dL_law_274 rfl (by omega) hL ?_
  refine wl_callC (vs := [.int (xs (i + 1)), .int (xs (i + 2))]) (rest := []) dL_law_275 mV_X10_become lm_L_23 rfl rfl rfl rfl (by decide) ((P_become (E := (l, G, adC, cI)) (E' := (l, G, adR, cI)) (d := 0) (d' := 0) (Z := fun v w σ' τ' => v = w ∧ RR σ' τ') hR (fun _ _ _ h => ⟨rfl, h⟩)).deep (by decide)) (fun v σ' hK => ?_)
  refine wl_aload (k := 2) dL_law_278 (List.mem_cons_of_mem _ (List.mem_cons_of_mem _ List.mem_cons_self)) ?_
  refine wl_arg (k := 1) dL_law_279 dL_law_280 dL_law_281 dL_law_282 dL_law_283 rfl (by omega) hL ?_
  refine wl_arg (k := 2) dL_law_284 dL_law_285 dL_law_286 dL_law_287 dL_law_288 rfl (by omega) hL ?_
  refine wl_callR (vs := [.int (xs (i + 1)), .int (xs (i + 2))]) (rest := [.int v]) dL_law_289 mV_X11_become lm_L_26 rfl rfl rfl rfl (Nat.le_of_ble_eq_true rfl) (hK.deep (by decide)) (fun w τ' hq => ?_)
  obtain ⟨rfl, hR2⟩ := hq
  exact wl_eq (tgt := 1498) dL_law_292 (by decide) (hloop _ _ hR2)
theorem cs_3 (hL : L ≤ 3072) (hi : i + 6 ≤ L) (hR : RR σ τ) (hloop : ∀ σ' τ', RR σ' τ' → WL l G cI adC adR b L xs 1498 (k_lv adC adR b i) [] σ' τ') : WL l G cI adC adR b L xs 297 (k_lv adC adR b i) [] σ τ := by
  refine wl_aload (k := 1) dL_law_297 (List.mem_cons_of_mem _ List.mem_cons_self) ?_
  refine wl_arg (k := 1) dL_law_298 dL_law_299 dL_law_300 dL_law_301 dL_law_302 rfl (by omega) hL ?_
  refine wl_arg (k := 2) dL_law_303 dL_law_304 dL_law_305 dL_law_306 dL_law_307 rfl (by omega) hL ?_
  refine wl_callC (vs := [.int (xs (i + 1)), .int (xs (i + 2))]) (rest := []) dL_law_308 mV_X10_as lm_L_27 rfl rfl rfl rfl (by decide) ((P_as (E := (l, G, adC, cI)) (E' := (l, G, adR, cI)) (d := 0) (d' := 0) (Z := fun v w σ' τ' => v = w ∧ RR σ' τ') hR (fun _ _ _ h => ⟨rfl, h⟩)).deep (by decide)) (fun v σ' hK => ?_)
  refine wl_aload (k := 2) dL_law_311 (List.mem_cons_of_mem _ (List.mem_cons_of_mem _ List.mem_cons_self)) ?_
  refine wl_arg (k := 1) dL_law_312 dL_law_313 dL_law_314 dL_law_315 dL_law_316 rfl (by omega) hL ?_
  refine wl_arg (k := 2) dL_law_317 dL_law_318 dL_law_319 dL_law_320 dL_law_321 rfl (by omega) hL ?_
  refine wl_callR (vs := [.int (xs (i + 1)), .int (xs (i + 2))]) (rest := [.int v]) dL_law_322 mV_X11_as lm_L_30 rfl rfl rfl rfl (Nat.le_of_ble_eq_true rfl) (hK.deep (by decide)) (fun w τ' hq => ?_)
  obtain ⟨rfl, hR2⟩ := hq
  exact wl_eq (tgt := 1498) dL_law_325 (by decide) (hloop _ _ hR2)
theorem cs_4 (hL : L ≤ 3072) (hi : i + 6 ≤ L) (hR : RR σ τ) (hloop : ∀ σ' τ', RR σ' τ' → WL l G cI adC adR b L xs 1498 (k_lv adC adR b i) [] σ' τ') : WL l G cI adC adR b L xs 330 (k_lv adC adR b i) [] σ τ := by
  refine wl_aload (k := 1) dL_law_330 (List.mem_cons_of_mem _ List.mem_cons_self) ?_
  refine wl_arg (k := 1) dL_law_331 dL_law_332 dL_law_333 dL_law_334 dL_law_335 rfl (by omega) hL ?_
  refine wl_arg (k := 2) dL_law_336 dL_law_337 dL_law_338 dL_law_339 dL_law_340 rfl (by omega) hL ?_
  refine wl_arg (k := 3) dL_law_341 dL_law_342 dL_law_343 dL_law_344 dL_law_345 rfl (by omega) hL ?_
  refine wl_callC (vs := [.int (xs (i + 1)), .int (xs (i + 2)), .int (xs (i + 3))]) (rest := []) dL_law_346 mV_X10_change lm_L_31 rfl rfl rfl rfl (by decide) ((P_change (E := (l, G, adC, cI)) (E' := (l, G, adR, cI)) (d := 0) (d' := 0) (Z := fun v w σ' τ' => v = w ∧ RR σ' τ') hR (fun _ _ _ h => ⟨rfl, h⟩)).deep (by decide)) (fun v σ' hK => ?_)
  refine wl_aload (k := 2) dL_law_349 (List.mem_cons_of_mem _ (List.mem_cons_of_mem _ List.mem_cons_self)) ?_
  refine wl_arg (k := 1) dL_law_350 dL_law_351 dL_law_352 dL_law_353 dL_law_354 rfl (by omega) hL ?_
  refine wl_arg (k := 2) dL_law_355 dL_law_356 dL_law_357 dL_law_358 dL_law_359 rfl (by omega) hL ?_
  refine wl_arg (k := 3) dL_law_360 dL_law_361 dL_law_362 dL_law_363 dL_law_364 rfl (by omega) hL ?_
  refine wl_callR (vs := [.int (xs (i + 1)), .int (xs (i + 2)), .int (xs (i + 3))]) (rest := [.int v]) dL_law_365 mV_X11_change lm_L_35 rfl rfl rfl rfl (Nat.le_of_ble_eq_true rfl) (hK.deep (by decide)) (fun w τ' hq => ?_)
  obtain ⟨rfl, hR2⟩ := hq
  exact wl_eq (tgt := 1498) dL_law_368 (by decide) (hloop _ _ hR2)
theorem cs_5 (hL : L ≤ 3072) (hi : i + 6 ≤ L) (hR : RR σ τ) (hloop : ∀ σ' τ', RR σ' τ' → WL l G cI adC adR b L xs 1498 (k_lv adC adR b i) [] σ' τ') : WL l G cI adC adR b L xs 373 (k_lv adC adR b i) [] σ τ := by
  refine wl_aload (k := 1) dL_law_373 (List.mem_cons_of_mem _ List.mem_cons_self) ?_
  refine wl_arg (k := 1) dL_law_374 dL_law_375 dL_law_376 dL_law_377 dL_law_378 rfl (by omega) hL ?_
  refine wl_arg (k := 2) dL_law_379 dL_law_380 dL_law_381 dL_law_382 dL_law_383 rfl (by omega) hL ?_
  refine wl_callC (vs := [.int (xs (i + 1)), .int (xs (i + 2))]) (rest := []) dL_law_384 mV_X10_has lm_L_36 rfl rfl rfl rfl (by decide) ((P_has (E := (l, G, adC, cI)) (E' := (l, G, adR, cI)) (d := 0) (d' := 0) (Z := fun v w σ' τ' => v = w ∧ RR σ' τ') hR (fun _ _ _ h => ⟨rfl, h⟩)).deep (by decide)) (fun v σ' hK => ?_)
  refine wl_aload (k := 2) dL_law_387 (List.mem_cons_of_mem _ (List.mem_cons_of_mem _ List.mem_cons_self)) ?_
  refine wl_arg (k := 1) dL_law_388 dL_law_389 dL_law_390 dL_law_391 dL_law_392 rfl (by omega) hL ?_
  refine wl_arg (k := 2) dL_law_393 dL_law_394 dL_law_395 dL_law_396 dL_law_397 rfl (by omega) hL ?_
  refine wl_callR (vs := [.int (xs (i + 1)), .int (xs (i + 2))]) (rest := [.int v]) dL_law_398 mV_X11_has lm_L_39 rfl rfl rfl rfl (Nat.le_of_ble_eq_true rfl) (hK.deep (by decide)) (fun w τ' hq => ?_)
  obtain ⟨rfl, hR2⟩ := hq
  exact wl_eq (tgt := 1498) dL_law_401 (by decide) (hloop _ _ hR2)
theorem cs_6 (hL : L ≤ 3072) (hi : i + 6 ≤ L) (hR : RR σ τ) (hloop : ∀ σ' τ', RR σ' τ' → WL l G cI adC adR b L xs 1498 (k_lv adC adR b i) [] σ' τ') : WL l G cI adC adR b L xs 406 (k_lv adC adR b i) [] σ τ := by
  refine wl_aload (k := 1) dL_law_406 (List.mem_cons_of_mem _ List.mem_cons_self) ?_
  refine wl_arg (k := 1) dL_law_407 dL_law_408 dL_law_409 dL_law_410 dL_law_411 rfl (by omega) hL ?_
  refine wl_arg (k := 2) dL_law_412 dL_law_413 dL_law_414 dL_law_415 dL_law_416 rfl (by omega) hL ?_
  refine wl_arg (k := 3) dL_law_417 dL_law_418 dL_law_419 dL_law_420 dL_law_421 rfl (by omega) hL ?_
  refine wl_callC (vs := [.int (xs (i + 1)), .int (xs (i + 2)), .int (xs (i + 3))]) (rest := []) dL_law_422 mV_X10_give lm_L_40 rfl rfl rfl rfl (by decide) ((P_give (E := (l, G, adC, cI)) (E' := (l, G, adR, cI)) (d := 0) (d' := 0) (Z := fun v w σ' τ' => v = w ∧ RR σ' τ') hR (fun _ _ _ h => ⟨rfl, h⟩)).deep (by decide)) (fun v σ' hK => ?_)
  refine wl_aload (k := 2) dL_law_425 (List.mem_cons_of_mem _ (List.mem_cons_of_mem _ List.mem_cons_self)) ?_
  refine wl_arg (k := 1) dL_law_426 dL_law_427 dL_law_428 dL_law_429 dL_law_430 rfl (by omega) hL ?_
  refine wl_arg (k := 2) dL_law_431 dL_law_432 dL_law_433 dL_law_434 dL_law_435 rfl (by omega) hL ?_
  refine wl_arg (k := 3) dL_law_436 dL_law_437 dL_law_438 dL_law_439 dL_law_440 rfl (by omega) hL ?_
  refine wl_callR (vs := [.int (xs (i + 1)), .int (xs (i + 2)), .int (xs (i + 3))]) (rest := [.int v]) dL_law_441 mV_X11_give lm_L_43 rfl rfl rfl rfl (Nat.le_of_ble_eq_true rfl) (hK.deep (by decide)) (fun w τ' hq => ?_)
  obtain ⟨rfl, hR2⟩ := hq
  exact wl_eq (tgt := 1498) dL_law_444 (by decide) (hloop _ _ hR2)
theorem cs_7 (hL : L ≤ 3072) (hi : i + 6 ≤ L) (hR : RR σ τ) (hloop : ∀ σ' τ', RR σ' τ' → WL l G cI adC adR b L xs 1498 (k_lv adC adR b i) [] σ' τ') : WL l G cI adC adR b L xs 449 (k_lv adC adR b i) [] σ τ := by
  refine wl_aload (k := 1) dL_law_449 (List.mem_cons_of_mem _ List.mem_cons_self) ?_
  refine wl_arg (k := 1) dL_law_450 dL_law_451 dL_law_452 dL_law_453 dL_law_454 rfl (by omega) hL ?_
  refine wl_arg (k := 2) dL_law_455 dL_law_456 dL_law_457 dL_law_458 dL_law_459 rfl (by omega) hL ?_
  refine wl_callC (vs := [.int (xs (i + 1)), .int (xs (i + 2))]) (rest := []) dL_law_460 mV_X10_price lm_L_44 rfl rfl rfl rfl (by decide) ((P_price (E := (l, G, adC, cI)) (E' := (l, G, adR, cI)) (d := 0) (d' := 0) (Z := fun v w σ' τ' => v = w ∧ RR σ' τ') hR (fun _ _ _ h => ⟨rfl, h⟩)).deep (by decide)) (fun v σ' hK => ?_)
  refine wl_aload (k := 2) dL_law_463 (List.mem_cons_of_mem _ (List.mem_cons_of_mem _ List.mem_cons_self)) ?_
  refine wl_arg (k := 1) dL_law_464 dL_law_465 dL_law_466 dL_law_467 dL_law_468 rfl (by omega) hL ?_
  refine wl_arg (k := 2) dL_law_469 dL_law_470 dL_law_471 dL_law_472 dL_law_473 rfl (by omega) hL ?_
  refine wl_callR (vs := [.int (xs (i + 1)), .int (xs (i + 2))]) (rest := [.int v]) dL_law_474 mV_X11_price lm_L_47 rfl rfl rfl rfl (Nat.le_of_ble_eq_true rfl) (hK.deep (by decide)) (fun w τ' hq => ?_)
  obtain ⟨rfl, hR2⟩ := hq
  exact wl_eq (tgt := 1498) dL_law_477 (by decide) (hloop _ _ hR2)
theorem cs_8 (hL : L ≤ 3072) (hi : i + 6 ≤ L) (hR : RR σ τ) (hloop : ∀ σ' τ', RR σ' τ' → WL l G cI adC adR b L xs 1498 (k_lv adC adR b i) [] σ' τ') : WL l G cI adC adR b L xs 482 (k_lv adC adR b i) [] σ τ := by
  refine wl_aload (k := 1) dL_law_482 (List.mem_cons_of_mem _ List.mem_cons_self) ?_
  refine wl_arg (k := 1) dL_law_483 dL_law_484 dL_law_485 dL_law_486 dL_law_487 rfl (by omega) hL ?_
  refine wl_arg (k := 2) dL_law_488 dL_law_489 dL_law_490 dL_law_491 dL_law_492 rfl (by omega) hL ?_
  refine wl_arg (k := 3) dL_law_493 dL_law_494 dL_law_495 dL_law_496 dL_law_497 rfl (by omega) hL ?_
  refine wl_callC (vs := [.int (xs (i + 1)), .int (xs (i + 2)), .int (xs (i + 3))]) (rest := []) dL_law_498 mV_X10_sell lm_L_48 rfl rfl rfl rfl (by decide) ((P_sell (E := (l, G, adC, cI)) (E' := (l, G, adR, cI)) (d := 0) (d' := 0) (Z := fun v w σ' τ' => v = w ∧ RR σ' τ') hR (fun _ _ _ h => ⟨rfl, h⟩)).deep (by decide)) (fun v σ' hK => ?_)
  refine wl_aload (k := 2) dL_law_501 (List.mem_cons_of_mem _ (List.mem_cons_of_mem _ List.mem_cons_self)) ?_
  refine wl_arg (k := 1) dL_law_502 dL_law_503 dL_law_504 dL_law_505 dL_law_506 rfl (by omega) hL ?_
  refine wl_arg (k := 2) dL_law_507 dL_law_508 dL_law_509 dL_law_510 dL_law_511 rfl (by omega) hL ?_
  refine wl_arg (k := 3) dL_law_512 dL_law_513 dL_law_514 dL_law_515 dL_law_516 rfl (by omega) hL ?_
  refine wl_callR (vs := [.int (xs (i + 1)), .int (xs (i + 2)), .int (xs (i + 3))]) (rest := [.int v]) dL_law_517 mV_X11_sell lm_L_51 rfl rfl rfl rfl (Nat.le_of_ble_eq_true rfl) (hK.deep (by decide)) (fun w τ' hq => ?_)
  obtain ⟨rfl, hR2⟩ := hq
  exact wl_eq (tgt := 1498) dL_law_520 (by decide) (hloop _ _ hR2)
theorem cs_9 (hL : L ≤ 3072) (hi : i + 6 ≤ L) (hR : RR σ τ) (hloop : ∀ σ' τ', RR σ' τ' → WL l G cI adC adR b L xs 1498 (k_lv adC adR b i) [] σ' τ') : WL l G cI adC adR b L xs 525 (k_lv adC adR b i) [] σ τ := by
  refine wl_aload (k := 1) dL_law_525 (List.mem_cons_of_mem _ List.mem_cons_self) ?_
  refine wl_arg (k := 1) dL_law_526 dL_law_527 dL_law_528 dL_law_529 dL_law_530 rfl (by omega) hL ?_
  refine wl_arg (k := 2) dL_law_531 dL_law_532 dL_law_533 dL_law_534 dL_law_535 rfl (by omega) hL ?_
  refine wl_arg (k := 3) dL_law_536 dL_law_537 dL_law_538 dL_law_539 dL_law_540 rfl (by omega) hL ?_
  refine wl_callC (vs := [.int (xs (i + 1)), .int (xs (i + 2)), .int (xs (i + 3))]) (rest := []) dL_law_541 mV_X10_sellWeek lm_L_52 rfl rfl rfl rfl (by decide) ((P_sellWeek (E := (l, G, adC, cI)) (E' := (l, G, adR, cI)) (d := 0) (d' := 0) (Z := fun v w σ' τ' => v = w ∧ RR σ' τ') hR (fun _ _ _ h => ⟨rfl, h⟩)).deep (by decide)) (fun v σ' hK => ?_)
  refine wl_aload (k := 2) dL_law_544 (List.mem_cons_of_mem _ (List.mem_cons_of_mem _ List.mem_cons_self)) ?_
  refine wl_arg (k := 1) dL_law_545 dL_law_546 dL_law_547 dL_law_548 dL_law_549 rfl (by omega) hL ?_
  refine wl_arg (k := 2) dL_law_550 dL_law_551 dL_law_552 dL_law_553 dL_law_554 rfl (by omega) hL ?_
  refine wl_arg (k := 3) dL_law_555 dL_law_556 dL_law_557 dL_law_558 dL_law_559 rfl (by omega) hL ?_
  refine wl_callR (vs := [.int (xs (i + 1)), .int (xs (i + 2)), .int (xs (i + 3))]) (rest := [.int v]) dL_law_560 mV_X11_sellWeek lm_L_55 rfl rfl rfl rfl (Nat.le_of_ble_eq_true rfl) (hK.deep (by decide)) (fun w τ' hq => ?_)
  obtain ⟨rfl, hR2⟩ := hq
  exact wl_eq (tgt := 1498) dL_law_563 (by decide) (hloop _ _ hR2)
theorem cs_10 (hL : L ≤ 3072) (hi : i + 6 ≤ L) (hR : RR σ τ) (hloop : ∀ σ' τ', RR σ' τ' → WL l G cI adC adR b L xs 1498 (k_lv adC adR b i) [] σ' τ') : WL l G cI adC adR b L xs 568 (k_lv adC adR b i) [] σ τ := by
  refine wl_aload (k := 1) dL_law_568 (List.mem_cons_of_mem _ List.mem_cons_self) ?_
  refine wl_arg (k := 1) dL_law_569 dL_law_570 dL_law_571 dL_law_572 dL_law_573 rfl (by omega) hL ?_
  refine wl_arg (k := 2) dL_law_574 dL_law_575 dL_law_576 dL_law_577 dL_law_578 rfl (by omega) hL ?_
  refine wl_arg (k := 3) dL_law_579 dL_law_580 dL_law_581 dL_law_582 dL_law_583 rfl (by omega) hL ?_
  refine wl_callC (vs := [.int (xs (i + 1)), .int (xs (i + 2)), .int (xs (i + 3))]) (rest := []) dL_law_584 mV_X10_promise lm_L_56 rfl rfl rfl rfl (by decide) ((P_promise (E := (l, G, adC, cI)) (E' := (l, G, adR, cI)) (d := 0) (d' := 0) (Z := fun v w σ' τ' => v = w ∧ RR σ' τ') hR (fun _ _ _ h => ⟨rfl, h⟩)).deep (by decide)) (fun v σ' hK => ?_)
  refine wl_aload (k := 2) dL_law_587 (List.mem_cons_of_mem _ (List.mem_cons_of_mem _ List.mem_cons_self)) ?_
  refine wl_arg (k := 1) dL_law_588 dL_law_589 dL_law_590 dL_law_591 dL_law_592 rfl (by omega) hL ?_
  refine wl_arg (k := 2) dL_law_593 dL_law_594 dL_law_595 dL_law_596 dL_law_597 rfl (by omega) hL ?_
  refine wl_arg (k := 3) dL_law_598 dL_law_599 dL_law_600 dL_law_601 dL_law_602 rfl (by omega) hL ?_
  refine wl_callR (vs := [.int (xs (i + 1)), .int (xs (i + 2)), .int (xs (i + 3))]) (rest := [.int v]) dL_law_603 mV_X11_promise lm_L_59 rfl rfl rfl rfl (Nat.le_of_ble_eq_true rfl) (hK.deep (by decide)) (fun w τ' hq => ?_)
  obtain ⟨rfl, hR2⟩ := hq
  exact wl_eq (tgt := 1498) dL_law_606 (by decide) (hloop _ _ hR2)
theorem cs_11 (hL : L ≤ 3072) (hi : i + 6 ≤ L) (hR : RR σ τ) (hloop : ∀ σ' τ', RR σ' τ' → WL l G cI adC adR b L xs 1498 (k_lv adC adR b i) [] σ' τ') : WL l G cI adC adR b L xs 611 (k_lv adC adR b i) [] σ τ := by
  refine wl_aload (k := 1) dL_law_611 (List.mem_cons_of_mem _ List.mem_cons_self) ?_
  refine wl_arg (k := 1) dL_law_612 dL_law_613 dL_law_614 dL_law_615 dL_law_616 rfl (by omega) hL ?_
  refine wl_arg (k := 2) dL_law_617 dL_law_618 dL_law_619 dL_law_620 dL_law_621 rfl (by omega) hL ?_
  refine wl_callC (vs := [.int (xs (i + 1)), .int (xs (i + 2))]) (rest := []) dL_law_622 mV_X10_promiseIs lm_L_60 rfl rfl rfl rfl (by decide) ((P_promiseIs (E := (l, G, adC, cI)) (E' := (l, G, adR, cI)) (d := 0) (d' := 0) (Z := fun v w σ' τ' => v = w ∧ RR σ' τ') hR (fun _ _ _ h => ⟨rfl, h⟩)).deep (by decide)) (fun v σ' hK => ?_)
  refine wl_aload (k := 2) dL_law_625 (List.mem_cons_of_mem _ (List.mem_cons_of_mem _ List.mem_cons_self)) ?_
  refine wl_arg (k := 1) dL_law_626 dL_law_627 dL_law_628 dL_law_629 dL_law_630 rfl (by omega) hL ?_
  refine wl_arg (k := 2) dL_law_631 dL_law_632 dL_law_633 dL_law_634 dL_law_635 rfl (by omega) hL ?_
  refine wl_callR (vs := [.int (xs (i + 1)), .int (xs (i + 2))]) (rest := [.int v]) dL_law_636 mV_X11_promiseIs lm_L_63 rfl rfl rfl rfl (Nat.le_of_ble_eq_true rfl) (hK.deep (by decide)) (fun w τ' hq => ?_)
  obtain ⟨rfl, hR2⟩ := hq
  exact wl_eq (tgt := 1498) dL_law_639 (by decide) (hloop _ _ hR2)
theorem cs_12 (hL : L ≤ 3072) (hi : i + 6 ≤ L) (hR : RR σ τ) (hloop : ∀ σ' τ', RR σ' τ' → WL l G cI adC adR b L xs 1498 (k_lv adC adR b i) [] σ' τ') : WL l G cI adC adR b L xs 644 (k_lv adC adR b i) [] σ τ := by
  refine wl_aload (k := 1) dL_law_644 (List.mem_cons_of_mem _ List.mem_cons_self) ?_
  refine wl_arg (k := 1) dL_law_645 dL_law_646 dL_law_647 dL_law_648 dL_law_649 rfl (by omega) hL ?_
  refine wl_i2l dL_law_650 ?_
  refine wl_bipush (v := nI 32) dL_law_651 (by decide) ?_
  refine wl_lshl dL_law_653 ?_
  refine wl_arg (k := 2) dL_law_654 dL_law_655 dL_law_656 dL_law_657 dL_law_658 rfl (by omega) hL ?_
  refine wl_i2l dL_law_659 ?_
  refine wl_ldc2 dL_law_660 lc_L_64 ?_
  refine wl_land dL_law_663 ?_
  refine wl_lor dL_law_664 ?_
  refine wl_arg (k := 3) dL_law_665 dL_law_666 dL_law_667 dL_law_668 dL_law_669 rfl (by omega) hL ?_
  refine wl_callC (vs := [.long ((((xs (i + 1)).toInt64 <<< ((nI 32).toInt64 &&& 63)) ||| ((xs (i + 2)).toInt64 &&& (4294967295 : Int64)))), .int (xs (i + 3))]) (rest := []) dL_law_670 mV_X10_feed lm_L_66 rfl rfl rfl rfl (by decide) ((P_feed (E := (l, G, adC, cI)) (E' := (l, G, adR, cI)) (d := 0) (d' := 0) (Z := fun v w σ' τ' => v = w ∧ RR σ' τ') hR (fun _ _ _ h => ⟨rfl, h⟩)).deep (by decide)) (fun v σ' hK => ?_)
  refine wl_aload (k := 2) dL_law_673 (List.mem_cons_of_mem _ (List.mem_cons_of_mem _ List.mem_cons_self)) ?_
  refine wl_arg (k := 1) dL_law_674 dL_law_675 dL_law_676 dL_law_677 dL_law_678 rfl (by omega) hL ?_
  refine wl_i2l dL_law_679 ?_
  refine wl_bipush (v := nI 32) dL_law_680 (by decide) ?_
  refine wl_lshl dL_law_682 ?_
  refine wl_arg (k := 2) dL_law_683 dL_law_684 dL_law_685 dL_law_686 dL_law_687 rfl (by omega) hL ?_
  refine wl_i2l dL_law_688 ?_
  refine wl_ldc2 dL_law_689 lc_L_64 ?_
  refine wl_land dL_law_692 ?_
  refine wl_lor dL_law_693 ?_
  refine wl_arg (k := 3) dL_law_694 dL_law_695 dL_law_696 dL_law_697 dL_law_698 rfl (by omega) hL ?_
  refine wl_callR (vs := [.long ((((xs (i + 1)).toInt64 <<< ((nI 32).toInt64 &&& 63)) ||| ((xs (i + 2)).toInt64 &&& (4294967295 : Int64)))), .int (xs (i + 3))]) (rest := [.int v]) dL_law_699 mV_X11_feed lm_L_70 rfl rfl rfl rfl (Nat.le_of_ble_eq_true rfl) (hK.deep (by decide)) (fun w τ' hq => ?_)
  obtain ⟨rfl, hR2⟩ := hq
  exact wl_eq (tgt := 1498) dL_law_702 (by decide) (hloop _ _ hR2)
theorem cs_13 (hL : L ≤ 3072) (hi : i + 6 ≤ L) (hR : RR σ τ) (hloop : ∀ σ' τ', RR σ' τ' → WL l G cI adC adR b L xs 1498 (k_lv adC adR b i) [] σ' τ') : WL l G cI adC adR b L xs 707 (k_lv adC adR b i) [] σ τ := by
  refine wl_aload (k := 1) dL_law_707 (List.mem_cons_of_mem _ List.mem_cons_self) ?_
  refine wl_arg (k := 1) dL_law_708 dL_law_709 dL_law_710 dL_law_711 dL_law_712 rfl (by omega) hL ?_
  refine wl_callC (vs := [.int (xs (i + 1))]) (rest := []) dL_law_713 mV_X10_text lm_L_71 rfl rfl rfl rfl (by decide) ((P_text (E := (l, G, adC, cI)) (E' := (l, G, adR, cI)) (d := 0) (d' := 0) (Z := fun v w σ' τ' => v = w ∧ RR σ' τ') hR (fun _ _ _ h => ⟨rfl, h⟩)).deep (by decide)) (fun v σ' hK => ?_)
  refine wl_aload (k := 2) dL_law_716 (List.mem_cons_of_mem _ (List.mem_cons_of_mem _ List.mem_cons_self)) ?_
  refine wl_arg (k := 1) dL_law_717 dL_law_718 dL_law_719 dL_law_720 dL_law_721 rfl (by omega) hL ?_
  refine wl_callR (vs := [.int (xs (i + 1))]) (rest := [.int v]) dL_law_722 mV_X11_text lm_L_74 rfl rfl rfl rfl (Nat.le_of_ble_eq_true rfl) (hK.deep (by decide)) (fun w τ' hq => ?_)
  obtain ⟨rfl, hR2⟩ := hq
  exact wl_eq (tgt := 1498) dL_law_725 (by decide) (hloop _ _ hR2)
theorem cs_14 (hL : L ≤ 3072) (hi : i + 6 ≤ L) (hR : RR σ τ) (hloop : ∀ σ' τ', RR σ' τ' → WL l G cI adC adR b L xs 1498 (k_lv adC adR b i) [] σ' τ') : WL l G cI adC adR b L xs 730 (k_lv adC adR b i) [] σ τ := by
  refine wl_aload (k := 1) dL_law_730 (List.mem_cons_of_mem _ List.mem_cons_self) ?_
  refine wl_arg (k := 1) dL_law_731 dL_law_732 dL_law_733 dL_law_734 dL_law_735 rfl (by omega) hL ?_
  refine wl_callC (vs := [.int (xs (i + 1))]) (rest := []) dL_law_736 mV_X10_untell lm_L_75 rfl rfl rfl rfl (by decide) ((P_untell (E := (l, G, adC, cI)) (E' := (l, G, adR, cI)) (d := 0) (d' := 0) (Z := fun v w σ' τ' => v = w ∧ RR σ' τ') hR (fun _ _ _ h => ⟨rfl, h⟩)).deep (by decide)) (fun v σ' hK => ?_)
  refine wl_aload (k := 2) dL_law_739 (List.mem_cons_of_mem _ (List.mem_cons_of_mem _ List.mem_cons_self)) ?_
  refine wl_arg (k := 1) dL_law_740 dL_law_741 dL_law_742 dL_law_743 dL_law_744 rfl (by omega) hL ?_
  refine wl_callR (vs := [.int (xs (i + 1))]) (rest := [.int v]) dL_law_745 mV_X11_untell lm_L_78 rfl rfl rfl rfl (Nat.le_of_ble_eq_true rfl) (hK.deep (by decide)) (fun w τ' hq => ?_)
  obtain ⟨rfl, hR2⟩ := hq
  exact wl_eq (tgt := 1498) dL_law_748 (by decide) (hloop _ _ hR2)
theorem cs_15 (hL : L ≤ 3072) (hi : i + 6 ≤ L) (hR : RR σ τ) (hloop : ∀ σ' τ', RR σ' τ' → WL l G cI adC adR b L xs 1498 (k_lv adC adR b i) [] σ' τ') : WL l G cI adC adR b L xs 753 (k_lv adC adR b i) [] σ τ := by
  refine wl_aload (k := 1) dL_law_753 (List.mem_cons_of_mem _ List.mem_cons_self) ?_
  refine wl_arg (k := 1) dL_law_754 dL_law_755 dL_law_756 dL_law_757 dL_law_758 rfl (by omega) hL ?_
  refine wl_arg (k := 2) dL_law_759 dL_law_760 dL_law_761 dL_law_762 dL_law_763 rfl (by omega) hL ?_
  refine wl_arg (k := 3) dL_law_764 dL_law_765 dL_law_766 dL_law_767 dL_law_768 rfl (by omega) hL ?_
  refine wl_arg (k := 4) dL_law_769 dL_law_770 dL_law_771 dL_law_772 dL_law_773 rfl (by omega) hL ?_
  refine wl_callC (vs := [.int (xs (i + 1)), .int (xs (i + 2)), .int (xs (i + 3)), .int (xs (i + 4))]) (rest := []) dL_law_774 mV_X10_law lm_L_79 rfl rfl rfl rfl (by decide) ((P_law (E := (l, G, adC, cI)) (E' := (l, G, adR, cI)) (d := 0) (d' := 0) (Z := fun v w σ' τ' => v = w ∧ RR σ' τ') hR (fun _ _ _ h => ⟨rfl, h⟩)).deep (by decide)) (fun v σ' hK => ?_)
  refine wl_aload (k := 2) dL_law_777 (List.mem_cons_of_mem _ (List.mem_cons_of_mem _ List.mem_cons_self)) ?_
  refine wl_arg (k := 1) dL_law_778 dL_law_779 dL_law_780 dL_law_781 dL_law_782 rfl (by omega) hL ?_
  refine wl_arg (k := 2) dL_law_783 dL_law_784 dL_law_785 dL_law_786 dL_law_787 rfl (by omega) hL ?_
  refine wl_arg (k := 3) dL_law_788 dL_law_789 dL_law_790 dL_law_791 dL_law_792 rfl (by omega) hL ?_
  refine wl_arg (k := 4) dL_law_793 dL_law_794 dL_law_795 dL_law_796 dL_law_797 rfl (by omega) hL ?_
  refine wl_callR (vs := [.int (xs (i + 1)), .int (xs (i + 2)), .int (xs (i + 3)), .int (xs (i + 4))]) (rest := [.int v]) dL_law_798 mV_X11_law lm_L_83 rfl rfl rfl rfl (Nat.le_of_ble_eq_true rfl) (hK.deep (by decide)) (fun w τ' hq => ?_)
  obtain ⟨rfl, hR2⟩ := hq
  exact wl_eq (tgt := 1498) dL_law_801 (by decide) (hloop _ _ hR2)
theorem cs_16 (hL : L ≤ 3072) (hi : i + 6 ≤ L) (hR : RR σ τ) (hloop : ∀ σ' τ', RR σ' τ' → WL l G cI adC adR b L xs 1498 (k_lv adC adR b i) [] σ' τ') : WL l G cI adC adR b L xs 806 (k_lv adC adR b i) [] σ τ := by
  refine wl_aload (k := 1) dL_law_806 (List.mem_cons_of_mem _ List.mem_cons_self) ?_
  refine wl_arg (k := 1) dL_law_807 dL_law_808 dL_law_809 dL_law_810 dL_law_811 rfl (by omega) hL ?_
  refine wl_callC (vs := [.int (xs (i + 1))]) (rest := []) dL_law_812 mV_X10_days lm_L_84 rfl rfl rfl rfl (by decide) ((P_days (E := (l, G, adC, cI)) (E' := (l, G, adR, cI)) (d := 0) (d' := 0) (Z := fun v w σ' τ' => v = w ∧ RR σ' τ') hR (fun _ _ _ h => ⟨rfl, h⟩)).deep (by decide)) (fun v σ' hK => ?_)
  refine wl_aload (k := 2) dL_law_815 (List.mem_cons_of_mem _ (List.mem_cons_of_mem _ List.mem_cons_self)) ?_
  refine wl_arg (k := 1) dL_law_816 dL_law_817 dL_law_818 dL_law_819 dL_law_820 rfl (by omega) hL ?_
  refine wl_callR (vs := [.int (xs (i + 1))]) (rest := [.int v]) dL_law_821 mV_X11_days lm_L_87 rfl rfl rfl rfl (Nat.le_of_ble_eq_true rfl) (hK.deep (by decide)) (fun w τ' hq => ?_)
  obtain ⟨rfl, hR2⟩ := hq
  exact wl_eq (tgt := 1498) dL_law_824 (by decide) (hloop _ _ hR2)
theorem cs_17 (hL : L ≤ 3072) (hi : i + 6 ≤ L) (hR : RR σ τ) (hloop : ∀ σ' τ', RR σ' τ' → WL l G cI adC adR b L xs 1498 (k_lv adC adR b i) [] σ' τ') : WL l G cI adC adR b L xs 829 (k_lv adC adR b i) [] σ τ := by
  refine wl_aload (k := 1) dL_law_829 (List.mem_cons_of_mem _ List.mem_cons_self) ?_
  refine wl_arg (k := 1) dL_law_830 dL_law_831 dL_law_832 dL_law_833 dL_law_834 rfl (by omega) hL ?_
  refine wl_callC (vs := [.int (xs (i + 1))]) (rest := []) dL_law_835 mV_X10_loose lm_L_88 rfl rfl rfl rfl (by decide) ((P_loose (E := (l, G, adC, cI)) (E' := (l, G, adR, cI)) (d := 0) (d' := 0) (Z := fun v w σ' τ' => v = w ∧ RR σ' τ') hR (fun _ _ _ h => ⟨rfl, h⟩)).deep (by decide)) (fun v σ' hK => ?_)
  refine wl_aload (k := 2) dL_law_838 (List.mem_cons_of_mem _ (List.mem_cons_of_mem _ List.mem_cons_self)) ?_
  refine wl_arg (k := 1) dL_law_839 dL_law_840 dL_law_841 dL_law_842 dL_law_843 rfl (by omega) hL ?_
  refine wl_callR (vs := [.int (xs (i + 1))]) (rest := [.int v]) dL_law_844 mV_X11_loose lm_L_91 rfl rfl rfl rfl (Nat.le_of_ble_eq_true rfl) (hK.deep (by decide)) (fun w τ' hq => ?_)
  obtain ⟨rfl, hR2⟩ := hq
  exact wl_eq (tgt := 1498) dL_law_847 (by decide) (hloop _ _ hR2)
theorem cs_18 (hL : L ≤ 3072) (hi : i + 6 ≤ L) (hR : RR σ τ) (hloop : ∀ σ' τ', RR σ' τ' → WL l G cI adC adR b L xs 1498 (k_lv adC adR b i) [] σ' τ') : WL l G cI adC adR b L xs 852 (k_lv adC adR b i) [] σ τ := by
  refine wl_aload (k := 1) dL_law_852 (List.mem_cons_of_mem _ List.mem_cons_self) ?_
  refine wl_arg (k := 1) dL_law_853 dL_law_854 dL_law_855 dL_law_856 dL_law_857 rfl (by omega) hL ?_
  refine wl_callC (vs := [.int (xs (i + 1))]) (rest := []) dL_law_858 mV_X10_seed lm_L_92 rfl rfl rfl rfl (by decide) ((P_seed (E := (l, G, adC, cI)) (E' := (l, G, adR, cI)) (d := 0) (d' := 0) (Z := fun v w σ' τ' => v = w ∧ RR σ' τ') hR (fun _ _ _ h => ⟨rfl, h⟩)).deep (by decide)) (fun v σ' hK => ?_)
  refine wl_aload (k := 2) dL_law_861 (List.mem_cons_of_mem _ (List.mem_cons_of_mem _ List.mem_cons_self)) ?_
  refine wl_arg (k := 1) dL_law_862 dL_law_863 dL_law_864 dL_law_865 dL_law_866 rfl (by omega) hL ?_
  refine wl_callR (vs := [.int (xs (i + 1))]) (rest := [.int v]) dL_law_867 mV_X11_seed lm_L_95 rfl rfl rfl rfl (Nat.le_of_ble_eq_true rfl) (hK.deep (by decide)) (fun w τ' hq => ?_)
  obtain ⟨rfl, hR2⟩ := hq
  exact wl_eq (tgt := 1498) dL_law_870 (by decide) (hloop _ _ hR2)
theorem cs_19 (hL : L ≤ 3072) (hi : i + 6 ≤ L) (hR : RR σ τ) (hloop : ∀ σ' τ', RR σ' τ' → WL l G cI adC adR b L xs 1498 (k_lv adC adR b i) [] σ' τ') : WL l G cI adC adR b L xs 875 (k_lv adC adR b i) [] σ τ := by
  refine wl_aload (k := 1) dL_law_875 (List.mem_cons_of_mem _ List.mem_cons_self) ?_
  refine wl_arg (k := 1) dL_law_876 dL_law_877 dL_law_878 dL_law_879 dL_law_880 rfl (by omega) hL ?_
  refine wl_arg (k := 2) dL_law_881 dL_law_882 dL_law_883 dL_law_884 dL_law_885 rfl (by omega) hL ?_
  refine wl_arg (k := 3) dL_law_886 dL_law_887 dL_law_888 dL_law_889 dL_law_890 rfl (by omega) hL ?_
  refine wl_callC (vs := [.int (xs (i + 1)), .int (xs (i + 2)), .int (xs (i + 3))]) (rest := []) dL_law_891 mV_X10_then lm_L_96 rfl rfl rfl rfl (by decide) ((P_then (E := (l, G, adC, cI)) (E' := (l, G, adR, cI)) (d := 0) (d' := 0) (Z := fun v w σ' τ' => v = w ∧ RR σ' τ') hR (fun _ _ _ h => ⟨rfl, h⟩)).deep (by decide)) (fun v σ' hK => ?_)
  refine wl_aload (k := 2) dL_law_894 (List.mem_cons_of_mem _ (List.mem_cons_of_mem _ List.mem_cons_self)) ?_
  refine wl_arg (k := 1) dL_law_895 dL_law_896 dL_law_897 dL_law_898 dL_law_899 rfl (by omega) hL ?_
  refine wl_arg (k := 2) dL_law_900 dL_law_901 dL_law_902 dL_law_903 dL_law_904 rfl (by omega) hL ?_
  refine wl_arg (k := 3) dL_law_905 dL_law_906 dL_law_907 dL_law_908 dL_law_909 rfl (by omega) hL ?_
  refine wl_callR (vs := [.int (xs (i + 1)), .int (xs (i + 2)), .int (xs (i + 3))]) (rest := [.int v]) dL_law_910 mV_X11_then lm_L_99 rfl rfl rfl rfl (Nat.le_of_ble_eq_true rfl) (hK.deep (by decide)) (fun w τ' hq => ?_)
  obtain ⟨rfl, hR2⟩ := hq
  exact wl_eq (tgt := 1498) dL_law_913 (by decide) (hloop _ _ hR2)
theorem cs_20 (hL : L ≤ 3072) (hi : i + 6 ≤ L) (hR : RR σ τ) (hloop : ∀ σ' τ', RR σ' τ' → WL l G cI adC adR b L xs 1498 (k_lv adC adR b i) [] σ' τ') : WL l G cI adC adR b L xs 918 (k_lv adC adR b i) [] σ τ := by
  refine wl_aload (k := 1) dL_law_918 (List.mem_cons_of_mem _ List.mem_cons_self) ?_
  refine wl_arg (k := 1) dL_law_919 dL_law_920 dL_law_921 dL_law_922 dL_law_923 rfl (by omega) hL ?_
  refine wl_callC (vs := [.int (xs (i + 1))]) (rest := []) dL_law_924 mV_X10_alone lm_L_100 rfl rfl rfl rfl (by decide) ((P_alone (E := (l, G, adC, cI)) (E' := (l, G, adR, cI)) (d := 0) (d' := 0) (Z := fun v w σ' τ' => v = w ∧ RR σ' τ') hR (fun _ _ _ h => ⟨rfl, h⟩)).deep (by decide)) (fun v σ' hK => ?_)
  refine wl_aload (k := 2) dL_law_927 (List.mem_cons_of_mem _ (List.mem_cons_of_mem _ List.mem_cons_self)) ?_
  refine wl_arg (k := 1) dL_law_928 dL_law_929 dL_law_930 dL_law_931 dL_law_932 rfl (by omega) hL ?_
  refine wl_callR (vs := [.int (xs (i + 1))]) (rest := [.int v]) dL_law_933 mV_X11_alone lm_L_103 rfl rfl rfl rfl (Nat.le_of_ble_eq_true rfl) (hK.deep (by decide)) (fun w τ' hq => ?_)
  obtain ⟨rfl, hR2⟩ := hq
  exact wl_eq (tgt := 1498) dL_law_936 (by decide) (hloop _ _ hR2)
theorem cs_21 (hL : L ≤ 3072) (hi : i + 6 ≤ L) (hR : RR σ τ) (hloop : ∀ σ' τ', RR σ' τ' → WL l G cI adC adR b L xs 1498 (k_lv adC adR b i) [] σ' τ') : WL l G cI adC adR b L xs 941 (k_lv adC adR b i) [] σ τ := by
  refine wl_aload (k := 1) dL_law_941 (List.mem_cons_of_mem _ List.mem_cons_self) ?_
  refine wl_arg (k := 1) dL_law_942 dL_law_943 dL_law_944 dL_law_945 dL_law_946 rfl (by omega) hL ?_
  refine wl_arg (k := 2) dL_law_947 dL_law_948 dL_law_949 dL_law_950 dL_law_951 rfl (by omega) hL ?_
  refine wl_callC (vs := [.int (xs (i + 1)), .int (xs (i + 2))]) (rest := []) dL_law_952 mV_X10_meet lm_L_104 rfl rfl rfl rfl (by decide) ((P_meet (E := (l, G, adC, cI)) (E' := (l, G, adR, cI)) (d := 0) (d' := 0) (Z := fun v w σ' τ' => v = w ∧ RR σ' τ') hR (fun _ _ _ h => ⟨rfl, h⟩)).deep (by decide)) (fun v σ' hK => ?_)
  refine wl_aload (k := 2) dL_law_955 (List.mem_cons_of_mem _ (List.mem_cons_of_mem _ List.mem_cons_self)) ?_
  refine wl_arg (k := 1) dL_law_956 dL_law_957 dL_law_958 dL_law_959 dL_law_960 rfl (by omega) hL ?_
  refine wl_arg (k := 2) dL_law_961 dL_law_962 dL_law_963 dL_law_964 dL_law_965 rfl (by omega) hL ?_
  refine wl_callR (vs := [.int (xs (i + 1)), .int (xs (i + 2))]) (rest := [.int v]) dL_law_966 mV_X11_meet lm_L_107 rfl rfl rfl rfl (Nat.le_of_ble_eq_true rfl) (hK.deep (by decide)) (fun w τ' hq => ?_)
  obtain ⟨rfl, hR2⟩ := hq
  exact wl_eq (tgt := 1498) dL_law_969 (by decide) (hloop _ _ hR2)
theorem cs_22 (hL : L ≤ 3072) (hi : i + 6 ≤ L) (hR : RR σ τ) (hloop : ∀ σ' τ', RR σ' τ' → WL l G cI adC adR b L xs 1498 (k_lv adC adR b i) [] σ' τ') : WL l G cI adC adR b L xs 974 (k_lv adC adR b i) [] σ τ := by
  refine wl_aload (k := 1) dL_law_974 (List.mem_cons_of_mem _ List.mem_cons_self) ?_
  refine wl_arg (k := 1) dL_law_975 dL_law_976 dL_law_977 dL_law_978 dL_law_979 rfl (by omega) hL ?_
  refine wl_callC (vs := [.int (xs (i + 1))]) (rest := []) dL_law_980 mV_X10_keepers lm_L_108 rfl rfl rfl rfl (by decide) ((P_keepers (E := (l, G, adC, cI)) (E' := (l, G, adR, cI)) (d := 0) (d' := 0) (Z := fun v w σ' τ' => v = w ∧ RR σ' τ') hR (fun _ _ _ h => ⟨rfl, h⟩)).deep (by decide)) (fun v σ' hK => ?_)
  refine wl_aload (k := 2) dL_law_983 (List.mem_cons_of_mem _ (List.mem_cons_of_mem _ List.mem_cons_self)) ?_
  refine wl_arg (k := 1) dL_law_984 dL_law_985 dL_law_986 dL_law_987 dL_law_988 rfl (by omega) hL ?_
  refine wl_callR (vs := [.int (xs (i + 1))]) (rest := [.int v]) dL_law_989 mV_X11_keepers lm_L_111 rfl rfl rfl rfl (Nat.le_of_ble_eq_true rfl) (hK.deep (by decide)) (fun w τ' hq => ?_)
  obtain ⟨rfl, hR2⟩ := hq
  exact wl_eq (tgt := 1498) dL_law_992 (by decide) (hloop _ _ hR2)
theorem cs_23 (hL : L ≤ 3072) (hi : i + 6 ≤ L) (hR : RR σ τ) (hloop : ∀ σ' τ', RR σ' τ' → WL l G cI adC adR b L xs 1498 (k_lv adC adR b i) [] σ' τ') : WL l G cI adC adR b L xs 997 (k_lv adC adR b i) [] σ τ := by
  refine wl_aload (k := 1) dL_law_997 (List.mem_cons_of_mem _ List.mem_cons_self) ?_
  refine wl_arg (k := 1) dL_law_998 dL_law_999 dL_law_1000 dL_law_1001 dL_law_1002 rfl (by omega) hL ?_
  refine wl_arg (k := 2) dL_law_1003 dL_law_1004 dL_law_1005 dL_law_1006 dL_law_1007 rfl (by omega) hL ?_
  refine wl_callC (vs := [.int (xs (i + 1)), .int (xs (i + 2))]) (rest := []) dL_law_1008 mV_X10_buys lm_L_112 rfl rfl rfl rfl (by decide) ((P_buys (E := (l, G, adC, cI)) (E' := (l, G, adR, cI)) (d := 0) (d' := 0) (Z := fun v w σ' τ' => v = w ∧ RR σ' τ') hR (fun _ _ _ h => ⟨rfl, h⟩)).deep (by decide)) (fun v σ' hK => ?_)
  refine wl_aload (k := 2) dL_law_1011 (List.mem_cons_of_mem _ (List.mem_cons_of_mem _ List.mem_cons_self)) ?_
  refine wl_arg (k := 1) dL_law_1012 dL_law_1013 dL_law_1014 dL_law_1015 dL_law_1016 rfl (by omega) hL ?_
  refine wl_arg (k := 2) dL_law_1017 dL_law_1018 dL_law_1019 dL_law_1020 dL_law_1021 rfl (by omega) hL ?_
  refine wl_callR (vs := [.int (xs (i + 1)), .int (xs (i + 2))]) (rest := [.int v]) dL_law_1022 mV_X11_buys lm_L_115 rfl rfl rfl rfl (Nat.le_of_ble_eq_true rfl) (hK.deep (by decide)) (fun w τ' hq => ?_)
  obtain ⟨rfl, hR2⟩ := hq
  exact wl_eq (tgt := 1498) dL_law_1025 (by decide) (hloop _ _ hR2)
theorem cs_24 (hL : L ≤ 3072) (hi : i + 6 ≤ L) (hR : RR σ τ) (hloop : ∀ σ' τ', RR σ' τ' → WL l G cI adC adR b L xs 1498 (k_lv adC adR b i) [] σ' τ') : WL l G cI adC adR b L xs 1030 (k_lv adC adR b i) [] σ τ := by
  refine wl_aload (k := 1) dL_law_1030 (List.mem_cons_of_mem _ List.mem_cons_self) ?_
  refine wl_arg (k := 1) dL_law_1031 dL_law_1032 dL_law_1033 dL_law_1034 dL_law_1035 rfl (by omega) hL ?_
  refine wl_arg (k := 2) dL_law_1036 dL_law_1037 dL_law_1038 dL_law_1039 dL_law_1040 rfl (by omega) hL ?_
  refine wl_arg (k := 3) dL_law_1041 dL_law_1042 dL_law_1043 dL_law_1044 dL_law_1045 rfl (by omega) hL ?_
  refine wl_callC (vs := [.int (xs (i + 1)), .int (xs (i + 2)), .int (xs (i + 3))]) (rest := []) dL_law_1046 mV_X10_bailiffs lm_L_116 rfl rfl rfl rfl (by decide) ((P_bailiffs (E := (l, G, adC, cI)) (E' := (l, G, adR, cI)) (d := 0) (d' := 0) (Z := fun v w σ' τ' => v = w ∧ RR σ' τ') hR (fun _ _ _ h => ⟨rfl, h⟩)).deep (by decide)) (fun v σ' hK => ?_)
  refine wl_aload (k := 2) dL_law_1049 (List.mem_cons_of_mem _ (List.mem_cons_of_mem _ List.mem_cons_self)) ?_
  refine wl_arg (k := 1) dL_law_1050 dL_law_1051 dL_law_1052 dL_law_1053 dL_law_1054 rfl (by omega) hL ?_
  refine wl_arg (k := 2) dL_law_1055 dL_law_1056 dL_law_1057 dL_law_1058 dL_law_1059 rfl (by omega) hL ?_
  refine wl_arg (k := 3) dL_law_1060 dL_law_1061 dL_law_1062 dL_law_1063 dL_law_1064 rfl (by omega) hL ?_
  refine wl_callR (vs := [.int (xs (i + 1)), .int (xs (i + 2)), .int (xs (i + 3))]) (rest := [.int v]) dL_law_1065 mV_X11_bailiffs lm_L_119 rfl rfl rfl rfl (Nat.le_of_ble_eq_true rfl) (hK.deep (by decide)) (fun w τ' hq => ?_)
  obtain ⟨rfl, hR2⟩ := hq
  exact wl_eq (tgt := 1498) dL_law_1068 (by decide) (hloop _ _ hR2)
theorem cs_25 (hL : L ≤ 3072) (hi : i + 6 ≤ L) (hR : RR σ τ) (hloop : ∀ σ' τ', RR σ' τ' → WL l G cI adC adR b L xs 1498 (k_lv adC adR b i) [] σ' τ') : WL l G cI adC adR b L xs 1073 (k_lv adC adR b i) [] σ τ := by
  refine wl_aload (k := 1) dL_law_1073 (List.mem_cons_of_mem _ List.mem_cons_self) ?_
  refine wl_arg (k := 1) dL_law_1074 dL_law_1075 dL_law_1076 dL_law_1077 dL_law_1078 rfl (by omega) hL ?_
  refine wl_arg (k := 2) dL_law_1079 dL_law_1080 dL_law_1081 dL_law_1082 dL_law_1083 rfl (by omega) hL ?_
  refine wl_callC (vs := [.int (xs (i + 1)), .int (xs (i + 2))]) (rest := []) dL_law_1084 mV_X10_odds lm_L_120 rfl rfl rfl rfl (by decide) ((P_odds (E := (l, G, adC, cI)) (E' := (l, G, adR, cI)) (d := 0) (d' := 0) (Z := fun v w σ' τ' => v = w ∧ RR σ' τ') hR (fun _ _ _ h => ⟨rfl, h⟩)).deep (by decide)) (fun v σ' hK => ?_)
  refine wl_aload (k := 2) dL_law_1087 (List.mem_cons_of_mem _ (List.mem_cons_of_mem _ List.mem_cons_self)) ?_
  refine wl_arg (k := 1) dL_law_1088 dL_law_1089 dL_law_1090 dL_law_1091 dL_law_1092 rfl (by omega) hL ?_
  refine wl_arg (k := 2) dL_law_1093 dL_law_1094 dL_law_1095 dL_law_1096 dL_law_1097 rfl (by omega) hL ?_
  refine wl_callR (vs := [.int (xs (i + 1)), .int (xs (i + 2))]) (rest := [.int v]) dL_law_1098 mV_X11_odds lm_L_123 rfl rfl rfl rfl (Nat.le_of_ble_eq_true rfl) (hK.deep (by decide)) (fun w τ' hq => ?_)
  obtain ⟨rfl, hR2⟩ := hq
  exact wl_eq (tgt := 1498) dL_law_1101 (by decide) (hloop _ _ hR2)
theorem cs_26 (hL : L ≤ 3072) (hi : i + 6 ≤ L) (hR : RR σ τ) (hloop : ∀ σ' τ', RR σ' τ' → WL l G cI adC adR b L xs 1498 (k_lv adC adR b i) [] σ' τ') : WL l G cI adC adR b L xs 1106 (k_lv adC adR b i) [] σ τ := by
  refine wl_aload (k := 1) dL_law_1106 (List.mem_cons_of_mem _ List.mem_cons_self) ?_
  refine wl_arg (k := 1) dL_law_1107 dL_law_1108 dL_law_1109 dL_law_1110 dL_law_1111 rfl (by omega) hL ?_
  refine wl_callC (vs := [.int (xs (i + 1))]) (rest := []) dL_law_1112 mV_X10_fits lm_L_124 rfl rfl rfl rfl (by decide) ((P_fits (E := (l, G, adC, cI)) (E' := (l, G, adR, cI)) (d := 0) (d' := 0) (Z := fun v w σ' τ' => v = w ∧ RR σ' τ') hR (fun _ _ _ h => ⟨rfl, h⟩)).deep (by decide)) (fun v σ' hK => ?_)
  refine wl_aload (k := 2) dL_law_1115 (List.mem_cons_of_mem _ (List.mem_cons_of_mem _ List.mem_cons_self)) ?_
  refine wl_arg (k := 1) dL_law_1116 dL_law_1117 dL_law_1118 dL_law_1119 dL_law_1120 rfl (by omega) hL ?_
  refine wl_callR (vs := [.int (xs (i + 1))]) (rest := [.int v]) dL_law_1121 mV_X11_fits lm_L_127 rfl rfl rfl rfl (Nat.le_of_ble_eq_true rfl) (hK.deep (by decide)) (fun w τ' hq => ?_)
  obtain ⟨rfl, hR2⟩ := hq
  exact wl_eq (tgt := 1498) dL_law_1124 (by decide) (hloop _ _ hR2)
theorem cs_27 (hL : L ≤ 3072) (hi : i + 6 ≤ L) (hR : RR σ τ) (hloop : ∀ σ' τ', RR σ' τ' → WL l G cI adC adR b L xs 1498 (k_lv adC adR b i) [] σ' τ') : WL l G cI adC adR b L xs 1129 (k_lv adC adR b i) [] σ τ := by
  refine wl_aload (k := 1) dL_law_1129 (List.mem_cons_of_mem _ List.mem_cons_self) ?_
  refine wl_arg (k := 1) dL_law_1130 dL_law_1131 dL_law_1132 dL_law_1133 dL_law_1134 rfl (by omega) hL ?_
  refine wl_arg (k := 2) dL_law_1135 dL_law_1136 dL_law_1137 dL_law_1138 dL_law_1139 rfl (by omega) hL ?_
  refine wl_arg (k := 3) dL_law_1140 dL_law_1141 dL_law_1142 dL_law_1143 dL_law_1144 rfl (by omega) hL ?_
  refine wl_callC (vs := [.int (xs (i + 1)), .int (xs (i + 2)), .int (xs (i + 3))]) (rest := []) dL_law_1145 mV_X10_voice lm_L_128 rfl rfl rfl rfl (by decide) ((P_voice (E := (l, G, adC, cI)) (E' := (l, G, adR, cI)) (d := 0) (d' := 0) (Z := fun v w σ' τ' => v = w ∧ RR σ' τ') hR (fun _ _ _ h => ⟨rfl, h⟩)).deep (by decide)) (fun v σ' hK => ?_)
  refine wl_aload (k := 2) dL_law_1148 (List.mem_cons_of_mem _ (List.mem_cons_of_mem _ List.mem_cons_self)) ?_
  refine wl_arg (k := 1) dL_law_1149 dL_law_1150 dL_law_1151 dL_law_1152 dL_law_1153 rfl (by omega) hL ?_
  refine wl_arg (k := 2) dL_law_1154 dL_law_1155 dL_law_1156 dL_law_1157 dL_law_1158 rfl (by omega) hL ?_
  refine wl_arg (k := 3) dL_law_1159 dL_law_1160 dL_law_1161 dL_law_1162 dL_law_1163 rfl (by omega) hL ?_
  refine wl_callR (vs := [.int (xs (i + 1)), .int (xs (i + 2)), .int (xs (i + 3))]) (rest := [.int v]) dL_law_1164 mV_X11_voice lm_L_131 rfl rfl rfl rfl (Nat.le_of_ble_eq_true rfl) (hK.deep (by decide)) (fun w τ' hq => ?_)
  obtain ⟨rfl, hR2⟩ := hq
  exact wl_eq (tgt := 1498) dL_law_1167 (by decide) (hloop _ _ hR2)
theorem cs_28 (hL : L ≤ 3072) (hi : i + 6 ≤ L) (hR : RR σ τ) (hloop : ∀ σ' τ', RR σ' τ' → WL l G cI adC adR b L xs 1498 (k_lv adC adR b i) [] σ' τ') : WL l G cI adC adR b L xs 1172 (k_lv adC adR b i) [] σ τ := by
  refine wl_aload (k := 1) dL_law_1172 (List.mem_cons_of_mem _ List.mem_cons_self) ?_
  refine wl_arg (k := 1) dL_law_1173 dL_law_1174 dL_law_1175 dL_law_1176 dL_law_1177 rfl (by omega) hL ?_
  refine wl_callC (vs := [.int (xs (i + 1))]) (rest := []) dL_law_1178 mV_X10_body lm_L_132 rfl rfl rfl rfl (by decide) ((P_body (E := (l, G, adC, cI)) (E' := (l, G, adR, cI)) (d := 0) (d' := 0) (Z := fun v w σ' τ' => v = w ∧ RR σ' τ') hR (fun _ _ _ h => ⟨rfl, h⟩)).deep (by decide)) (fun v σ' hK => ?_)
  refine wl_aload (k := 2) dL_law_1181 (List.mem_cons_of_mem _ (List.mem_cons_of_mem _ List.mem_cons_self)) ?_
  refine wl_arg (k := 1) dL_law_1182 dL_law_1183 dL_law_1184 dL_law_1185 dL_law_1186 rfl (by omega) hL ?_
  refine wl_callR (vs := [.int (xs (i + 1))]) (rest := [.int v]) dL_law_1187 mV_X11_body lm_L_135 rfl rfl rfl rfl (Nat.le_of_ble_eq_true rfl) (hK.deep (by decide)) (fun w τ' hq => ?_)
  obtain ⟨rfl, hR2⟩ := hq
  exact wl_eq (tgt := 1498) dL_law_1190 (by decide) (hloop _ _ hR2)
theorem cs_29 (hL : L ≤ 3072) (hi : i + 6 ≤ L) (hR : RR σ τ) (hloop : ∀ σ' τ', RR σ' τ' → WL l G cI adC adR b L xs 1498 (k_lv adC adR b i) [] σ' τ') : WL l G cI adC adR b L xs 1195 (k_lv adC adR b i) [] σ τ := by
  refine wl_aload (k := 1) dL_law_1195 (List.mem_cons_of_mem _ List.mem_cons_self) ?_
  refine wl_arg (k := 1) dL_law_1196 dL_law_1197 dL_law_1198 dL_law_1199 dL_law_1200 rfl (by omega) hL ?_
  refine wl_arg (k := 2) dL_law_1201 dL_law_1202 dL_law_1203 dL_law_1204 dL_law_1205 rfl (by omega) hL ?_
  refine wl_arg (k := 3) dL_law_1206 dL_law_1207 dL_law_1208 dL_law_1209 dL_law_1210 rfl (by omega) hL ?_
  refine wl_callC (vs := [.int (xs (i + 1)), .int (xs (i + 2)), .int (xs (i + 3))]) (rest := []) dL_law_1211 mV_X10_sheet lm_L_136 rfl rfl rfl rfl (by decide) ((P_sheet (E := (l, G, adC, cI)) (E' := (l, G, adR, cI)) (d := 0) (d' := 0) (Z := fun v w σ' τ' => v = w ∧ RR σ' τ') hR (fun _ _ _ h => ⟨rfl, h⟩)).deep (by decide)) (fun v σ' hK => ?_)
  refine wl_aload (k := 2) dL_law_1214 (List.mem_cons_of_mem _ (List.mem_cons_of_mem _ List.mem_cons_self)) ?_
  refine wl_arg (k := 1) dL_law_1215 dL_law_1216 dL_law_1217 dL_law_1218 dL_law_1219 rfl (by omega) hL ?_
  refine wl_arg (k := 2) dL_law_1220 dL_law_1221 dL_law_1222 dL_law_1223 dL_law_1224 rfl (by omega) hL ?_
  refine wl_arg (k := 3) dL_law_1225 dL_law_1226 dL_law_1227 dL_law_1228 dL_law_1229 rfl (by omega) hL ?_
  refine wl_callR (vs := [.int (xs (i + 1)), .int (xs (i + 2)), .int (xs (i + 3))]) (rest := [.int v]) dL_law_1230 mV_X11_sheet lm_L_139 rfl rfl rfl rfl (Nat.le_of_ble_eq_true rfl) (hK.deep (by decide)) (fun w τ' hq => ?_)
  obtain ⟨rfl, hR2⟩ := hq
  exact wl_eq (tgt := 1498) dL_law_1233 (by decide) (hloop _ _ hR2)
theorem cs_30 (hL : L ≤ 3072) (hi : i + 6 ≤ L) (hR : RR σ τ) (hloop : ∀ σ' τ', RR σ' τ' → WL l G cI adC adR b L xs 1498 (k_lv adC adR b i) [] σ' τ') : WL l G cI adC adR b L xs 1238 (k_lv adC adR b i) [] σ τ := by
  refine wl_aload (k := 1) dL_law_1238 (List.mem_cons_of_mem _ List.mem_cons_self) ?_
  refine wl_arg (k := 1) dL_law_1239 dL_law_1240 dL_law_1241 dL_law_1242 dL_law_1243 rfl (by omega) hL ?_
  refine wl_arg (k := 2) dL_law_1244 dL_law_1245 dL_law_1246 dL_law_1247 dL_law_1248 rfl (by omega) hL ?_
  refine wl_arg (k := 3) dL_law_1249 dL_law_1250 dL_law_1251 dL_law_1252 dL_law_1253 rfl (by omega) hL ?_
  refine wl_callC (vs := [.int (xs (i + 1)), .int (xs (i + 2)), .int (xs (i + 3))]) (rest := []) dL_law_1254 mV_X10_put lm_L_140 rfl rfl rfl rfl (by decide) ((P_put (E := (l, G, adC, cI)) (E' := (l, G, adR, cI)) (d := 0) (d' := 0) (Z := fun v w σ' τ' => v = w ∧ RR σ' τ') hR (fun _ _ _ h => ⟨rfl, h⟩)).deep (by decide)) (fun v σ' hK => ?_)
  refine wl_aload (k := 2) dL_law_1257 (List.mem_cons_of_mem _ (List.mem_cons_of_mem _ List.mem_cons_self)) ?_
  refine wl_arg (k := 1) dL_law_1258 dL_law_1259 dL_law_1260 dL_law_1261 dL_law_1262 rfl (by omega) hL ?_
  refine wl_arg (k := 2) dL_law_1263 dL_law_1264 dL_law_1265 dL_law_1266 dL_law_1267 rfl (by omega) hL ?_
  refine wl_arg (k := 3) dL_law_1268 dL_law_1269 dL_law_1270 dL_law_1271 dL_law_1272 rfl (by omega) hL ?_
  refine wl_callR (vs := [.int (xs (i + 1)), .int (xs (i + 2)), .int (xs (i + 3))]) (rest := [.int v]) dL_law_1273 mV_X11_put lm_L_143 rfl rfl rfl rfl (Nat.le_of_ble_eq_true rfl) (hK.deep (by decide)) (fun w τ' hq => ?_)
  obtain ⟨rfl, hR2⟩ := hq
  exact wl_eq (tgt := 1498) dL_law_1276 (by decide) (hloop _ _ hR2)
theorem cs_31 (hL : L ≤ 3072) (hi : i + 6 ≤ L) (hR : RR σ τ) (hloop : ∀ σ' τ', RR σ' τ' → WL l G cI adC adR b L xs 1498 (k_lv adC adR b i) [] σ' τ') : WL l G cI adC adR b L xs 1281 (k_lv adC adR b i) [] σ τ := by
  refine wl_aload (k := 1) dL_law_1281 (List.mem_cons_of_mem _ List.mem_cons_self) ?_
  refine wl_arg (k := 1) dL_law_1282 dL_law_1283 dL_law_1284 dL_law_1285 dL_law_1286 rfl (by omega) hL ?_
  refine wl_arg (k := 2) dL_law_1287 dL_law_1288 dL_law_1289 dL_law_1290 dL_law_1291 rfl (by omega) hL ?_
  refine wl_arg (k := 3) dL_law_1292 dL_law_1293 dL_law_1294 dL_law_1295 dL_law_1296 rfl (by omega) hL ?_
  refine wl_arg (k := 4) dL_law_1297 dL_law_1298 dL_law_1299 dL_law_1300 dL_law_1301 rfl (by omega) hL ?_
  refine wl_arg (k := 5) dL_law_1302 dL_law_1303 dL_law_1304 dL_law_1305 dL_law_1306 rfl (by omega) hL ?_
  refine wl_callC (vs := [.int (xs (i + 1)), .int (xs (i + 2)), .int (xs (i + 3)), .int (xs (i + 4)), .int (xs (i + 5))]) (rest := []) dL_law_1307 mV_X10_move lm_L_144 rfl rfl rfl rfl (by decide) ((P_move (E := (l, G, adC, cI)) (E' := (l, G, adR, cI)) (d := 0) (d' := 0) (Z := fun v w σ' τ' => v = w ∧ RR σ' τ') hR (fun _ _ _ h => ⟨rfl, h⟩)).deep (by decide)) (fun v σ' hK => ?_)
  refine wl_aload (k := 2) dL_law_1310 (List.mem_cons_of_mem _ (List.mem_cons_of_mem _ List.mem_cons_self)) ?_
  refine wl_arg (k := 1) dL_law_1311 dL_law_1312 dL_law_1313 dL_law_1314 dL_law_1315 rfl (by omega) hL ?_
  refine wl_arg (k := 2) dL_law_1316 dL_law_1317 dL_law_1318 dL_law_1319 dL_law_1320 rfl (by omega) hL ?_
  refine wl_arg (k := 3) dL_law_1321 dL_law_1322 dL_law_1323 dL_law_1324 dL_law_1325 rfl (by omega) hL ?_
  refine wl_arg (k := 4) dL_law_1326 dL_law_1327 dL_law_1328 dL_law_1329 dL_law_1330 rfl (by omega) hL ?_
  refine wl_arg (k := 5) dL_law_1331 dL_law_1332 dL_law_1333 dL_law_1334 dL_law_1335 rfl (by omega) hL ?_
  refine wl_callR (vs := [.int (xs (i + 1)), .int (xs (i + 2)), .int (xs (i + 3)), .int (xs (i + 4)), .int (xs (i + 5))]) (rest := [.int v]) dL_law_1336 mV_X11_move lm_L_148 rfl rfl rfl rfl (Nat.le_of_ble_eq_true rfl) (hK.deep (by decide)) (fun w τ' hq => ?_)
  obtain ⟨rfl, hR2⟩ := hq
  exact wl_eq (tgt := 1498) dL_law_1339 (by decide) (hloop _ _ hR2)
theorem cs_32 (hL : L ≤ 3072) (hi : i + 6 ≤ L) (hR : RR σ τ) (hloop : ∀ σ' τ', RR σ' τ' → WL l G cI adC adR b L xs 1498 (k_lv adC adR b i) [] σ' τ') : WL l G cI adC adR b L xs 1344 (k_lv adC adR b i) [] σ τ := by
  refine wl_aload (k := 1) dL_law_1344 (List.mem_cons_of_mem _ List.mem_cons_self) ?_
  refine wl_arg (k := 1) dL_law_1345 dL_law_1346 dL_law_1347 dL_law_1348 dL_law_1349 rfl (by omega) hL ?_
  refine wl_callC (vs := [.int (xs (i + 1))]) (rest := []) dL_law_1350 mV_X10_funds lm_L_149 rfl rfl rfl rfl (by decide) ((P_funds (E := (l, G, adC, cI)) (E' := (l, G, adR, cI)) (d := 0) (d' := 0) (Z := fun v w σ' τ' => v = w ∧ RR σ' τ') hR (fun _ _ _ h => ⟨rfl, h⟩)).deep (by decide)) (fun v σ' hK => ?_)
  refine wl_aload (k := 2) dL_law_1353 (List.mem_cons_of_mem _ (List.mem_cons_of_mem _ List.mem_cons_self)) ?_
  refine wl_arg (k := 1) dL_law_1354 dL_law_1355 dL_law_1356 dL_law_1357 dL_law_1358 rfl (by omega) hL ?_
  refine wl_callR (vs := [.int (xs (i + 1))]) (rest := [.int v]) dL_law_1359 mV_X11_funds lm_L_152 rfl rfl rfl rfl (Nat.le_of_ble_eq_true rfl) (hK.deep (by decide)) (fun w τ' hq => ?_)
  obtain ⟨rfl, hR2⟩ := hq
  exact wl_eq (tgt := 1498) dL_law_1362 (by decide) (hloop _ _ hR2)
theorem cs_33 (hL : L ≤ 3072) (hi : i + 6 ≤ L) (hR : RR σ τ) (hloop : ∀ σ' τ', RR σ' τ' → WL l G cI adC adR b L xs 1498 (k_lv adC adR b i) [] σ' τ') : WL l G cI adC adR b L xs 1367 (k_lv adC adR b i) [] σ τ := by
  refine wl_aload (k := 1) dL_law_1367 (List.mem_cons_of_mem _ List.mem_cons_self) ?_
  refine wl_arg (k := 1) dL_law_1368 dL_law_1369 dL_law_1370 dL_law_1371 dL_law_1372 rfl (by omega) hL ?_
  refine wl_callC (vs := [.int (xs (i + 1))]) (rest := []) dL_law_1373 mV_X10_judge lm_L_153 rfl rfl rfl rfl (by decide) ((P_judge (E := (l, G, adC, cI)) (E' := (l, G, adR, cI)) (d := 0) (d' := 0) (Z := fun v w σ' τ' => v = w ∧ RR σ' τ') hR (fun _ _ _ h => ⟨rfl, h⟩)).deep (by decide)) (fun v σ' hK => ?_)
  refine wl_aload (k := 2) dL_law_1376 (List.mem_cons_of_mem _ (List.mem_cons_of_mem _ List.mem_cons_self)) ?_
  refine wl_arg (k := 1) dL_law_1377 dL_law_1378 dL_law_1379 dL_law_1380 dL_law_1381 rfl (by omega) hL ?_
  refine wl_callR (vs := [.int (xs (i + 1))]) (rest := [.int v]) dL_law_1382 mV_X11_judge lm_L_156 rfl rfl rfl rfl (Nat.le_of_ble_eq_true rfl) (hK.deep (by decide)) (fun w τ' hq => ?_)
  obtain ⟨rfl, hR2⟩ := hq
  exact wl_eq (tgt := 1498) dL_law_1385 (by decide) (hloop _ _ hR2)
theorem cs_34 (hL : L ≤ 3072) (hi : i + 6 ≤ L) (hR : RR σ τ) (hloop : ∀ σ' τ', RR σ' τ' → WL l G cI adC adR b L xs 1498 (k_lv adC adR b i) [] σ' τ') : WL l G cI adC adR b L xs 1390 (k_lv adC adR b i) [] σ τ := by
  refine wl_aload (k := 1) dL_law_1390 (List.mem_cons_of_mem _ List.mem_cons_self) ?_
  refine wl_callC (vs := []) (rest := []) dL_law_1391 mV_X10_image lm_L_157 rfl rfl rfl rfl (by decide) ((P_image (E := (l, G, adC, cI)) (E' := (l, G, adR, cI)) (d := 0) (d' := 0) (Z := fun v w σ' τ' => v = w ∧ RR σ' τ') hR (fun _ _ _ h => ⟨rfl, h⟩)).deep (by decide)) (fun v σ' hK => ?_)
  refine wl_aload (k := 2) dL_law_1394 (List.mem_cons_of_mem _ (List.mem_cons_of_mem _ List.mem_cons_self)) ?_
  refine wl_callR (vs := []) (rest := [.int v]) dL_law_1395 mV_X11_image lm_L_161 rfl rfl rfl rfl (Nat.le_of_ble_eq_true rfl) (hK.deep (by decide)) (fun w τ' hq => ?_)
  obtain ⟨rfl, hR2⟩ := hq
  exact wl_eq (tgt := 1498) dL_law_1398 (by decide) (hloop _ _ hR2)
theorem cs_35 (hL : L ≤ 3072) (hi : i + 6 ≤ L) (hR : RR σ τ) (hloop : ∀ σ' τ', RR σ' τ' → WL l G cI adC adR b L xs 1498 (k_lv adC adR b i) [] σ' τ') : WL l G cI adC adR b L xs 1403 (k_lv adC adR b i) [] σ τ := by
  refine wl_aload (k := 1) dL_law_1403 (List.mem_cons_of_mem _ List.mem_cons_self) ?_
  refine wl_callC (vs := []) (rest := []) dL_law_1404 mV_X10_restore lm_L_162 rfl rfl rfl rfl (by decide) ((P_restore (E := (l, G, adC, cI)) (E' := (l, G, adR, cI)) (d := 0) (d' := 0) (Z := fun v w σ' τ' => v = w ∧ RR σ' τ') hR (fun _ _ _ h => ⟨rfl, h⟩)).deep (by decide)) (fun v σ' hK => ?_)
  refine wl_aload (k := 2) dL_law_1407 (List.mem_cons_of_mem _ (List.mem_cons_of_mem _ List.mem_cons_self)) ?_
  refine wl_callR (vs := []) (rest := [.int v]) dL_law_1408 mV_X11_restore lm_L_165 rfl rfl rfl rfl (Nat.le_of_ble_eq_true rfl) (hK.deep (by decide)) (fun w τ' hq => ?_)
  obtain ⟨rfl, hR2⟩ := hq
  exact wl_eq (tgt := 1498) dL_law_1411 (by decide) (hloop _ _ hR2)
theorem cs_36 (hL : L ≤ 3072) (hi : i + 6 ≤ L) (hR : RR σ τ) (hloop : ∀ σ' τ', RR σ' τ' → WL l G cI adC adR b L xs 1498 (k_lv adC adR b i) [] σ' τ') : WL l G cI adC adR b L xs 1416 (k_lv adC adR b i) [] σ τ := by
  refine wl_aload (k := 1) dL_law_1416 (List.mem_cons_of_mem _ List.mem_cons_self) ?_
  refine wl_arg (k := 1) dL_law_1417 dL_law_1418 dL_law_1419 dL_law_1420 dL_law_1421 rfl (by omega) hL ?_
  refine wl_callC (vs := [.int (xs (i + 1))]) (rest := []) dL_law_1422 mV_X10_tell lm_L_166 rfl rfl rfl rfl (by decide) ((P_tell (E := (l, G, adC, cI)) (E' := (l, G, adR, cI)) (d := 0) (d' := 0) (Z := fun v w σ' τ' => v = w ∧ RR σ' τ') hR (fun _ _ _ h => ⟨rfl, h⟩)).deep (by decide)) (fun v σ' hK => ?_)
  refine wl_aload (k := 2) dL_law_1425 (List.mem_cons_of_mem _ (List.mem_cons_of_mem _ List.mem_cons_self)) ?_
  refine wl_arg (k := 1) dL_law_1426 dL_law_1427 dL_law_1428 dL_law_1429 dL_law_1430 rfl (by omega) hL ?_
  refine wl_callR (vs := [.int (xs (i + 1))]) (rest := [.int v]) dL_law_1431 mV_X11_tell lm_L_169 rfl rfl rfl rfl (Nat.le_of_ble_eq_true rfl) (hK.deep (by decide)) (fun w τ' hq => ?_)
  obtain ⟨rfl, hR2⟩ := hq
  exact wl_eq (tgt := 1498) dL_law_1434 (by decide) (hloop _ _ hR2)
theorem cs_37 (hL : L ≤ 3072) (hi : i + 6 ≤ L) (hR : RR σ τ) (hloop : ∀ σ' τ', RR σ' τ' → WL l G cI adC adR b L xs 1498 (k_lv adC adR b i) [] σ' τ') : WL l G cI adC adR b L xs 1439 (k_lv adC adR b i) [] σ τ := by
  refine wl_aload (k := 1) dL_law_1439 (List.mem_cons_of_mem _ List.mem_cons_self) ?_
  refine wl_callC (vs := []) (rest := []) dL_law_1440 mV_X10_check lm_L_170 rfl rfl rfl rfl (by decide) ((P_check (E := (l, G, adC, cI)) (E' := (l, G, adR, cI)) (d := 0) (d' := 0) (Z := fun v w σ' τ' => v = w ∧ RR σ' τ') hR (fun _ _ _ h => ⟨rfl, h⟩)).deep (by decide)) (fun v σ' hK => ?_)
  refine wl_aload (k := 2) dL_law_1443 (List.mem_cons_of_mem _ (List.mem_cons_of_mem _ List.mem_cons_self)) ?_
  refine wl_callR (vs := []) (rest := [.int v]) dL_law_1444 mV_X11_check lm_L_173 rfl rfl rfl rfl (Nat.le_of_ble_eq_true rfl) (hK.deep (by decide)) (fun w τ' hq => ?_)
  obtain ⟨rfl, hR2⟩ := hq
  exact wl_eq (tgt := 1498) dL_law_1447 (by decide) (hloop _ _ hR2)
theorem cs_38 (hL : L ≤ 3072) (hi : i + 6 ≤ L) (hR : RR σ τ) (hloop : ∀ σ' τ', RR σ' τ' → WL l G cI adC adR b L xs 1498 (k_lv adC adR b i) [] σ' τ') : WL l G cI adC adR b L xs 1452 (k_lv adC adR b i) [] σ τ := by
  refine wl_aload (k := 1) dL_law_1452 (List.mem_cons_of_mem _ List.mem_cons_self) ?_
  refine wl_arg (k := 1) dL_law_1453 dL_law_1454 dL_law_1455 dL_law_1456 dL_law_1457 rfl (by omega) hL ?_
  refine wl_callC (vs := [.int (xs (i + 1))]) (rest := []) dL_law_1458 mV_X10_count lm_L_174 rfl rfl rfl rfl (by decide) ((P_count (E := (l, G, adC, cI)) (E' := (l, G, adR, cI)) (d := 0) (d' := 0) (Z := fun v w σ' τ' => v = w ∧ RR σ' τ') hR (fun _ _ _ h => ⟨rfl, h⟩)).deep (by decide)) (fun v σ' hK => ?_)
  refine wl_aload (k := 2) dL_law_1461 (List.mem_cons_of_mem _ (List.mem_cons_of_mem _ List.mem_cons_self)) ?_
  refine wl_arg (k := 1) dL_law_1462 dL_law_1463 dL_law_1464 dL_law_1465 dL_law_1466 rfl (by omega) hL ?_
  refine wl_callR (vs := [.int (xs (i + 1))]) (rest := [.int v]) dL_law_1467 mV_X11_count lm_L_177 rfl rfl rfl rfl (Nat.le_of_ble_eq_true rfl) (hK.deep (by decide)) (fun w τ' hq => ?_)
  obtain ⟨rfl, hR2⟩ := hq
  exact wl_eq (tgt := 1498) dL_law_1470 (by decide) (hloop _ _ hR2)
theorem cs_39 (hL : L ≤ 3072) (hi : i + 6 ≤ L) (hR : RR σ τ) (hloop : ∀ σ' τ', RR σ' τ' → WL l G cI adC adR b L xs 1498 (k_lv adC adR b i) [] σ' τ') : WL l G cI adC adR b L xs 1475 (k_lv adC adR b i) [] σ τ := by
  refine wl_aload (k := 1) dL_law_1475 (List.mem_cons_of_mem _ List.mem_cons_self) ?_
  refine wl_arg (k := 1) dL_law_1476 dL_law_1477 dL_law_1478 dL_law_1479 dL_law_1480 rfl (by omega) hL ?_
  refine wl_callC (vs := [.int (xs (i + 1))]) (rest := []) dL_law_1481 mV_X10_told lm_L_178 rfl rfl rfl rfl (by decide) ((P_told (E := (l, G, adC, cI)) (E' := (l, G, adR, cI)) (d := 0) (d' := 0) (Z := fun v w σ' τ' => v = w ∧ RR σ' τ') hR (fun _ _ _ h => ⟨rfl, h⟩)).deep (by decide)) (fun v σ' hK => ?_)
  refine wl_aload (k := 2) dL_law_1484 (List.mem_cons_of_mem _ (List.mem_cons_of_mem _ List.mem_cons_self)) ?_
  refine wl_arg (k := 1) dL_law_1485 dL_law_1486 dL_law_1487 dL_law_1488 dL_law_1489 rfl (by omega) hL ?_
  refine wl_callR (vs := [.int (xs (i + 1))]) (rest := [.int v]) dL_law_1490 mV_X11_told lm_L_181 rfl rfl rfl rfl (Nat.le_of_ble_eq_true rfl) (hK.deep (by decide)) (fun w τ' hq => ?_)
  obtain ⟨rfl, hR2⟩ := hq
  exact wl_eq (tgt := 1498) dL_law_1493 (by decide) (hloop _ _ hR2)
theorem law_step (hL : L ≤ 3072) (hi : i + 6 ≤ L) (hR : RR σ τ) (hloop : ∀ σ' τ', RR σ' τ' → WL l G cI adC adR b L xs 1498 (k_lv adC adR b i) [] σ' τ') : WL l G cI adC adR b L xs 27 (k_lv adC adR b i) [] σ τ := by
  refine wl_aload (k := 0) (x := b) dL_law_27 List.mem_cons_self ?_
  refine wl_iload (k := 3) (x := nI i) dL_law_28 (List.mem_cons_of_mem _ (List.mem_cons_of_mem _ (List.mem_cons_of_mem _ List.mem_cons_self))) ?_
  refine wl_sld dL_law_29 (vp_in_nI (by omega) (by omega)) ?_
  refine wl_bipush (v := nI 63) dL_law_30 (by decide) ?_
  refine wl_iand dL_law_32 ?_
  generalize xs (nI i).toNatClampNeg &&& nI 63 = x
  by_cases hx : k_lt x 40
  · obtain ⟨j, hj, rfl⟩ := hx
    rcases (by omega : j = 0 ∨ j = 1 ∨ j = 2 ∨ j = 3 ∨ j = 4 ∨ j = 5 ∨ j = 6 ∨ j = 7 ∨ j = 8 ∨ j = 9 ∨ j = 10 ∨ j = 11 ∨ j = 12 ∨ j = 13 ∨ j = 14 ∨ j = 15 ∨ j = 16 ∨ j = 17 ∨ j = 18 ∨ j = 19 ∨ j = 20 ∨ j = 21 ∨ j = 22 ∨ j = 23 ∨ j = 24 ∨ j = 25 ∨ j = 26 ∨ j = 27 ∨ j = 28 ∨ j = 29 ∨ j = 30 ∨ j = 31 ∨ j = 32 ∨ j = 33 ∨ j = 34 ∨ j = 35 ∨ j = 36 ∨ j = 37 ∨ j = 38 ∨ j = 39) with rfl | rfl | rfl | rfl | rfl | rfl | rfl | rfl | rfl | rfl | rfl | rfl | rfl | rfl | rfl | rfl | rfl | rfl | rfl | rfl | rfl | rfl | rfl | rfl | rfl | rfl | rfl | rfl | rfl | rfl | rfl | rfl | rfl | rfl | rfl | rfl | rfl | rfl | rfl | rfl
    · exact wl_in (tgt := 208) dL_law_33 (by decide) (by decide) (off := 175) (by decide +kernel) (by decide) (cs_0 hL hi hR hloop)
    · exact wl_in (tgt := 231) dL_law_33 (by decide) (by decide) (off := 198) (by decide +kernel) (by decide) (cs_1 hL hi hR hloop)
    · exact wl_in (tgt := 264) dL_law_33 (by decide) (by decide) (off := 231) (by decide +kernel) (by decide) (cs_2 hL hi hR hloop)
    · exact wl_in (tgt := 297) dL_law_33 (by decide) (by decide) (off := 264) (by decide +kernel) (by decide) (cs_3 hL hi hR hloop)
    · exact wl_in (tgt := 330) dL_law_33 (by decide) (by decide) (off := 297) (by decide +kernel) (by decide) (cs_4 hL hi hR hloop)
    · exact wl_in (tgt := 373) dL_law_33 (by decide) (by decide) (off := 340) (by decide +kernel) (by decide) (cs_5 hL hi hR hloop)
    · exact wl_in (tgt := 406) dL_law_33 (by decide) (by decide) (off := 373) (by decide +kernel) (by decide) (cs_6 hL hi hR hloop)
    · exact wl_in (tgt := 449) dL_law_33 (by decide) (by decide) (off := 416) (by decide +kernel) (by decide) (cs_7 hL hi hR hloop)
    · exact wl_in (tgt := 482) dL_law_33 (by decide) (by decide) (off := 449) (by decide +kernel) (by decide) (cs_8 hL hi hR hloop)
    · exact wl_in (tgt := 525) dL_law_33 (by decide) (by decide) (off := 492) (by decide +kernel) (by decide) (cs_9 hL hi hR hloop)
    · exact wl_in (tgt := 568) dL_law_33 (by decide) (by decide) (off := 535) (by decide +kernel) (by decide) (cs_10 hL hi hR hloop)
    · exact wl_in (tgt := 611) dL_law_33 (by decide) (by decide) (off := 578) (by decide +kernel) (by decide) (cs_11 hL hi hR hloop)
    · exact wl_in (tgt := 644) dL_law_33 (by decide) (by decide) (off := 611) (by decide +kernel) (by decide) (cs_12 hL hi hR hloop)
    · exact wl_in (tgt := 707) dL_law_33 (by decide) (by decide) (off := 674) (by decide +kernel) (by decide) (cs_13 hL hi hR hloop)
    · exact wl_in (tgt := 730) dL_law_33 (by decide) (by decide) (off := 697) (by decide +kernel) (by decide) (cs_14 hL hi hR hloop)
    · exact wl_in (tgt := 753) dL_law_33 (by decide) (by decide) (off := 720) (by decide +kernel) (by decide) (cs_15 hL hi hR hloop)
    · exact wl_in (tgt := 806) dL_law_33 (by decide) (by decide) (off := 773) (by decide +kernel) (by decide) (cs_16 hL hi hR hloop)
    · exact wl_in (tgt := 829) dL_law_33 (by decide) (by decide) (off := 796) (by decide +kernel) (by decide) (cs_17 hL hi hR hloop)
    · exact wl_in (tgt := 852) dL_law_33 (by decide) (by decide) (off := 819) (by decide +kernel) (by decide) (cs_18 hL hi hR hloop)
    · exact wl_in (tgt := 875) dL_law_33 (by decide) (by decide) (off := 842) (by decide +kernel) (by decide) (cs_19 hL hi hR hloop)
    · exact wl_in (tgt := 918) dL_law_33 (by decide) (by decide) (off := 885) (by decide +kernel) (by decide) (cs_20 hL hi hR hloop)
    · exact wl_in (tgt := 941) dL_law_33 (by decide) (by decide) (off := 908) (by decide +kernel) (by decide) (cs_21 hL hi hR hloop)
    · exact wl_in (tgt := 974) dL_law_33 (by decide) (by decide) (off := 941) (by decide +kernel) (by decide) (cs_22 hL hi hR hloop)
    · exact wl_in (tgt := 997) dL_law_33 (by decide) (by decide) (off := 964) (by decide +kernel) (by decide) (cs_23 hL hi hR hloop)
    · exact wl_in (tgt := 1030) dL_law_33 (by decide) (by decide) (off := 997) (by decide +kernel) (by decide) (cs_24 hL hi hR hloop)
    · exact wl_in (tgt := 1073) dL_law_33 (by decide) (by decide) (off := 1040) (by decide +kernel) (by decide) (cs_25 hL hi hR hloop)
    · exact wl_in (tgt := 1106) dL_law_33 (by decide) (by decide) (off := 1073) (by decide +kernel) (by decide) (cs_26 hL hi hR hloop)
    · exact wl_in (tgt := 1129) dL_law_33 (by decide) (by decide) (off := 1096) (by decide +kernel) (by decide) (cs_27 hL hi hR hloop)
    · exact wl_in (tgt := 1172) dL_law_33 (by decide) (by decide) (off := 1139) (by decide +kernel) (by decide) (cs_28 hL hi hR hloop)
    · exact wl_in (tgt := 1195) dL_law_33 (by decide) (by decide) (off := 1162) (by decide +kernel) (by decide) (cs_29 hL hi hR hloop)
    · exact wl_in (tgt := 1238) dL_law_33 (by decide) (by decide) (off := 1205) (by decide +kernel) (by decide) (cs_30 hL hi hR hloop)
    · exact wl_in (tgt := 1281) dL_law_33 (by decide) (by decide) (off := 1248) (by decide +kernel) (by decide) (cs_31 hL hi hR hloop)
    · exact wl_in (tgt := 1344) dL_law_33 (by decide) (by decide) (off := 1311) (by decide +kernel) (by decide) (cs_32 hL hi hR hloop)
    · exact wl_in (tgt := 1367) dL_law_33 (by decide) (by decide) (off := 1334) (by decide +kernel) (by decide) (cs_33 hL hi hR hloop)
    · exact wl_in (tgt := 1390) dL_law_33 (by decide) (by decide) (off := 1357) (by decide +kernel) (by decide) (cs_34 hL hi hR hloop)
    · exact wl_in (tgt := 1403) dL_law_33 (by decide) (by decide) (off := 1370) (by decide +kernel) (by decide) (cs_35 hL hi hR hloop)
    · exact wl_in (tgt := 1416) dL_law_33 (by decide) (by decide) (off := 1383) (by decide +kernel) (by decide) (cs_36 hL hi hR hloop)
    · exact wl_in (tgt := 1439) dL_law_33 (by decide) (by decide) (off := 1406) (by decide +kernel) (by decide) (cs_37 hL hi hR hloop)
    · exact wl_in (tgt := 1452) dL_law_33 (by decide) (by decide) (off := 1419) (by decide +kernel) (by decide) (cs_38 hL hi hR hloop)
    · exact wl_in (tgt := 1475) dL_law_33 (by decide) (by decide) (off := 1442) (by decide +kernel) (by decide) (cs_39 hL hi hR hloop)
  · refine wl_out (tgt := 1498) dL_law_33 ?_ (by decide) (hloop _ _ hR)
    rw [k_lt_iff (by decide)] at hx
    omega
theorem law_loop (hL : L ≤ 3072) : ∀ n i, L < i + n → i ≤ L + 5 → ∀ σ τ, RR σ τ → WL l G cI adC adR b L xs 18 (k_lv adC adR b i) [] σ τ := by
  intro n
  induction n with
  | zero =>
    intro i hn hi σ τ hR
    refine wl_iload (k := 3) (x := nI i) dL_law_18 (List.mem_cons_of_mem _ (List.mem_cons_of_mem _ (List.mem_cons_of_mem _ List.mem_cons_self))) ?_
    refine wl_aload (k := 0) (x := b) dL_law_19 List.mem_cons_self ?_
    refine wl_slen dL_law_20 ?_
    refine wl_bipush (v := nI 6) dL_law_21 (by decide) ?_
    refine wl_isub dL_law_23 ?_
    refine wl_gt (tgt := 1504) dL_law_24 (by decide) (fun _ => ?_) (fun z => ?_)
    · exact wl_iconst (v := 1) dL_law_1504 rfl (wl_end dL_law_1505)
    · rw [k_lti, pk_sub_toInt (by omega) (by decide), nI_toInt (by omega)] at z
      omega
  | succ n ih =>
    intro i hn hi σ τ hR
    refine wl_iload (k := 3) (x := nI i) dL_law_18 (List.mem_cons_of_mem _ (List.mem_cons_of_mem _ (List.mem_cons_of_mem _ List.mem_cons_self))) ?_
    refine wl_aload (k := 0) (x := b) dL_law_19 List.mem_cons_self ?_
    refine wl_slen dL_law_20 ?_
    refine wl_bipush (v := nI 6) dL_law_21 (by decide) ?_
    refine wl_isub dL_law_23 ?_
    refine wl_gt (tgt := 1504) dL_law_24 (by decide) (fun _ => ?_) (fun z => ?_)
    · exact wl_iconst (v := 1) dL_law_1504 rfl (wl_end dL_law_1505)
    · rw [k_lti, pk_sub_toInt (by omega) (by decide), nI_toInt (by omega)] at z
      refine law_step hL (by omega) hR (fun σ' τ' hR' => ?_)
      refine wl_next dL_law_1498 ?_
      exact wl_goto (tgt := 18) dL_law_1501 (by decide) (ih (i + 6) (by omega) (by omega) σ' τ' hR')
end P75
