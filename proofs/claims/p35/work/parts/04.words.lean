theorem zTm {L : List Cond} {w : Cond} (hL : ∀ w ∈ L, w ∈ lw_tbl) (i : Nat) (h : L[i]? = some w) (g : goodWord w = true) : w ∈ zTb := List.mem_filter.mpr ⟨hL w (List.mem_of_getElem? h), g⟩
theorem zTa : ∀ w ∈ tables_1, w ∈ lw_tbl := fun _ h => List.mem_append_right _ h
theorem zT1 : ∀ w ∈ tables_1_1, w ∈ lw_tbl := fun w h => zTa w (List.mem_append_left _ h)
theorem zT2 : ∀ w ∈ tables_1_2, w ∈ lw_tbl := fun w h => zTa w (List.mem_append_right _ (List.mem_append_left _ h))
theorem zT3 : ∀ w ∈ tables_1_3, w ∈ lw_tbl := fun w h => zTa w (List.mem_append_right _ (List.mem_append_right _ (List.mem_append_left _ h)))
theorem zT4 : ∀ w ∈ tables_1_4, w ∈ lw_tbl := fun w h => zTa w (List.mem_append_right _ (List.mem_append_right _ (List.mem_append_right _ (List.mem_append_left _ h))))
theorem zT5 : ∀ w ∈ tables_1_5, w ∈ lw_tbl := fun w h => zTa w (List.mem_append_right _ (List.mem_append_right _ (List.mem_append_right _ (List.mem_append_right _ (List.mem_append_left _ h)))))
theorem zT6 : ∀ w ∈ tables_1_6, w ∈ lw_tbl := fun w h => zTa w (List.mem_append_right _ (List.mem_append_right _ (List.mem_append_right _ (List.mem_append_right _ (List.mem_append_right _ (h))))))
theorem zk_iconst_0 : Int32.ofInt (0) = (0 : Int32) := by decide
theorem zk_iconst_1 : Int32.ofInt (1) = (1 : Int32) := by decide
theorem zk_bipush_6 : (Int8.ofInt (6)).toInt32 = (6 : Int32) := by decide
theorem zk_bipush_101 : (Int8.ofInt (101)).toInt32 = (101 : Int32) := by decide
theorem zk_iconst_2 : Int32.ofInt (2) = (2 : Int32) := by decide
theorem zk_bipush_10 : (Int8.ofInt (10)).toInt32 = (10 : Int32) := by decide
theorem zk_bipush_24 : (Int8.ofInt (24)).toInt32 = (24 : Int32) := by decide
theorem zk_iconst_4 : Int32.ofInt (4) = (4 : Int32) := by decide
theorem zk_bipush_15 : (Int8.ofInt (15)).toInt32 = (15 : Int32) := by decide
theorem zk_bipush_100 : (Int8.ofInt (100)).toInt32 = (100 : Int32) := by decide
theorem zk_iconst_3 : Int32.ofInt (3) = (3 : Int32) := by decide
theorem zk_iconst_m1 : Int32.ofInt (-1) = (-1 : Int32) := by decide
theorem zk_iconst_5 : Int32.ofInt (5) = (5 : Int32) := by decide
theorem zk_bipush_30 : (Int8.ofInt (30)).toInt32 = (30 : Int32) := by decide
theorem zk_bipush_20 : (Int8.ofInt (20)).toInt32 = (20 : Int32) := by decide
theorem zk_sipush_10000 : (Int16.ofInt (10000)).toInt32 = (10000 : Int32) := by decide
theorem zk_bipush_64 : (Int8.ofInt (64)).toInt32 = (64 : Int32) := by decide
theorem zk_bipush_47 : (Int8.ofInt (47)).toInt32 = (47 : Int32) := by decide
theorem zk_bipush_48 : (Int8.ofInt (48)).toInt32 = (48 : Int32) := by decide
theorem zk_bipush_57 : (Int8.ofInt (57)).toInt32 = (57 : Int32) := by decide
theorem zk_bipush_102 : (Int8.ofInt (102)).toInt32 = (102 : Int32) := by decide
theorem zk_bipush_98 : (Int8.ofInt (98)).toInt32 = (98 : Int32) := by decide
theorem zk_bipush_70 : (Int8.ofInt (70)).toInt32 = (70 : Int32) := by decide
theorem zk_bipush_66 : (Int8.ofInt (66)).toInt32 = (66 : Int32) := by decide
theorem zk_bipush_114 : (Int8.ofInt (114)).toInt32 = (114 : Int32) := by decide
theorem zk_bipush_32 : (Int8.ofInt (32)).toInt32 = (32 : Int32) := by decide
theorem zk_bipush_7 : (Int8.ofInt (7)).toInt32 = (7 : Int32) := by decide
theorem zk_bipush_m2 : (Int8.ofInt (-2)).toInt32 = (-2 : Int32) := by decide
theorem zk_bipush_m11 : (Int8.ofInt (-11)).toInt32 = (-11 : Int32) := by decide
theorem zk_bipush_m10 : (Int8.ofInt (-10)).toInt32 = (-10 : Int32) := by decide
theorem zk_bipush_m21 : (Int8.ofInt (-21)).toInt32 = (-21 : Int32) := by decide
theorem zk_sipush_9999 : (Int16.ofInt (9999)).toInt32 = (9999 : Int32) := by decide
theorem zk_sipush_128 : (Int16.ofInt (128)).toInt32 = (128 : Int32) := by decide
theorem zk_bipush_m3 : (Int8.ofInt (-3)).toInt32 = (-3 : Int32) := by decide
theorem zk_bipush_m4 : (Int8.ofInt (-4)).toInt32 = (-4 : Int32) := by decide
theorem zk_sipush_255 : (Int16.ofInt (255)).toInt32 = (255 : Int32) := by decide
theorem zk_iconst_m8 : Int32.ofInt (-8) = (-8 : Int32) := by decide
theorem zk_bipush_12 : (Int8.ofInt (12)).toInt32 = (12 : Int32) := by decide
theorem zk_bipush_96 : (Int8.ofInt (96)).toInt32 = (96 : Int32) := by decide
theorem zk_bipush_8 : (Int8.ofInt (8)).toInt32 = (8 : Int32) := by decide
theorem wk_54 : Cond.fieldLink "EndSums$Joining" 18 "EndSums$Joining" "p" "J" ∈ zTb := zTm (L := tables_1_1) zT1 54 rfl rfl
theorem wk_57 : Cond.fieldLink "EndSums$Joining" 22 "EndSums$Joining" "q" "J" ∈ zTb := zTm (L := tables_1_1) zT1 57 rfl rfl
theorem wk_313 : Cond.code yX0_startWith cX0_startWith 5 none ∈ zTb := zTm (L := tables_1_2) zT2 73 rfl rfl
theorem wk_2 : Cond.initialized "EndSums$Joining" ∈ zTb := zTm (L := tables_1_1) zT1 2 rfl rfl
theorem wk_312 : Cond.instanceMethod yX0_startWith ∈ zTb := zTm (L := tables_1_2) zT2 72 rfl rfl
theorem ws_17 : Cond.selects "EndSums$Joining" yX0_startWith yX0_startWith ∈ zTb := zTb_mem 17 rfl rfl
theorem wk_425 : Cond.code yX0_comesTo cX0_comesTo 5 (some .boolean) ∈ zTb := zTm (L := tables_1_2) zT2 185 rfl rfl
theorem wk_424 : Cond.instanceMethod yX0_comesTo ∈ zTb := zTm (L := tables_1_2) zT2 184 rfl rfl
theorem ws_35 : Cond.selects "EndSums$Joining" yX0_comesTo yX0_comesTo ∈ zTb := zTb_mem 35 rfl rfl
theorem wk_51 : Cond.fieldLink "EndSums$Joining" 47 "EndSums$Joining" "kind" "I" ∈ zTb := zTm (L := tables_1_1) zT1 51 rfl rfl
theorem wk_277 : Cond.constantLong "EndSums$Joining" 51 (10000 : Int64) ∈ zTb := zTm (L := tables_1_2) zT2 37 rfl rfl
theorem wk_278 : Cond.constantLong "EndSums$Joining" 53 (-1 : Int64) ∈ zTb := zTm (L := tables_1_2) zT2 38 rfl rfl
theorem wk_52 : Cond.fieldLink "EndSums$Joining" 12 "EndSums$Joining" "table" "LEndSums$Table;" ∈ zTb := zTm (L := tables_1_1) zT1 52 rfl rfl
theorem wn_40 : Cond.fieldLinkNest "EndSums$Joining" 55 "EndSums$Table" "neutral" "I" "EndSums" ∈ lw_tbl := zT1 _ (List.mem_of_getElem? (i := 40) rfl)
theorem wk_276 : Cond.code yX0_emptyP cX0_emptyP 1 (some .long) ∈ zTb := zTm (L := tables_1_2) zT2 36 rfl rfl
theorem wk_275 : Cond.instanceMethod yX0_emptyP ∈ zTb := zTm (L := tables_1_2) zT2 35 rfl rfl
theorem ws_11 : Cond.selects "EndSums$Joining" yX0_emptyP yX0_emptyP ∈ zTb := zTb_mem 11 rfl rfl
theorem wk_285 : Cond.code yX0_emptyQ cX0_emptyQ 1 (some .long) ∈ zTb := zTm (L := tables_1_2) zT2 45 rfl rfl
theorem wk_284 : Cond.instanceMethod yX0_emptyQ ∈ zTb := zTm (L := tables_1_2) zT2 44 rfl rfl
theorem ws_12 : Cond.selects "EndSums$Joining" yX0_emptyQ yX0_emptyQ ∈ zTb := zTb_mem 12 rfl rfl
theorem wk_443 : Cond.methodLink "EndSums$Joining" 25 yX0_emptyP ∈ zTb := zTm (L := tables_1_2) zT2 203 rfl rfl
theorem wk_444 : Cond.methodLink "EndSums$Joining" 29 yX0_emptyQ ∈ zTb := zTm (L := tables_1_2) zT2 204 rfl rfl
theorem wk_310 : Cond.methodLink "EndSums$Joining" 32 yX0_startWith ∈ zTb := zTm (L := tables_1_2) zT2 70 rfl rfl
theorem wk_442 : Cond.code yX0_startEmpty cX0_startEmpty 1 none ∈ zTb := zTm (L := tables_1_2) zT2 202 rfl rfl
theorem wk_441 : Cond.instanceMethod yX0_startEmpty ∈ zTb := zTm (L := tables_1_2) zT2 201 rfl rfl
theorem ws_38 : Cond.selects "EndSums$Joining" yX0_startEmpty yX0_startEmpty ∈ zTb := zTb_mem 38 rfl rfl
theorem wk_35 : Cond.fieldLink "EndSums$Table" 9 "EndSums$Table" "n" "I" ∈ zTb := zTm (L := tables_1_1) zT1 35 rfl rfl
theorem wk_293 : Cond.code yX3_kindOf cX3_kindOf 2 (some .int) ∈ zTb := zTm (L := tables_1_2) zT2 53 rfl rfl
theorem wk_3 : Cond.initialized "EndSums$Table" ∈ zTb := zTm (L := tables_1_1) zT1 3 rfl rfl
theorem wk_292 : Cond.instanceMethod yX3_kindOf ∈ zTb := zTm (L := tables_1_2) zT2 52 rfl rfl
theorem ws_14 : Cond.selects "EndSums$Table" yX3_kindOf yX3_kindOf ∈ zTb := zTb_mem 14 rfl rfl
theorem wn_290 : Cond.methodLinkNest "EndSums$Joining" 58 yX3_kindOf "EndSums" ∈ lw_tbl := zT2 _ (List.mem_of_getElem? (i := 50) rfl)
theorem wk_289 : Cond.code yX0_elementP cX0_elementP 2 (some .long) ∈ zTb := zTm (L := tables_1_2) zT2 49 rfl rfl
theorem wk_288 : Cond.instanceMethod yX0_elementP ∈ zTb := zTm (L := tables_1_2) zT2 48 rfl rfl
theorem ws_13 : Cond.selects "EndSums$Joining" yX0_elementP yX0_elementP ∈ zTb := zTb_mem 13 rfl rfl
theorem wk_301 : Cond.fieldLink "EndSums$Joining" 91 "EndSums$Joining" "ARRANGEMENTS" "[I" ∈ zTb := zTm (L := tables_1_2) zT2 61 rfl rfl
theorem wk_300 : Cond.code yX0_arrangement cX0_arrangement 1 (some .int) ∈ zTb := zTm (L := tables_1_2) zT2 60 rfl rfl
theorem wk_299 : Cond.static yX0_arrangement ∈ zTb := zTm (L := tables_1_2) zT2 59 rfl rfl
theorem wk_305 : Cond.code yX0_leaps cX0_leaps 4 (some .int) ∈ zTb := zTm (L := tables_1_2) zT2 65 rfl rfl
theorem wk_304 : Cond.static yX0_leaps ∈ zTb := zTm (L := tables_1_2) zT2 64 rfl rfl
theorem wk_298 : Cond.methodLink "EndSums$Joining" 62 yX0_arrangement ∈ zTb := zTm (L := tables_1_2) zT2 58 rfl rfl
theorem wk_303 : Cond.methodLink "EndSums$Joining" 65 yX0_leaps ∈ zTb := zTm (L := tables_1_2) zT2 63 rfl rfl
theorem wk_297 : Cond.code yX0_elementQ cX0_elementQ 2 (some .long) ∈ zTb := zTm (L := tables_1_2) zT2 57 rfl rfl
theorem wk_296 : Cond.instanceMethod yX0_elementQ ∈ zTb := zTm (L := tables_1_2) zT2 56 rfl rfl
theorem ws_15 : Cond.selects "EndSums$Joining" yX0_elementQ yX0_elementQ ∈ zTb := zTb_mem 15 rfl rfl
theorem wk_415 : Cond.methodLink "EndSums$Joining" 36 yX0_elementP ∈ zTb := zTm (L := tables_1_2) zT2 175 rfl rfl
theorem wk_416 : Cond.methodLink "EndSums$Joining" 40 yX0_elementQ ∈ zTb := zTm (L := tables_1_2) zT2 176 rfl rfl
theorem wk_414 : Cond.code yX0_start cX0_start 2 none ∈ zTb := zTm (L := tables_1_2) zT2 174 rfl rfl
theorem wk_413 : Cond.instanceMethod yX0_start ∈ zTb := zTm (L := tables_1_2) zT2 173 rfl rfl
theorem ws_33 : Cond.selects "EndSums$Joining" yX0_start yX0_start ∈ zTb := zTb_mem 33 rfl rfl
theorem wk_322 : Cond.code yX0_greatestDivisor cX0_greatestDivisor 11 (some .long) ∈ zTb := zTm (L := tables_1_2) zT2 82 rfl rfl
theorem wk_321 : Cond.static yX0_greatestDivisor ∈ zTb := zTm (L := tables_1_2) zT2 81 rfl rfl
theorem wk_326 : Cond.code yX0_arranged cX0_arranged 5 (some .int) ∈ zTb := zTm (L := tables_1_2) zT2 86 rfl rfl
theorem wk_325 : Cond.static yX0_arranged ∈ zTb := zTm (L := tables_1_2) zT2 85 rfl rfl
theorem wk_41 : Cond.fieldLink "EndSums$Table" 15 "EndSums$Table" "entries" "[I" ∈ zTb := zTm (L := tables_1_1) zT1 41 rfl rfl
theorem wk_331 : Cond.code yX3_entry cX3_entry 4 (some .int) ∈ zTb := zTm (L := tables_1_2) zT2 91 rfl rfl
theorem wk_330 : Cond.instanceMethod yX3_entry ∈ zTb := zTm (L := tables_1_2) zT2 90 rfl rfl
theorem ws_18 : Cond.selects "EndSums$Table" yX3_entry yX3_entry ∈ zTb := zTb_mem 18 rfl rfl
theorem wk_314 : Cond.methodLink "EndSums$Joining" 68 Lib.MathLoose.min_long.x ∈ zTb := zTm (L := tables_1_2) zT2 74 rfl rfl
theorem wk_315 : Cond.static Lib.MathLoose.min_long.x ∈ zTb := zTm (L := tables_1_2) zT2 75 rfl rfl
theorem wk_10 : Cond.initialized "java/lang/Math" ∈ zTb := zTm (L := tables_1_1) zT1 10 rfl rfl
theorem wk_316 : Cond.code Lib.MathLoose.min_long.x Lib.MathLoose.min_long.code 4 (some .long) ∈ zTb := zTm (L := tables_1_2) zT2 76 rfl rfl
theorem wk_317 : Cond.methodLink "EndSums$Joining" 74 Lib.MathLoose.max_long.x ∈ zTb := zTm (L := tables_1_2) zT2 77 rfl rfl
theorem wk_318 : Cond.static Lib.MathLoose.max_long.x ∈ zTb := zTm (L := tables_1_2) zT2 78 rfl rfl
theorem wk_319 : Cond.code Lib.MathLoose.max_long.x Lib.MathLoose.max_long.code 4 (some .long) ∈ zTb := zTm (L := tables_1_2) zT2 79 rfl rfl
theorem wk_320 : Cond.methodLink "EndSums$Joining" 77 yX0_greatestDivisor ∈ zTb := zTm (L := tables_1_2) zT2 80 rfl rfl
theorem wk_323 : Cond.constantLong "EndSums$Joining" 80 (101 : Int64) ∈ zTb := zTm (L := tables_1_2) zT2 83 rfl rfl
theorem wk_324 : Cond.methodLink "EndSums$Joining" 82 yX0_arranged ∈ zTb := zTm (L := tables_1_2) zT2 84 rfl rfl
theorem wk_327 : Cond.constantLong "EndSums$Joining" 86 (2 : Int64) ∈ zTb := zTm (L := tables_1_2) zT2 87 rfl rfl
theorem wn_328 : Cond.methodLinkNest "EndSums$Joining" 88 yX3_entry "EndSums" ∈ lw_tbl := zT2 _ (List.mem_of_getElem? (i := 88) rfl)
theorem wk_309 : Cond.code yX0_join cX0_join 11 none ∈ zTb := zTm (L := tables_1_2) zT2 69 rfl rfl
theorem wk_308 : Cond.instanceMethod yX0_join ∈ zTb := zTm (L := tables_1_2) zT2 68 rfl rfl
theorem ws_16 : Cond.selects "EndSums$Joining" yX0_join yX0_join ∈ zTb := zTb_mem 16 rfl rfl
theorem wk_421 : Cond.methodLink "EndSums$Joining" 43 yX0_join ∈ zTb := zTm (L := tables_1_2) zT2 181 rfl rfl
theorem wk_420 : Cond.code yX0_follow cX0_follow 2 none ∈ zTb := zTm (L := tables_1_2) zT2 180 rfl rfl
theorem wk_419 : Cond.instanceMethod yX0_follow ∈ zTb := zTm (L := tables_1_2) zT2 179 rfl rfl
theorem ws_34 : Cond.selects "EndSums$Joining" yX0_follow yX0_follow ∈ zTb := zTb_mem 34 rfl rfl
theorem wk_439 : Cond.methodLink "EndSums$Joining" 95 yX0_startEmpty ∈ zTb := zTm (L := tables_1_2) zT2 199 rfl rfl
theorem wk_446 : Cond.methodLink "EndSums$Joining" 102 yX0_follow ∈ zTb := zTm (L := tables_1_2) zT2 206 rfl rfl
theorem wk_445 : Cond.methodLink "EndSums$Joining" 98 yX0_start ∈ zTb := zTm (L := tables_1_2) zT2 205 rfl rfl
theorem wk_438 : Cond.code yX0_power cX0_power 6 (some .int) ∈ zTb := zTm (L := tables_1_2) zT2 198 rfl rfl
theorem wk_437 : Cond.instanceMethod yX0_power ∈ zTb := zTm (L := tables_1_2) zT2 197 rfl rfl
theorem ws_37 : Cond.selects "EndSums$Joining" yX0_power yX0_power ∈ zTb := zTb_mem 37 rfl rfl
theorem wn_37 : Cond.fieldLinkNest "EndSums$Joining" 105 "EndSums$Table" "n" "I" "EndSums" ∈ lw_tbl := zT1 _ (List.mem_of_getElem? (i := 37) rfl)
theorem wk_473 : Cond.code yX0_unlikeItems cX0_unlikeItems 1 (some .int) ∈ zTb := zTm (L := tables_1_2) zT2 233 rfl rfl
theorem wk_472 : Cond.instanceMethod yX0_unlikeItems ∈ zTb := zTm (L := tables_1_2) zT2 232 rfl rfl
theorem ws_42 : Cond.selects "EndSums$Joining" yX0_unlikeItems yX0_unlikeItems ∈ zTb := zTb_mem 42 rfl rfl
theorem wk_478 : Cond.methodLink "EndSums$Joining" 108 yX0_comesTo ∈ zTb := zTm (L := tables_1_2) zT2 238 rfl rfl
theorem wk_477 : Cond.code yX0_undo cX0_undo 3 (some .boolean) ∈ zTb := zTm (L := tables_1_2) zT2 237 rfl rfl
theorem wk_476 : Cond.instanceMethod yX0_undo ∈ zTb := zTm (L := tables_1_2) zT2 236 rfl rfl
theorem ws_43 : Cond.selects "EndSums$Joining" yX0_undo yX0_undo ∈ zTb := zTb_mem 43 rfl rfl
theorem wk_130 : Cond.fieldLink "EndSums$Line" 12 "EndSums$Line" "front" "LEndSums$Pile;" ∈ zTb := zTm (L := tables_1_1) zT1 130 rfl rfl
theorem wn_105 : Cond.fieldLinkNest "EndSums$Line" 21 "EndSums$Pile" "size" "I" "EndSums" ∈ lw_tbl := zT1 _ (List.mem_of_getElem? (i := 105) rfl)
theorem wk_133 : Cond.fieldLink "EndSums$Line" 18 "EndSums$Line" "back" "LEndSums$Pile;" ∈ zTb := zTm (L := tables_1_1) zT1 133 rfl rfl
theorem wk_241 : Cond.code yX1_size cX1_size 1 (some .int) ∈ zTb := zTm (L := tables_1_2) zT2 1 rfl rfl
theorem wk_5 : Cond.initialized "EndSums$Line" ∈ zTb := zTm (L := tables_1_1) zT1 5 rfl rfl
theorem wk_240 : Cond.instanceMethod yX1_size ∈ zTb := zTm (L := tables_1_2) zT2 0 rfl rfl
theorem ws_4 : Cond.selects "EndSums$Line" yX1_size yX1_size ∈ zTb := zTb_mem 4 rfl rfl
theorem wk_253 : Cond.code yX1_pile cX1_pile 2 (some (.object "EndSums$Pile")) ∈ zTb := zTm (L := tables_1_2) zT2 13 rfl rfl
theorem wk_252 : Cond.instanceMethod yX1_pile ∈ zTb := zTm (L := tables_1_2) zT2 12 rfl rfl
theorem ws_7 : Cond.selects "EndSums$Line" yX1_pile yX1_pile ∈ zTb := zTb_mem 7 rfl rfl
theorem wk_249 : Cond.code yX1_endOf cX1_endOf 2 (some .int) ∈ zTb := zTm (L := tables_1_2) zT2 9 rfl rfl
theorem wk_248 : Cond.instanceMethod yX1_endOf ∈ zTb := zTm (L := tables_1_2) zT2 8 rfl rfl
theorem ws_6 : Cond.selects "EndSums$Line" yX1_endOf yX1_endOf ∈ zTb := zTb_mem 6 rfl rfl
theorem wk_257 : Cond.code yX1_heightOf cX1_heightOf 2 (some .int) ∈ zTb := zTm (L := tables_1_2) zT2 17 rfl rfl
theorem wk_256 : Cond.instanceMethod yX1_heightOf ∈ zTb := zTm (L := tables_1_2) zT2 16 rfl rfl
theorem ws_8 : Cond.selects "EndSums$Line" yX1_heightOf yX1_heightOf ∈ zTb := zTb_mem 8 rfl rfl
theorem wk_260 : Cond.code yX7_at cX7_at 2 (some .int) ∈ zTb := zTm (L := tables_1_2) zT2 20 rfl rfl
theorem wk_1 : Cond.initialized "EndSums" ∈ zTb := zTm (L := tables_1_1) zT1 1 rfl rfl
theorem wk_259 : Cond.static yX7_at ∈ zTb := zTm (L := tables_1_2) zT2 19 rfl rfl
theorem wk_246 : Cond.methodLink "EndSums$Line" 25 yX1_endOf ∈ zTb := zTm (L := tables_1_2) zT2 6 rfl rfl
theorem wk_250 : Cond.methodLink "EndSums$Line" 29 yX1_pile ∈ zTb := zTm (L := tables_1_2) zT2 10 rfl rfl
theorem wn_108 : Cond.fieldLinkNest "EndSums$Line" 33 "EndSums$Pile" "items" "[I" "EndSums" ∈ lw_tbl := zT1 _ (List.mem_of_getElem? (i := 108) rfl)
theorem wk_254 : Cond.methodLink "EndSums$Line" 37 yX1_heightOf ∈ zTb := zTm (L := tables_1_2) zT2 14 rfl rfl
theorem wn_258 : Cond.methodLinkNest "EndSums$Line" 40 yX7_at "EndSums" ∈ lw_tbl := zT2 _ (List.mem_of_getElem? (i := 18) rfl)
theorem wk_245 : Cond.code yX1_itemAt cX1_itemAt 2 (some .int) ∈ zTb := zTm (L := tables_1_2) zT2 5 rfl rfl
theorem wk_244 : Cond.instanceMethod yX1_itemAt ∈ zTb := zTm (L := tables_1_2) zT2 4 rfl rfl
theorem ws_5 : Cond.selects "EndSums$Line" yX1_itemAt yX1_itemAt ∈ zTb := zTb_mem 5 rfl rfl
theorem wn_117 : Cond.fieldLinkNest "EndSums$Line" 44 "EndSums$Pile" "marks" "[I" "EndSums" ∈ lw_tbl := zT1 _ (List.mem_of_getElem? (i := 117) rfl)
theorem wk_699 : Cond.code yX1_markOf cX1_markOf 2 (some .int) ∈ zTb := zTm (L := tables_1_3) zT3 219 rfl rfl
theorem wk_698 : Cond.instanceMethod yX1_markOf ∈ zTb := zTm (L := tables_1_3) zT3 218 rfl rfl
theorem ws_66 : Cond.selects "EndSums$Line" yX1_markOf yX1_markOf ∈ zTb := zTb_mem 66 rfl rfl
theorem wk_281 : Cond.code yX7_at_ cX7_at_ 2 (some .long) ∈ zTb := zTm (L := tables_1_2) zT2 41 rfl rfl
theorem wk_280 : Cond.static yX7_at_ ∈ zTb := zTm (L := tables_1_2) zT2 40 rfl rfl
theorem wk_263 : Cond.code yX7_set cX7_set 3 none ∈ zTb := zTm (L := tables_1_2) zT2 23 rfl rfl
theorem wk_262 : Cond.static yX7_set ∈ zTb := zTm (L := tables_1_2) zT2 22 rfl rfl
theorem wk_339 : Cond.code yX7_set_ cX7_set_ 4 none ∈ zTb := zTm (L := tables_1_2) zT2 99 rfl rfl
theorem wk_338 : Cond.static yX7_set_ ∈ zTb := zTm (L := tables_1_2) zT2 98 rfl rfl
theorem wk_104 : Cond.fieldLink "EndSums$Pile" 25 "EndSums$Pile" "size" "I" ∈ zTb := zTm (L := tables_1_1) zT1 104 rfl rfl
theorem wk_107 : Cond.fieldLink "EndSums$Pile" 9 "EndSums$Pile" "items" "[I" ∈ zTb := zTm (L := tables_1_1) zT1 107 rfl rfl
theorem wn_336 : Cond.methodLinkNest "EndSums$Pile" 29 yX7_set "EndSums" ∈ lw_tbl := zT2 _ (List.mem_of_getElem? (i := 96) rfl)
theorem wk_110 : Cond.fieldLink "EndSums$Pile" 15 "EndSums$Pile" "ps" "[J" ∈ zTb := zTm (L := tables_1_1) zT1 110 rfl rfl
theorem wn_337 : Cond.methodLinkNest "EndSums$Pile" 33 yX7_set_ "EndSums" ∈ lw_tbl := zT2 _ (List.mem_of_getElem? (i := 97) rfl)
theorem wk_113 : Cond.fieldLink "EndSums$Pile" 19 "EndSums$Pile" "qs" "[J" ∈ zTb := zTm (L := tables_1_1) zT1 113 rfl rfl
theorem wk_116 : Cond.fieldLink "EndSums$Pile" 22 "EndSums$Pile" "marks" "[I" ∈ zTb := zTm (L := tables_1_1) zT1 116 rfl rfl
theorem wk_335 : Cond.code yX2_grow cX2_grow 7 none ∈ zTb := zTm (L := tables_1_2) zT2 95 rfl rfl
theorem wk_6 : Cond.initialized "EndSums$Pile" ∈ zTb := zTm (L := tables_1_1) zT1 6 rfl rfl
theorem wk_334 : Cond.instanceMethod yX2_grow ∈ zTb := zTm (L := tables_1_2) zT2 94 rfl rfl
theorem ws_19 : Cond.selects "EndSums$Pile" yX2_grow yX2_grow ∈ zTb := zTb_mem 19 rfl rfl
theorem wn_512 : Cond.methodLinkNest "EndSums$Pile" 36 yX7_at "EndSums" ∈ lw_tbl := zT3 _ (List.mem_of_getElem? (i := 32) rfl)
theorem wn_513 : Cond.methodLinkNest "EndSums$Pile" 40 yX7_at_ "EndSums" ∈ lw_tbl := zT3 _ (List.mem_of_getElem? (i := 33) rfl)
theorem wk_514 : Cond.methodLink "EndSums$Pile" 43 yX2_grow ∈ zTb := zTm (L := tables_1_3) zT3 34 rfl rfl
theorem wk_511 : Cond.code yX2_become cX2_become 3 none ∈ zTb := zTm (L := tables_1_3) zT3 31 rfl rfl
theorem wk_510 : Cond.instanceMethod yX2_become ∈ zTb := zTm (L := tables_1_3) zT3 30 rfl rfl
theorem ws_47 : Cond.selects "EndSums$Pile" yX2_become yX2_become ∈ zTb := zTb_mem 47 rfl rfl
theorem wn_508 : Cond.methodLinkNest "EndSums$Line" 47 yX2_become "EndSums" ∈ lw_tbl := zT3 _ (List.mem_of_getElem? (i := 28) rfl)
theorem wk_507 : Cond.code yX1_become cX1_become 2 none ∈ zTb := zTm (L := tables_1_3) zT3 27 rfl rfl
theorem wk_506 : Cond.instanceMethod yX1_become ∈ zTb := zTm (L := tables_1_3) zT3 26 rfl rfl
theorem ws_46 : Cond.selects "EndSums$Line" yX1_become yX1_become ∈ zTb := zTb_mem 46 rfl rfl
theorem wk_707 : Cond.code yX2_has cX2_has 3 (some .boolean) ∈ zTb := zTm (L := tables_1_3) zT3 227 rfl rfl
theorem wk_706 : Cond.instanceMethod yX2_has ∈ zTb := zTm (L := tables_1_3) zT3 226 rfl rfl
theorem ws_68 : Cond.selects "EndSums$Pile" yX2_has yX2_has ∈ zTb := zTb_mem 68 rfl rfl
theorem wn_704 : Cond.methodLinkNest "EndSums$Line" 51 yX2_has "EndSums" ∈ lw_tbl := zT3 _ (List.mem_of_getElem? (i := 224) rfl)
theorem wk_703 : Cond.code yX1_hasCell cX1_hasCell 4 (some .boolean) ∈ zTb := zTm (L := tables_1_3) zT3 223 rfl rfl
theorem wk_702 : Cond.instanceMethod yX1_hasCell ∈ zTb := zTm (L := tables_1_3) zT3 222 rfl rfl
theorem ws_67 : Cond.selects "EndSums$Line" yX1_hasCell yX1_hasCell ∈ zTb := zTb_mem 67 rfl rfl
theorem wk_695 : Cond.methodLink "EndSums$Line" 55 yX1_size ∈ zTb := zTm (L := tables_1_3) zT3 215 rfl rfl
theorem wk_696 : Cond.methodLink "EndSums$Line" 58 yX1_markOf ∈ zTb := zTm (L := tables_1_3) zT3 216 rfl rfl
theorem wk_700 : Cond.methodLink "EndSums$Line" 61 yX1_hasCell ∈ zTb := zTm (L := tables_1_3) zT3 220 rfl rfl
theorem wk_694 : Cond.code yX1_cellsSharedWith cX1_cellsSharedWith 4 (some .int) ∈ zTb := zTm (L := tables_1_3) zT3 214 rfl rfl
theorem wk_693 : Cond.instanceMethod yX1_cellsSharedWith ∈ zTb := zTm (L := tables_1_3) zT3 213 rfl rfl
theorem ws_65 : Cond.selects "EndSums$Line" yX1_cellsSharedWith yX1_cellsSharedWith ∈ zTb := zTb_mem 65 rfl rfl
theorem wk_712 : Cond.methodLink "EndSums$Line" 65 yX1_itemAt ∈ zTb := zTm (L := tables_1_3) zT3 232 rfl rfl
theorem wk_711 : Cond.code yX1_hasItemsOf cX1_hasItemsOf 4 (some .boolean) ∈ zTb := zTm (L := tables_1_3) zT3 231 rfl rfl
theorem wk_710 : Cond.instanceMethod yX1_hasItemsOf ∈ zTb := zTm (L := tables_1_3) zT3 230 rfl rfl
theorem ws_69 : Cond.selects "EndSums$Line" yX1_hasItemsOf yX1_hasItemsOf ∈ zTb := zTb_mem 69 rfl rfl
theorem wk_39 : Cond.fieldLink "EndSums$Table" 19 "EndSums$Table" "neutral" "I" ∈ zTb := zTm (L := tables_1_1) zT1 39 rfl rfl
theorem wn_403 : Cond.methodLinkNest "EndSums$Table" 22 yX7_at "EndSums" ∈ lw_tbl := zT2 _ (List.mem_of_getElem? (i := 163) rfl)
theorem wn_373 : Cond.methodLinkNest "EndSums$Table" 26 yX7_set "EndSums" ∈ lw_tbl := zT2 _ (List.mem_of_getElem? (i := 133) rfl)
theorem wk_402 : Cond.code yX3_become cX3_become 3 none ∈ zTb := zTm (L := tables_1_2) zT2 162 rfl rfl
theorem wk_401 : Cond.instanceMethod yX3_become ∈ zTb := zTm (L := tables_1_2) zT2 161 rfl rfl
theorem ws_32 : Cond.selects "EndSums$Table" yX3_become yX3_become ∈ zTb := zTb_mem 32 rfl rfl
theorem wk_149 : Cond.fieldLink "EndSums$Text" 15 "EndSums$Text" "length" "I" ∈ zTb := zTm (L := tables_1_1) zT1 149 rfl rfl
theorem wk_151 : Cond.fieldLink "EndSums$Text" 9 "EndSums$Text" "signs" "[I" ∈ zTb := zTm (L := tables_1_1) zT1 151 rfl rfl
theorem wn_352 : Cond.methodLinkNest "EndSums$Text" 23 yX7_at "EndSums" ∈ lw_tbl := zT2 _ (List.mem_of_getElem? (i := 112) rfl)
theorem wk_351 : Cond.code yX5_firstRow cX5_firstRow 2 (some .int) ∈ zTb := zTm (L := tables_1_2) zT2 111 rfl rfl
theorem wk_7 : Cond.initialized "EndSums$Text" ∈ zTb := zTm (L := tables_1_1) zT1 7 rfl rfl
theorem wk_350 : Cond.instanceMethod yX5_firstRow ∈ zTb := zTm (L := tables_1_2) zT2 110 rfl rfl
theorem ws_21 : Cond.selects "EndSums$Text" yX5_firstRow yX5_firstRow ∈ zTb := zTb_mem 21 rfl rfl
theorem wk_372 : Cond.code yX5_signAt cX5_signAt 2 (some .int) ∈ zTb := zTm (L := tables_1_2) zT2 132 rfl rfl
theorem wk_371 : Cond.instanceMethod yX5_signAt ∈ zTb := zTm (L := tables_1_2) zT2 131 rfl rfl
theorem ws_25 : Cond.selects "EndSums$Text" yX5_signAt yX5_signAt ∈ zTb := zTb_mem 25 rfl rfl
theorem wk_378 : Cond.methodLink "EndSums$Table" 43 yX3_entry ∈ zTb := zTm (L := tables_1_2) zT2 138 rfl rfl
theorem wk_377 : Cond.code yX3_neutralOne cX3_neutralOne 4 (some .int) ∈ zTb := zTm (L := tables_1_2) zT2 137 rfl rfl
theorem wk_376 : Cond.instanceMethod yX3_neutralOne ∈ zTb := zTm (L := tables_1_2) zT2 136 rfl rfl
theorem ws_26 : Cond.selects "EndSums$Table" yX3_neutralOne yX3_neutralOne ∈ zTb := zTb_mem 26 rfl rfl
theorem wn_368 : Cond.methodLinkNest "EndSums$Table" 30 yX5_firstRow "EndSums" ∈ lw_tbl := zT2 _ (List.mem_of_getElem? (i := 128) rfl)
theorem wk_374 : Cond.methodLink "EndSums$Table" 40 yX3_neutralOne ∈ zTb := zTm (L := tables_1_2) zT2 134 rfl rfl
theorem wn_369 : Cond.methodLinkNest "EndSums$Table" 36 yX5_signAt "EndSums" ∈ lw_tbl := zT2 _ (List.mem_of_getElem? (i := 129) rfl)
theorem wk_367 : Cond.code yX3_read cX3_read 4 none ∈ zTb := zTm (L := tables_1_2) zT2 127 rfl rfl
theorem wk_366 : Cond.instanceMethod yX3_read ∈ zTb := zTm (L := tables_1_2) zT2 126 rfl rfl
theorem ws_24 : Cond.selects "EndSums$Table" yX3_read yX3_read ∈ zTb := zTb_mem 24 rfl rfl
theorem wk_382 : Cond.code yX3_firstNotAlike cX3_firstNotAlike 4 (some .int) ∈ zTb := zTm (L := tables_1_2) zT2 142 rfl rfl
theorem wk_381 : Cond.instanceMethod yX3_firstNotAlike ∈ zTb := zTm (L := tables_1_2) zT2 141 rfl rfl
theorem ws_27 : Cond.selects "EndSums$Table" yX3_firstNotAlike yX3_firstNotAlike ∈ zTb := zTb_mem 27 rfl rfl
theorem wk_668 : Cond.code yX4_cost cX4_cost 4 (some .int) ∈ zTb := zTm (L := tables_1_3) zT3 188 rfl rfl
theorem wk_8 : Cond.initialized "EndSums$Takings" ∈ zTb := zTm (L := tables_1_1) zT1 8 rfl rfl
theorem wk_667 : Cond.static yX4_cost ∈ zTb := zTm (L := tables_1_3) zT3 187 rfl rfl
theorem wk_671 : Cond.code yX4_frontBehind cX4_frontBehind 5 (some .int) ∈ zTb := zTm (L := tables_1_3) zT3 191 rfl rfl
theorem wk_670 : Cond.static yX4_frontBehind ∈ zTb := zTm (L := tables_1_3) zT3 190 rfl rfl
theorem wk_666 : Cond.methodLink "EndSums$Takings" 24 yX4_cost ∈ zTb := zTm (L := tables_1_3) zT3 186 rfl rfl
theorem wk_669 : Cond.methodLink "EndSums$Takings" 28 yX4_frontBehind ∈ zTb := zTm (L := tables_1_3) zT3 189 rfl rfl
theorem wk_665 : Cond.code yX4_drain cX4_drain 5 (some .int) ∈ zTb := zTm (L := tables_1_3) zT3 185 rfl rfl
theorem wk_664 : Cond.static yX4_drain ∈ zTb := zTm (L := tables_1_3) zT3 184 rfl rfl
theorem wk_739 : Cond.code yX4_forget cX4_forget 2 none ∈ zTb := zTm (L := tables_1_4) zT4 19 rfl rfl
theorem wk_738 : Cond.static yX4_forget ∈ zTb := zTm (L := tables_1_4) zT4 18 rfl rfl
theorem wk_163 : Cond.fieldLink "EndSums$Takings" 9 "EndSums$Takings" "costs" "[I" ∈ zTb := zTm (L := tables_1_1) zT1 163 rfl rfl
theorem wn_741 : Cond.methodLinkNest "EndSums$Takings" 39 yX7_at "EndSums" ∈ lw_tbl := zT4 _ (List.mem_of_getElem? (i := 21) rfl)
theorem wk_164 : Cond.fieldLink "EndSums$Takings" 15 "EndSums$Takings" "ends" "[I" ∈ zTb := zTm (L := tables_1_1) zT1 164 rfl rfl
theorem wk_165 : Cond.fieldLink "EndSums$Takings" 18 "EndSums$Takings" "nextCosts" "[I" ∈ zTb := zTm (L := tables_1_1) zT1 165 rfl rfl
theorem wn_740 : Cond.methodLinkNest "EndSums$Takings" 35 yX7_set "EndSums" ∈ lw_tbl := zT4 _ (List.mem_of_getElem? (i := 20) rfl)
theorem wk_166 : Cond.fieldLink "EndSums$Takings" 21 "EndSums$Takings" "nextEnds" "[I" ∈ zTb := zTm (L := tables_1_1) zT1 166 rfl rfl
theorem wk_745 : Cond.code yX4_offer cX4_offer 8 none ∈ zTb := zTm (L := tables_1_4) zT4 25 rfl rfl
theorem wk_744 : Cond.instanceMethod yX4_offer ∈ zTb := zTm (L := tables_1_4) zT4 24 rfl rfl
theorem ws_72 : Cond.selects "EndSums$Takings" yX4_offer yX4_offer ∈ zTb := zTb_mem 72 rfl rfl
theorem wk_749 : Cond.code yX4_swap cX4_swap 3 none ∈ zTb := zTm (L := tables_1_4) zT4 29 rfl rfl
theorem wk_748 : Cond.instanceMethod yX4_swap ∈ zTb := zTm (L := tables_1_4) zT4 28 rfl rfl
theorem ws_73 : Cond.selects "EndSums$Takings" yX4_swap yX4_swap ∈ zTb := zTb_mem 73 rfl rfl
theorem wk_167 : Cond.fieldLink "EndSums$Takings" 54 "EndSums$Takings" "dearestCost" "I" ∈ zTb := zTm (L := tables_1_1) zT1 167 rfl rfl
theorem wk_169 : Cond.fieldLink "EndSums$Takings" 58 "EndSums$Takings" "dearestEnds" "I" ∈ zTb := zTm (L := tables_1_1) zT1 169 rfl rfl
theorem wk_753 : Cond.code yX4_choose cX4_choose 4 none ∈ zTb := zTm (L := tables_1_4) zT4 33 rfl rfl
theorem wk_752 : Cond.instanceMethod yX4_choose ∈ zTb := zTm (L := tables_1_4) zT4 32 rfl rfl
theorem ws_74 : Cond.selects "EndSums$Takings" yX4_choose yX4_choose ∈ zTb := zTb_mem 74 rfl rfl
theorem wk_737 : Cond.methodLink "EndSums$Takings" 31 yX4_forget ∈ zTb := zTm (L := tables_1_4) zT4 17 rfl rfl
theorem wk_750 : Cond.methodLink "EndSums$Takings" 50 yX4_choose ∈ zTb := zTm (L := tables_1_4) zT4 30 rfl rfl
theorem wk_746 : Cond.methodLink "EndSums$Takings" 47 yX4_swap ∈ zTb := zTm (L := tables_1_4) zT4 26 rfl rfl
theorem wk_742 : Cond.methodLink "EndSums$Takings" 43 yX4_offer ∈ zTb := zTm (L := tables_1_4) zT4 22 rfl rfl
theorem wk_736 : Cond.code yX4_seek cX4_seek 6 none ∈ zTb := zTm (L := tables_1_4) zT4 16 rfl rfl
theorem wk_735 : Cond.instanceMethod yX4_seek ∈ zTb := zTm (L := tables_1_4) zT4 15 rfl rfl
theorem ws_71 : Cond.selects "EndSums$Takings" yX4_seek yX4_seek ∈ zTb := zTb_mem 71 rfl rfl
theorem wn_609 : Cond.methodLinkNest "EndSums$Text" 19 yX7_set "EndSums" ∈ lw_tbl := zT3 _ (List.mem_of_getElem? (i := 129) rfl)
theorem wk_608 : Cond.code yX5_grow cX5_grow 2 none ∈ zTb := zTm (L := tables_1_3) zT3 128 rfl rfl
theorem wk_607 : Cond.instanceMethod yX5_grow ∈ zTb := zTm (L := tables_1_3) zT3 127 rfl rfl
theorem ws_58 : Cond.selects "EndSums$Text" yX5_grow yX5_grow ∈ zTb := zTb_mem 58 rfl rfl
theorem wk_360 : Cond.code yX5_signOrBehind cX5_signOrBehind 2 (some .int) ∈ zTb := zTm (L := tables_1_2) zT2 120 rfl rfl
theorem wk_359 : Cond.instanceMethod yX5_signOrBehind ∈ zTb := zTm (L := tables_1_2) zT2 119 rfl rfl
theorem ws_23 : Cond.selects "EndSums$Text" yX5_signOrBehind yX5_signOrBehind ∈ zTb := zTb_mem 23 rfl rfl
theorem wk_590 : Cond.code yX5_isDigit cX5_isDigit 1 (some .boolean) ∈ zTb := zTm (L := tables_1_3) zT3 110 rfl rfl
theorem wk_589 : Cond.static yX5_isDigit ∈ zTb := zTm (L := tables_1_3) zT3 109 rfl rfl
theorem wk_357 : Cond.methodLink "EndSums$Text" 35 yX5_signOrBehind ∈ zTb := zTm (L := tables_1_2) zT2 117 rfl rfl
theorem wk_361 : Cond.methodLink "EndSums$Text" 39 Lib.Math.min.name ∈ zTb := zTm (L := tables_1_2) zT2 121 rfl rfl
theorem wk_362 : Cond.static Lib.Math.min.name ∈ zTb := zTm (L := tables_1_2) zT2 122 rfl rfl
theorem wk_363 : Cond.code Lib.Math.min.name Lib.Math.min.code 2 (some .int) ∈ zTb := zTm (L := tables_1_2) zT2 123 rfl rfl
theorem wk_356 : Cond.code yX5_fitsTable cX5_fitsTable 6 (some .boolean) ∈ zTb := zTm (L := tables_1_2) zT2 116 rfl rfl
theorem wk_355 : Cond.instanceMethod yX5_fitsTable ∈ zTb := zTm (L := tables_1_2) zT2 115 rfl rfl
theorem ws_22 : Cond.selects "EndSums$Text" yX5_fitsTable yX5_fitsTable ∈ zTb := zTb_mem 22 rfl rfl
theorem wk_348 : Cond.methodLink "EndSums$Text" 27 yX5_firstRow ∈ zTb := zTm (L := tables_1_2) zT2 108 rfl rfl
theorem wk_353 : Cond.methodLink "EndSums$Text" 31 yX5_fitsTable ∈ zTb := zTm (L := tables_1_2) zT2 113 rfl rfl
theorem wk_347 : Cond.code yX5_firstWrongInTable cX5_firstWrongInTable 3 (some .int) ∈ zTb := zTm (L := tables_1_2) zT2 107 rfl rfl
theorem wk_346 : Cond.instanceMethod yX5_firstWrongInTable ∈ zTb := zTm (L := tables_1_2) zT2 106 rfl rfl
theorem ws_20 : Cond.selects "EndSums$Text" yX5_firstWrongInTable yX5_firstWrongInTable ∈ zTb := zTb_mem 20 rfl rfl
theorem wk_579 : Cond.methodLink "EndSums$Text" 45 yX5_signAt ∈ zTb := zTm (L := tables_1_3) zT3 99 rfl rfl
theorem wk_583 : Cond.code yX5_isAct cX5_isAct 3 (some .boolean) ∈ zTb := zTm (L := tables_1_3) zT3 103 rfl rfl
theorem wk_582 : Cond.instanceMethod yX5_isAct ∈ zTb := zTm (L := tables_1_3) zT3 102 rfl rfl
theorem ws_54 : Cond.selects "EndSums$Text" yX5_isAct yX5_isAct ∈ zTb := zTb_mem 54 rfl rfl
theorem wk_578 : Cond.code yX5_isPut cX5_isPut 3 (some .boolean) ∈ zTb := zTm (L := tables_1_3) zT3 98 rfl rfl
theorem wk_577 : Cond.instanceMethod yX5_isPut ∈ zTb := zTm (L := tables_1_3) zT3 97 rfl rfl
theorem ws_53 : Cond.selects "EndSums$Text" yX5_isPut yX5_isPut ∈ zTb := zTb_mem 53 rfl rfl
theorem wk_588 : Cond.methodLink "EndSums$Text" 48 yX5_isDigit ∈ zTb := zTm (L := tables_1_3) zT3 108 rfl rfl
theorem wk_587 : Cond.code yX5_digitsFrom cX5_digitsFrom 4 (some .int) ∈ zTb := zTm (L := tables_1_3) zT3 107 rfl rfl
theorem wk_586 : Cond.instanceMethod yX5_digitsFrom ∈ zTb := zTm (L := tables_1_3) zT3 106 rfl rfl
theorem ws_55 : Cond.selects "EndSums$Text" yX5_digitsFrom yX5_digitsFrom ∈ zTb := zTb_mem 55 rfl rfl
theorem wk_575 : Cond.methodLink "EndSums$Text" 52 yX5_isPut ∈ zTb := zTm (L := tables_1_3) zT3 95 rfl rfl
theorem wk_580 : Cond.methodLink "EndSums$Text" 55 yX5_isAct ∈ zTb := zTm (L := tables_1_3) zT3 100 rfl rfl
theorem wk_584 : Cond.methodLink "EndSums$Text" 58 yX5_digitsFrom ∈ zTb := zTm (L := tables_1_3) zT3 104 rfl rfl
theorem wk_574 : Cond.code yX5_firstWrongInActs cX5_firstWrongInActs 4 (some .int) ∈ zTb := zTm (L := tables_1_3) zT3 94 rfl rfl
theorem wk_573 : Cond.instanceMethod yX5_firstWrongInActs ∈ zTb := zTm (L := tables_1_3) zT3 93 rfl rfl
theorem ws_52 : Cond.selects "EndSums$Text" yX5_firstWrongInActs yX5_firstWrongInActs ∈ zTb := zTb_mem 52 rfl rfl
theorem wk_596 : Cond.code yX5_itemBehind cX5_itemBehind 6 (some .int) ∈ zTb := zTm (L := tables_1_3) zT3 116 rfl rfl
theorem wk_595 : Cond.instanceMethod yX5_itemBehind ∈ zTb := zTm (L := tables_1_3) zT3 115 rfl rfl
theorem ws_56 : Cond.selects "EndSums$Text" yX5_itemBehind yX5_itemBehind ∈ zTb := zTb_mem 56 rfl rfl
theorem wn_103 : Cond.fieldLinkNest "EndSums$Works" 19 "EndSums$Pile" "size" "I" "EndSums" ∈ lw_tbl := zT1 _ (List.mem_of_getElem? (i := 103) rfl)
theorem wk_76 : Cond.fieldLink "EndSums$Works" 56 "EndSums$Works" "made" "I" ∈ zTb := zTm (L := tables_1_1) zT1 76 rfl rfl
theorem wk_75 : Cond.fieldLink "EndSums$Works" 15 "EndSums$Works" "joining" "LEndSums$Joining;" ∈ zTb := zTm (L := tables_1_1) zT1 75 rfl rfl
theorem wn_55 : Cond.fieldLinkNest "EndSums$Works" 59 "EndSums$Joining" "p" "J" "EndSums" ∈ lw_tbl := zT1 _ (List.mem_of_getElem? (i := 55) rfl)
theorem wn_58 : Cond.fieldLinkNest "EndSums$Works" 63 "EndSums$Joining" "q" "J" "EndSums" ∈ lw_tbl := zT1 _ (List.mem_of_getElem? (i := 58) rfl)
theorem wn_332 : Cond.methodLinkNest "EndSums$Works" 66 yX2_grow "EndSums" ∈ lw_tbl := zT2 _ (List.mem_of_getElem? (i := 92) rfl)
theorem wn_286 : Cond.methodLinkNest "EndSums$Works" 45 yX0_elementP "EndSums" ∈ lw_tbl := zT2 _ (List.mem_of_getElem? (i := 46) rfl)
theorem wn_294 : Cond.methodLinkNest "EndSums$Works" 49 yX0_elementQ "EndSums" ∈ lw_tbl := zT2 _ (List.mem_of_getElem? (i := 54) rfl)
theorem wn_306 : Cond.methodLinkNest "EndSums$Works" 52 yX0_join "EndSums" ∈ lw_tbl := zT2 _ (List.mem_of_getElem? (i := 66) rfl)
theorem wn_114 : Cond.fieldLinkNest "EndSums$Works" 42 "EndSums$Pile" "qs" "[J" "EndSums" ∈ lw_tbl := zT1 _ (List.mem_of_getElem? (i := 114) rfl)
theorem wn_279 : Cond.methodLinkNest "EndSums$Works" 35 yX7_at_ "EndSums" ∈ lw_tbl := zT2 _ (List.mem_of_getElem? (i := 39) rfl)
theorem wn_282 : Cond.methodLinkNest "EndSums$Works" 39 yX0_emptyQ "EndSums" ∈ lw_tbl := zT2 _ (List.mem_of_getElem? (i := 42) rfl)
theorem wn_111 : Cond.fieldLinkNest "EndSums$Works" 31 "EndSums$Pile" "ps" "[J" "EndSums" ∈ lw_tbl := zT1 _ (List.mem_of_getElem? (i := 111) rfl)
theorem wn_273 : Cond.methodLinkNest "EndSums$Works" 25 yX0_emptyP "EndSums" ∈ lw_tbl := zT2 _ (List.mem_of_getElem? (i := 33) rfl)
theorem wk_272 : Cond.code yX6_make cX6_make 9 none ∈ zTb := zTm (L := tables_1_2) zT2 32 rfl rfl
theorem wk_4 : Cond.initialized "EndSums$Works" ∈ zTb := zTm (L := tables_1_1) zT1 4 rfl rfl
theorem wk_271 : Cond.instanceMethod yX6_make ∈ zTb := zTm (L := tables_1_2) zT2 31 rfl rfl
theorem ws_10 : Cond.selects "EndSums$Works" yX6_make yX6_make ∈ zTb := zTb_mem 10 rfl rfl
theorem wn_491 : Cond.methodLinkNest "EndSums$Works" 70 yX1_pile "EndSums" ∈ lw_tbl := zT3 _ (List.mem_of_getElem? (i := 11) rfl)
theorem wk_269 : Cond.methodLink "EndSums$Works" 76 yX6_make ∈ zTb := zTm (L := tables_1_2) zT2 29 rfl rfl
theorem wk_490 : Cond.code yX6_put cX6_put 4 none ∈ zTb := zTm (L := tables_1_3) zT3 10 rfl rfl
theorem wk_489 : Cond.instanceMethod yX6_put ∈ zTb := zTm (L := tables_1_3) zT3 9 rfl rfl
theorem ws_44 : Cond.selects "EndSums$Works" yX6_put yX6_put ∈ zTb := zTb_mem 44 rfl rfl
theorem wn_238 : Cond.methodLinkNest "EndSums$Works" 80 yX1_size "EndSums" ∈ lw_tbl := zT1 _ (List.mem_of_getElem? (i := 238) rfl)
theorem wk_80 : Cond.fieldLink "EndSums$Works" 9 "EndSums$Works" "held" "[I" ∈ zTb := zTm (L := tables_1_1) zT1 80 rfl rfl
theorem wn_242 : Cond.methodLinkNest "EndSums$Works" 83 yX1_itemAt "EndSums" ∈ lw_tbl := zT2 _ (List.mem_of_getElem? (i := 2) rfl)
theorem wn_261 : Cond.methodLinkNest "EndSums$Works" 87 yX7_set "EndSums" ∈ lw_tbl := zT2 _ (List.mem_of_getElem? (i := 21) rfl)
theorem wk_237 : Cond.code yX6_hold cX6_hold 3 none ∈ zTb := zTm (L := tables_1_1) zT1 237 rfl rfl
theorem wk_236 : Cond.instanceMethod yX6_hold ∈ zTb := zTm (L := tables_1_1) zT1 236 rfl rfl
theorem ws_3 : Cond.selects "EndSums$Works" yX6_hold yX6_hold ∈ zTb := zTb_mem 3 rfl rfl
theorem wn_131 : Cond.fieldLinkNest "EndSums$Works" 91 "EndSums$Line" "front" "LEndSums$Pile;" "EndSums" ∈ lw_tbl := zT1 _ (List.mem_of_getElem? (i := 131) rfl)
theorem wn_134 : Cond.fieldLinkNest "EndSums$Works" 95 "EndSums$Line" "back" "LEndSums$Pile;" "EndSums" ∈ lw_tbl := zT1 _ (List.mem_of_getElem? (i := 134) rfl)
theorem wn_268 : Cond.methodLinkNest "EndSums$Works" 98 yX7_at "EndSums" ∈ lw_tbl := zT2 _ (List.mem_of_getElem? (i := 28) rfl)
theorem wk_267 : Cond.code yX6_lay cX6_lay 6 none ∈ zTb := zTm (L := tables_1_2) zT2 27 rfl rfl
theorem wk_266 : Cond.instanceMethod yX6_lay ∈ zTb := zTm (L := tables_1_2) zT2 26 rfl rfl
theorem ws_9 : Cond.selects "EndSums$Works" yX6_lay yX6_lay ∈ zTb := zTb_mem 9 rfl rfl
theorem wk_234 : Cond.methodLink "EndSums$Works" 101 yX6_hold ∈ zTb := zTm (L := tables_1_1) zT1 234 rfl rfl
theorem wk_264 : Cond.methodLink "EndSums$Works" 105 yX6_lay ∈ zTb := zTm (L := tables_1_2) zT2 24 rfl rfl
theorem wk_233 : Cond.code yX6_layAsItLies cX6_layAsItLies 2 none ∈ zTb := zTm (L := tables_1_1) zT1 233 rfl rfl
theorem wk_232 : Cond.instanceMethod yX6_layAsItLies ∈ zTb := zTm (L := tables_1_1) zT1 232 rfl rfl
theorem ws_2 : Cond.selects "EndSums$Works" yX6_layAsItLies yX6_layAsItLies ∈ zTb := zTb_mem 2 rfl rfl
theorem wn_109 : Cond.fieldLinkNest "EndSums$Works" 112 "EndSums$Pile" "items" "[I" "EndSums" ∈ lw_tbl := zT1 _ (List.mem_of_getElem? (i := 109) rfl)
theorem wk_78 : Cond.fieldLink "EndSums$Works" 109 "EndSums$Works" "rebuilt" "I" ∈ zTb := zTm (L := tables_1_1) zT1 78 rfl rfl
theorem wk_499 : Cond.code yX6_take cX6_take 6 (some .int) ∈ zTb := zTm (L := tables_1_3) zT3 19 rfl rfl
theorem wk_498 : Cond.instanceMethod yX6_take ∈ zTb := zTm (L := tables_1_3) zT3 18 rfl rfl
theorem ws_45 : Cond.selects "EndSums$Works" yX6_take yX6_take ∈ zTb := zTb_mem 45 rfl rfl
theorem wk_526 : Cond.code yX6_split cX6_split 5 none ∈ zTb := zTm (L := tables_1_3) zT3 46 rfl rfl
theorem wk_525 : Cond.instanceMethod yX6_split ∈ zTb := zTm (L := tables_1_3) zT3 45 rfl rfl
theorem ws_48 : Cond.selects "EndSums$Works" yX6_split yX6_split ∈ zTb := zTb_mem 48 rfl rfl
theorem wk_534 : Cond.code yX6_turn cX6_turn 4 none ∈ zTb := zTm (L := tables_1_3) zT3 54 rfl rfl
theorem wk_533 : Cond.instanceMethod yX6_turn ∈ zTb := zTm (L := tables_1_3) zT3 53 rfl rfl
theorem ws_49 : Cond.selects "EndSums$Works" yX6_turn yX6_turn ∈ zTb := zTb_mem 49 rfl rfl
theorem wk_546 : Cond.code yX6_remake cX6_remake 8 none ∈ zTb := zTm (L := tables_1_3) zT3 66 rfl rfl
theorem wk_545 : Cond.instanceMethod yX6_remake ∈ zTb := zTm (L := tables_1_3) zT3 65 rfl rfl
theorem ws_50 : Cond.selects "EndSums$Works" yX6_remake yX6_remake ∈ zTb := zTb_mem 50 rfl rfl
theorem wk_186 : Cond.fieldLink "EndSums" 27 "EndSums" "lines" "[LEndSums$Line;" ∈ zTb := zTm (L := tables_1_1) zT1 186 rfl rfl
theorem wk_229 : Cond.code yX7_lineAt cX7_lineAt 2 (some (.object "EndSums$Line")) ∈ zTb := zTm (L := tables_1_1) zT1 229 rfl rfl
theorem wk_228 : Cond.instanceMethod yX7_lineAt ∈ zTb := zTm (L := tables_1_1) zT1 228 rfl rfl
theorem ws_1 : Cond.selects "EndSums" yX7_lineAt yX7_lineAt ∈ zTb := zTb_mem 1 rfl rfl
theorem wk_226 : Cond.methodLink "EndSums" 158 yX7_lineAt ∈ zTb := zTm (L := tables_1_1) zT1 226 rfl rfl
theorem wk_185 : Cond.fieldLink "EndSums" 21 "EndSums" "works" "LEndSums$Works;" ∈ zTb := zTm (L := tables_1_1) zT1 185 rfl rfl
theorem wn_230 : Cond.methodLinkNest "EndSums" 324 yX6_layAsItLies "EndSums" ∈ lw_tbl := zT1 _ (List.mem_of_getElem? (i := 230) rfl)
theorem wk_225 : Cond.code yX7_layAllAnew cX7_layAllAnew 3 none ∈ zTb := zTm (L := tables_1_1) zT1 225 rfl rfl
theorem wk_224 : Cond.instanceMethod yX7_layAllAnew ∈ zTb := zTm (L := tables_1_1) zT1 224 rfl rfl
theorem ws_0 : Cond.selects "EndSums" yX7_layAllAnew yX7_layAllAnew ∈ zTb := zTb_mem 0 rfl rfl
theorem wk_184 : Cond.fieldLink "EndSums" 10 "EndSums" "joining" "LEndSums$Joining;" ∈ zTb := zTm (L := tables_1_1) zT1 184 rfl rfl
theorem wn_50 : Cond.fieldLinkNest "EndSums" 67 "EndSums$Joining" "kind" "I" "EndSums" ∈ lw_tbl := zT1 _ (List.mem_of_getElem? (i := 50) rfl)
theorem wk_222 : Cond.methodLink "EndSums" 71 yX7_layAllAnew ∈ zTb := zTm (L := tables_1_1) zT1 222 rfl rfl
theorem wk_221 : Cond.code yX7_rule cX7_rule 3 (some .int) ∈ zTb := zTm (L := tables_1_1) zT1 221 rfl rfl
theorem wk_219 : Cond.instanceMethod yX7_rule ∈ zTb := zTm (L := tables_1_1) zT1 219 rfl rfl
theorem wk_220 : Cond.selects "EndSums" yX7_rule yX7_rule ∈ zTb := zTm (L := tables_1_1) zT1 220 rfl rfl
theorem wk_192 : Cond.fieldLink "EndSums" 256 "EndSums" "toldCount" "I" ∈ zTb := zTm (L := tables_1_1) zT1 192 rfl rfl
theorem wk_191 : Cond.fieldLink "EndSums" 57 "EndSums" "told" "[J" ∈ zTb := zTm (L := tables_1_1) zT1 191 rfl rfl
theorem wk_398 : Cond.code yX7_tellMore cX7_tellMore 3 none ∈ zTb := zTm (L := tables_1_2) zT2 158 rfl rfl
theorem wk_397 : Cond.instanceMethod yX7_tellMore ∈ zTb := zTm (L := tables_1_2) zT2 157 rfl rfl
theorem ws_31 : Cond.selects "EndSums" yX7_tellMore yX7_tellMore ∈ zTb := zTb_mem 31 rfl rfl
theorem wk_395 : Cond.methodLink "EndSums" 259 yX7_tellMore ∈ zTb := zTm (L := tables_1_2) zT2 155 rfl rfl
theorem wk_394 : Cond.code yX7_tell cX7_tell 3 none ∈ zTb := zTm (L := tables_1_2) zT2 154 rfl rfl
theorem wk_393 : Cond.instanceMethod yX7_tell ∈ zTb := zTm (L := tables_1_2) zT2 153 rfl rfl
theorem ws_30 : Cond.selects "EndSums" yX7_tell yX7_tell ∈ zTb := zTb_mem 30 rfl rfl
theorem wk_391 : Cond.methodLink "EndSums" 148 yX7_tell ∈ zTb := zTm (L := tables_1_2) zT2 151 rfl rfl
theorem wk_390 : Cond.code yX7_tell_ cX7_tell_ 5 none ∈ zTb := zTm (L := tables_1_2) zT2 150 rfl rfl
theorem wk_389 : Cond.instanceMethod yX7_tell_ ∈ zTb := zTm (L := tables_1_2) zT2 149 rfl rfl
theorem ws_29 : Cond.selects "EndSums" yX7_tell_ yX7_tell_ ∈ zTb := zTb_mem 29 rfl rfl
theorem wk_387 : Cond.methodLink "EndSums" 135 yX7_tell_ ∈ zTb := zTm (L := tables_1_2) zT2 147 rfl rfl
theorem wk_386 : Cond.code yX7_tell__ cX7_tell__ 7 none ∈ zTb := zTm (L := tables_1_2) zT2 146 rfl rfl
theorem wk_385 : Cond.instanceMethod yX7_tell__ ∈ zTb := zTm (L := tables_1_2) zT2 145 rfl rfl
theorem ws_28 : Cond.selects "EndSums" yX7_tell__ yX7_tell__ ∈ zTb := zTb_mem 28 rfl rfl
theorem wk_189 : Cond.fieldLink "EndSums" 46 "EndSums" "text" "LEndSums$Text;" ∈ zTb := zTm (L := tables_1_1) zT1 189 rfl rfl
theorem wn_344 : Cond.methodLinkNest "EndSums" 74 yX5_firstWrongInTable "EndSums" ∈ lw_tbl := zT2 _ (List.mem_of_getElem? (i := 104) rfl)
theorem wn_150 : Cond.fieldLinkNest "EndSums" 82 "EndSums$Text" "length" "I" "EndSums" ∈ lw_tbl := zT1 _ (List.mem_of_getElem? (i := 150) rfl)
theorem wk_188 : Cond.fieldLink "EndSums" 39 "EndSums" "fresh" "LEndSums$Table;" ∈ zTb := zTm (L := tables_1_1) zT1 188 rfl rfl
theorem wn_379 : Cond.methodLinkNest "EndSums" 85 yX3_firstNotAlike "EndSums" ∈ lw_tbl := zT2 _ (List.mem_of_getElem? (i := 139) rfl)
theorem wn_38 : Cond.fieldLinkNest "EndSums" 92 "EndSums$Table" "neutral" "I" "EndSums" ∈ lw_tbl := zT1 _ (List.mem_of_getElem? (i := 38) rfl)
theorem wn_53 : Cond.fieldLinkNest "EndSums" 95 "EndSums$Joining" "table" "LEndSums$Table;" "EndSums" ∈ lw_tbl := zT1 _ (List.mem_of_getElem? (i := 53) rfl)
theorem wn_399 : Cond.methodLinkNest "EndSums" 98 yX3_become "EndSums" ∈ lw_tbl := zT2 _ (List.mem_of_getElem? (i := 159) rfl)
theorem wn_36 : Cond.fieldLinkNest "EndSums" 102 "EndSums$Table" "n" "I" "EndSums" ∈ lw_tbl := zT1 _ (List.mem_of_getElem? (i := 36) rfl)
theorem wk_383 : Cond.methodLink "EndSums" 88 yX7_tell__ ∈ zTb := zTm (L := tables_1_2) zT2 143 rfl rfl
theorem wn_364 : Cond.methodLinkNest "EndSums" 78 yX3_read "EndSums" ∈ lw_tbl := zT2 _ (List.mem_of_getElem? (i := 124) rfl)
theorem wk_343 : Cond.code yX7_table cX7_table 3 (some .int) ∈ zTb := zTm (L := tables_1_2) zT2 103 rfl rfl
theorem wk_341 : Cond.instanceMethod yX7_table ∈ zTb := zTm (L := tables_1_2) zT2 101 rfl rfl
theorem wk_342 : Cond.selects "EndSums" yX7_table yX7_table ∈ zTb := zTm (L := tables_1_2) zT2 102 rfl rfl
theorem wk_410 : Cond.code yX7_isItem cX7_isItem 1 (some .boolean) ∈ zTb := zTm (L := tables_1_2) zT2 170 rfl rfl
theorem wk_409 : Cond.static yX7_isItem ∈ zTb := zTm (L := tables_1_2) zT2 169 rfl rfl
theorem wk_429 : Cond.code yX7_tell___ cX7_tell___ 9 none ∈ zTb := zTm (L := tables_1_2) zT2 189 rfl rfl
theorem wk_428 : Cond.instanceMethod yX7_tell___ ∈ zTb := zTm (L := tables_1_2) zT2 188 rfl rfl
theorem ws_36 : Cond.selects "EndSums" yX7_tell___ yX7_tell___ ∈ zTb := zTb_mem 36 rfl rfl
theorem wk_408 : Cond.methodLink "EndSums" 105 yX7_isItem ∈ zTb := zTm (L := tables_1_2) zT2 168 rfl rfl
theorem wn_411 : Cond.methodLinkNest "EndSums" 109 yX0_start "EndSums" ∈ lw_tbl := zT2 _ (List.mem_of_getElem? (i := 171) rfl)
theorem wn_417 : Cond.methodLinkNest "EndSums" 113 yX0_follow "EndSums" ∈ lw_tbl := zT2 _ (List.mem_of_getElem? (i := 177) rfl)
theorem wn_56 : Cond.fieldLinkNest "EndSums" 116 "EndSums$Joining" "p" "J" "EndSums" ∈ lw_tbl := zT1 _ (List.mem_of_getElem? (i := 56) rfl)
theorem wn_59 : Cond.fieldLinkNest "EndSums" 120 "EndSums$Joining" "q" "J" "EndSums" ∈ lw_tbl := zT1 _ (List.mem_of_getElem? (i := 59) rfl)
theorem wn_422 : Cond.methodLinkNest "EndSums" 123 yX0_comesTo "EndSums" ∈ lw_tbl := zT2 _ (List.mem_of_getElem? (i := 182) rfl)
theorem wk_426 : Cond.methodLink "EndSums" 127 yX7_tell___ ∈ zTb := zTm (L := tables_1_2) zT2 186 rfl rfl
theorem wk_407 : Cond.code yX7_commutes cX7_commutes 8 (some .int) ∈ zTb := zTm (L := tables_1_2) zT2 167 rfl rfl
theorem wk_405 : Cond.instanceMethod yX7_commutes ∈ zTb := zTm (L := tables_1_2) zT2 165 rfl rfl
theorem wk_406 : Cond.selects "EndSums" yX7_commutes yX7_commutes ∈ zTb := zTm (L := tables_1_2) zT2 166 rfl rfl
theorem wk_434 : Cond.constant "EndSums" 130 (1000000000 : Int32) ∈ zTb := zTm (L := tables_1_2) zT2 194 rfl rfl
theorem wn_435 : Cond.methodLinkNest "EndSums" 131 yX0_power "EndSums" ∈ lw_tbl := zT2 _ (List.mem_of_getElem? (i := 195) rfl)
theorem wk_433 : Cond.code yX7_powers cX7_powers 4 (some .int) ∈ zTb := zTm (L := tables_1_2) zT2 193 rfl rfl
theorem wk_431 : Cond.instanceMethod yX7_powers ∈ zTb := zTm (L := tables_1_2) zT2 191 rfl rfl
theorem wk_432 : Cond.selects "EndSums" yX7_powers yX7_powers ∈ zTb := zTm (L := tables_1_2) zT2 192 rfl rfl
theorem wk_193 : Cond.fieldLink "EndSums" 61 "EndSums" "sumsP" "[J" ∈ zTb := zTm (L := tables_1_1) zT1 193 rfl rfl
theorem wk_456 : Cond.methodLink "EndSums" 327 yX7_set_ ∈ zTb := zTm (L := tables_1_2) zT2 216 rfl rfl
theorem wk_194 : Cond.fieldLink "EndSums" 64 "EndSums" "sumsQ" "[J" ∈ zTb := zTm (L := tables_1_1) zT1 194 rfl rfl
theorem wk_455 : Cond.code yX7_keepSum cX7_keepSum 2 none ∈ zTb := zTm (L := tables_1_2) zT2 215 rfl rfl
theorem wk_454 : Cond.instanceMethod yX7_keepSum ∈ zTb := zTm (L := tables_1_2) zT2 214 rfl rfl
theorem ws_39 : Cond.selects "EndSums" yX7_keepSum yX7_keepSum ∈ zTb := zTb_mem 39 rfl rfl
theorem wk_461 : Cond.methodLink "EndSums" 249 yX7_at_ ∈ zTb := zTm (L := tables_1_2) zT2 221 rfl rfl
theorem wk_465 : Cond.code yX7_sumIsJust cX7_sumIsJust 6 (some .boolean) ∈ zTb := zTm (L := tables_1_2) zT2 225 rfl rfl
theorem wk_464 : Cond.instanceMethod yX7_sumIsJust ∈ zTb := zTm (L := tables_1_2) zT2 224 rfl rfl
theorem ws_41 : Cond.selects "EndSums" yX7_sumIsJust yX7_sumIsJust ∈ zTb := zTb_mem 41 rfl rfl
theorem wk_462 : Cond.methodLink "EndSums" 334 yX7_sumIsJust ∈ zTb := zTm (L := tables_1_2) zT2 222 rfl rfl
theorem wk_460 : Cond.code yX7_firstSumLike cX7_firstSumLike 3 (some .int) ∈ zTb := zTm (L := tables_1_2) zT2 220 rfl rfl
theorem wk_459 : Cond.instanceMethod yX7_firstSumLike ∈ zTb := zTm (L := tables_1_2) zT2 219 rfl rfl
theorem ws_40 : Cond.selects "EndSums" yX7_firstSumLike yX7_firstSumLike ∈ zTb := zTb_mem 40 rfl rfl
theorem wn_451 : Cond.methodLinkNest "EndSums" 138 yX0_startEmpty "EndSums" ∈ lw_tbl := zT2 _ (List.mem_of_getElem? (i := 211) rfl)
theorem wk_452 : Cond.methodLink "EndSums" 141 yX7_keepSum ∈ zTb := zTm (L := tables_1_2) zT2 212 rfl rfl
theorem wk_457 : Cond.methodLink "EndSums" 144 yX7_firstSumLike ∈ zTb := zTm (L := tables_1_2) zT2 217 rfl rfl
theorem wk_450 : Cond.code yX7_order cX7_order 4 (some .int) ∈ zTb := zTm (L := tables_1_2) zT2 210 rfl rfl
theorem wk_448 : Cond.instanceMethod yX7_order ∈ zTb := zTm (L := tables_1_2) zT2 208 rfl rfl
theorem wk_449 : Cond.selects "EndSums" yX7_order yX7_order ∈ zTb := zTm (L := tables_1_2) zT2 209 rfl rfl
theorem wn_470 : Cond.methodLinkNest "EndSums" 151 yX0_unlikeItems "EndSums" ∈ lw_tbl := zT2 _ (List.mem_of_getElem? (i := 230) rfl)
theorem wn_474 : Cond.methodLinkNest "EndSums" 154 yX0_undo "EndSums" ∈ lw_tbl := zT2 _ (List.mem_of_getElem? (i := 234) rfl)
theorem wk_469 : Cond.code yX7_undoes cX7_undoes 4 (some .int) ∈ zTb := zTm (L := tables_1_2) zT2 229 rfl rfl
theorem wk_467 : Cond.instanceMethod yX7_undoes ∈ zTb := zTm (L := tables_1_2) zT2 227 rfl rfl
theorem wk_468 : Cond.selects "EndSums" yX7_undoes yX7_undoes ∈ zTb := zTm (L := tables_1_2) zT2 228 rfl rfl
theorem wk_485 : Cond.code yX7_isEnd cX7_isEnd 1 (some .boolean) ∈ zTb := zTm (L := tables_1_3) zT3 5 rfl rfl
theorem wk_484 : Cond.static yX7_isEnd ∈ zTb := zTm (L := tables_1_3) zT3 4 rfl rfl
theorem wk_483 : Cond.methodLink "EndSums" 162 yX7_isEnd ∈ zTb := zTm (L := tables_1_3) zT3 3 rfl rfl
theorem wn_486 : Cond.methodLinkNest "EndSums" 165 yX1_size "EndSums" ∈ lw_tbl := zT3 _ (List.mem_of_getElem? (i := 6) rfl)
theorem wn_487 : Cond.methodLinkNest "EndSums" 168 yX6_put "EndSums" ∈ lw_tbl := zT3 _ (List.mem_of_getElem? (i := 7) rfl)
theorem wk_482 : Cond.code yX7_puts cX7_puts 5 (some .int) ∈ zTb := zTm (L := tables_1_3) zT3 2 rfl rfl
theorem wk_480 : Cond.instanceMethod yX7_puts ∈ zTb := zTm (L := tables_1_3) zT3 0 rfl rfl
theorem wk_481 : Cond.selects "EndSums" yX7_puts yX7_puts ∈ zTb := zTm (L := tables_1_3) zT3 1 rfl rfl
theorem wn_77 : Cond.fieldLinkNest "EndSums" 172 "EndSums$Works" "made" "I" "EndSums" ∈ lw_tbl := zT1 _ (List.mem_of_getElem? (i := 77) rfl)
theorem wn_496 : Cond.methodLinkNest "EndSums" 175 yX6_take "EndSums" ∈ lw_tbl := zT3 _ (List.mem_of_getElem? (i := 16) rfl)
theorem wk_495 : Cond.code yX7_takes cX7_takes 6 (some .int) ∈ zTb := zTm (L := tables_1_3) zT3 15 rfl rfl
theorem wk_493 : Cond.instanceMethod yX7_takes ∈ zTb := zTm (L := tables_1_3) zT3 13 rfl rfl
theorem wk_494 : Cond.selects "EndSums" yX7_takes yX7_takes ∈ zTb := zTm (L := tables_1_3) zT3 14 rfl rfl
theorem wn_504 : Cond.methodLinkNest "EndSums" 179 yX1_become "EndSums" ∈ lw_tbl := zT3 _ (List.mem_of_getElem? (i := 24) rfl)
theorem wk_503 : Cond.code yX7_copies cX7_copies 5 (some .int) ∈ zTb := zTm (L := tables_1_3) zT3 23 rfl rfl
theorem wk_501 : Cond.instanceMethod yX7_copies ∈ zTb := zTm (L := tables_1_3) zT3 21 rfl rfl
theorem wk_502 : Cond.selects "EndSums" yX7_copies yX7_copies ∈ zTb := zTm (L := tables_1_3) zT3 22 rfl rfl
theorem wk_187 : Cond.fieldLink "EndSums" 32 "EndSums" "spare" "LEndSums$Line;" ∈ zTb := zTm (L := tables_1_1) zT1 187 rfl rfl
theorem wk_518 : Cond.code yX7_joins cX7_joins 8 (some .int) ∈ zTb := zTm (L := tables_1_3) zT3 38 rfl rfl
theorem wk_516 : Cond.instanceMethod yX7_joins ∈ zTb := zTm (L := tables_1_3) zT3 36 rfl rfl
theorem wk_517 : Cond.selects "EndSums" yX7_joins yX7_joins ∈ zTb := zTm (L := tables_1_3) zT3 37 rfl rfl
theorem wn_523 : Cond.methodLinkNest "EndSums" 182 yX6_split "EndSums" ∈ lw_tbl := zT3 _ (List.mem_of_getElem? (i := 43) rfl)
theorem wk_522 : Cond.code yX7_parts cX7_parts 6 (some .int) ∈ zTb := zTm (L := tables_1_3) zT3 42 rfl rfl
theorem wk_520 : Cond.instanceMethod yX7_parts ∈ zTb := zTm (L := tables_1_3) zT3 40 rfl rfl
theorem wk_521 : Cond.selects "EndSums" yX7_parts yX7_parts ∈ zTb := zTm (L := tables_1_3) zT3 41 rfl rfl
theorem wn_531 : Cond.methodLinkNest "EndSums" 186 yX6_turn "EndSums" ∈ lw_tbl := zT3 _ (List.mem_of_getElem? (i := 51) rfl)
theorem wk_530 : Cond.code yX7_reverses cX7_reverses 3 (some .int) ∈ zTb := zTm (L := tables_1_3) zT3 50 rfl rfl
theorem wk_528 : Cond.instanceMethod yX7_reverses ∈ zTb := zTm (L := tables_1_3) zT3 48 rfl rfl
theorem wk_529 : Cond.selects "EndSums" yX7_reverses yX7_reverses ∈ zTb := zTm (L := tables_1_3) zT3 49 rfl rfl
theorem wn_539 : Cond.methodLinkNest "EndSums" 189 yX1_itemAt "EndSums" ∈ lw_tbl := zT3 _ (List.mem_of_getElem? (i := 59) rfl)
theorem wn_540 : Cond.methodLinkNest "EndSums" 192 yX1_endOf "EndSums" ∈ lw_tbl := zT3 _ (List.mem_of_getElem? (i := 60) rfl)
theorem wn_541 : Cond.methodLinkNest "EndSums" 195 yX1_heightOf "EndSums" ∈ lw_tbl := zT3 _ (List.mem_of_getElem? (i := 61) rfl)
theorem wn_542 : Cond.methodLinkNest "EndSums" 198 yX1_pile "EndSums" ∈ lw_tbl := zT3 _ (List.mem_of_getElem? (i := 62) rfl)
theorem wn_543 : Cond.methodLinkNest "EndSums" 202 yX6_remake "EndSums" ∈ lw_tbl := zT3 _ (List.mem_of_getElem? (i := 63) rfl)
theorem wk_538 : Cond.code yX7_changes cX7_changes 9 (some .int) ∈ zTb := zTm (L := tables_1_3) zT3 58 rfl rfl
theorem wk_536 : Cond.instanceMethod yX7_changes ∈ zTb := zTm (L := tables_1_3) zT3 56 rfl rfl
theorem wk_537 : Cond.selects "EndSums" yX7_changes yX7_changes ∈ zTb := zTm (L := tables_1_3) zT3 57 rfl rfl
theorem wk_550 : Cond.code yX7_slips cX7_slips 8 (some .int) ∈ zTb := zTm (L := tables_1_3) zT3 70 rfl rfl
theorem wk_548 : Cond.instanceMethod yX7_slips ∈ zTb := zTm (L := tables_1_3) zT3 68 rfl rfl
theorem wk_549 : Cond.selects "EndSums" yX7_slips yX7_slips ∈ zTb := zTm (L := tables_1_3) zT3 69 rfl rfl
theorem wk_554 : Cond.code yX7_drops cX7_drops 8 (some .int) ∈ zTb := zTm (L := tables_1_3) zT3 74 rfl rfl
theorem wk_552 : Cond.instanceMethod yX7_drops ∈ zTb := zTm (L := tables_1_3) zT3 72 rfl rfl
theorem wk_553 : Cond.selects "EndSums" yX7_drops yX7_drops ∈ zTb := zTm (L := tables_1_3) zT3 73 rfl rfl
theorem wk_562 : Cond.code yX7_sumUp cX7_sumUp 5 none ∈ zTb := zTm (L := tables_1_3) zT3 82 rfl rfl
theorem wk_561 : Cond.instanceMethod yX7_sumUp ∈ zTb := zTm (L := tables_1_3) zT3 81 rfl rfl
theorem ws_51 : Cond.selects "EndSums" yX7_sumUp yX7_sumUp ∈ zTb := zTb_mem 51 rfl rfl
theorem wk_559 : Cond.methodLink "EndSums" 206 yX7_sumUp ∈ zTb := zTm (L := tables_1_3) zT3 79 rfl rfl
theorem wk_558 : Cond.code yX7_shifts cX7_shifts 7 (some .int) ∈ zTb := zTm (L := tables_1_3) zT3 78 rfl rfl
theorem wk_556 : Cond.instanceMethod yX7_shifts ∈ zTb := zTm (L := tables_1_3) zT3 76 rfl rfl
theorem wk_557 : Cond.selects "EndSums" yX7_shifts yX7_shifts ∈ zTb := zTm (L := tables_1_3) zT3 77 rfl rfl
theorem wn_132 : Cond.fieldLinkNest "EndSums" 209 "EndSums$Line" "front" "LEndSums$Pile;" "EndSums" ∈ lw_tbl := zT1 _ (List.mem_of_getElem? (i := 132) rfl)
theorem wn_106 : Cond.fieldLinkNest "EndSums" 213 "EndSums$Pile" "size" "I" "EndSums" ∈ lw_tbl := zT1 _ (List.mem_of_getElem? (i := 106) rfl)
theorem wn_135 : Cond.fieldLinkNest "EndSums" 217 "EndSums$Line" "back" "LEndSums$Pile;" "EndSums" ∈ lw_tbl := zT1 _ (List.mem_of_getElem? (i := 135) rfl)
theorem wk_566 : Cond.code yX7_clears cX7_clears 4 (some .int) ∈ zTb := zTm (L := tables_1_3) zT3 86 rfl rfl
theorem wk_564 : Cond.instanceMethod yX7_clears ∈ zTb := zTm (L := tables_1_3) zT3 84 rfl rfl
theorem wk_565 : Cond.selects "EndSums" yX7_clears yX7_clears ∈ zTb := zTm (L := tables_1_3) zT3 85 rfl rfl
theorem wk_600 : Cond.code yX7_act cX7_act 6 (some .boolean) ∈ zTb := zTm (L := tables_1_3) zT3 120 rfl rfl
theorem wk_599 : Cond.instanceMethod yX7_act ∈ zTb := zTm (L := tables_1_3) zT3 119 rfl rfl
theorem ws_57 : Cond.selects "EndSums" yX7_act yX7_act ∈ zTb := zTb_mem 57 rfl rfl
theorem wn_571 : Cond.methodLinkNest "EndSums" 220 yX5_firstWrongInActs "EndSums" ∈ lw_tbl := zT3 _ (List.mem_of_getElem? (i := 91) rfl)
theorem wn_591 : Cond.methodLinkNest "EndSums" 223 yX5_isAct "EndSums" ∈ lw_tbl := zT3 _ (List.mem_of_getElem? (i := 111) rfl)
theorem wn_592 : Cond.methodLinkNest "EndSums" 226 yX5_signAt "EndSums" ∈ lw_tbl := zT3 _ (List.mem_of_getElem? (i := 112) rfl)
theorem wn_593 : Cond.methodLinkNest "EndSums" 229 yX5_itemBehind "EndSums" ∈ lw_tbl := zT3 _ (List.mem_of_getElem? (i := 113) rfl)
theorem wk_597 : Cond.methodLink "EndSums" 232 yX7_act ∈ zTb := zTm (L := tables_1_3) zT3 117 rfl rfl
theorem wk_570 : Cond.code yX7_run cX7_run 10 (some .int) ∈ zTb := zTm (L := tables_1_3) zT3 90 rfl rfl
theorem wk_568 : Cond.instanceMethod yX7_run ∈ zTb := zTm (L := tables_1_3) zT3 88 rfl rfl
theorem wk_569 : Cond.selects "EndSums" yX7_run yX7_run ∈ zTb := zTm (L := tables_1_3) zT3 89 rfl rfl
theorem wn_605 : Cond.methodLinkNest "EndSums" 236 yX5_grow "EndSums" ∈ lw_tbl := zT3 _ (List.mem_of_getElem? (i := 125) rfl)
theorem wk_604 : Cond.code yX7_sign cX7_sign 3 (some .int) ∈ zTb := zTm (L := tables_1_3) zT3 124 rfl rfl
theorem wk_602 : Cond.instanceMethod yX7_sign ∈ zTb := zTm (L := tables_1_3) zT3 122 rfl rfl
theorem wk_603 : Cond.selects "EndSums" yX7_sign yX7_sign ∈ zTb := zTm (L := tables_1_3) zT3 123 rfl rfl
theorem wk_613 : Cond.code yX7_end cX7_end 2 (some .boolean) ∈ zTb := zTm (L := tables_1_3) zT3 133 rfl rfl
theorem wk_611 : Cond.instanceMethod yX7_end ∈ zTb := zTm (L := tables_1_3) zT3 131 rfl rfl
theorem wk_612 : Cond.selects "EndSums" yX7_end yX7_end ∈ zTb := zTm (L := tables_1_3) zT3 132 rfl rfl
theorem wk_617 : Cond.code yX7_sum cX7_sum 3 (some .int) ∈ zTb := zTm (L := tables_1_3) zT3 137 rfl rfl
theorem wk_615 : Cond.instanceMethod yX7_sum ∈ zTb := zTm (L := tables_1_3) zT3 135 rfl rfl
theorem wk_616 : Cond.selects "EndSums" yX7_sum yX7_sum ∈ zTb := zTm (L := tables_1_3) zT3 136 rfl rfl
theorem wk_621 : Cond.code yX7_part cX7_part 5 (some .int) ∈ zTb := zTm (L := tables_1_3) zT3 141 rfl rfl
theorem wk_619 : Cond.instanceMethod yX7_part ∈ zTb := zTm (L := tables_1_3) zT3 139 rfl rfl
theorem wk_620 : Cond.selects "EndSums" yX7_part yX7_part ∈ zTb := zTm (L := tables_1_3) zT3 140 rfl rfl
theorem wk_625 : Cond.code yX7_windows cX7_windows 6 (some .int) ∈ zTb := zTm (L := tables_1_3) zT3 145 rfl rfl
theorem wk_623 : Cond.instanceMethod yX7_windows ∈ zTb := zTm (L := tables_1_3) zT3 143 rfl rfl
theorem wk_624 : Cond.selects "EndSums" yX7_windows yX7_windows ∈ zTb := zTm (L := tables_1_3) zT3 144 rfl rfl
theorem wk_629 : Cond.code yX7_first cX7_first 5 (some .int) ∈ zTb := zTm (L := tables_1_3) zT3 149 rfl rfl
theorem wk_627 : Cond.instanceMethod yX7_first ∈ zTb := zTm (L := tables_1_3) zT3 147 rfl rfl
theorem wk_628 : Cond.selects "EndSums" yX7_first yX7_first ∈ zTb := zTm (L := tables_1_3) zT3 148 rfl rfl
theorem wn_638 : Cond.methodLinkNest "EndSums" 331 yX0_startWith "EndSums" ∈ lw_tbl := zT3 _ (List.mem_of_getElem? (i := 158) rfl)
theorem wk_637 : Cond.code yX7_stretch cX7_stretch 4 none ∈ zTb := zTm (L := tables_1_3) zT3 157 rfl rfl
theorem wk_636 : Cond.instanceMethod yX7_stretch ∈ zTb := zTm (L := tables_1_3) zT3 156 rfl rfl
theorem ws_59 : Cond.selects "EndSums" yX7_stretch yX7_stretch ∈ zTb := zTb_mem 59 rfl rfl
theorem wk_642 : Cond.code yX7_firstAtMost cX7_firstAtMost 4 (some .int) ∈ zTb := zTm (L := tables_1_3) zT3 162 rfl rfl
theorem wk_641 : Cond.instanceMethod yX7_firstAtMost ∈ zTb := zTm (L := tables_1_3) zT3 161 rfl rfl
theorem ws_60 : Cond.selects "EndSums" yX7_firstAtMost yX7_firstAtMost ∈ zTb := zTb_mem 60 rfl rfl
theorem wk_634 : Cond.methodLink "EndSums" 262 yX7_stretch ∈ zTb := zTm (L := tables_1_3) zT3 154 rfl rfl
theorem wk_639 : Cond.methodLink "EndSums" 266 yX7_firstAtMost ∈ zTb := zTm (L := tables_1_3) zT3 159 rfl rfl
theorem wk_633 : Cond.code yX7_longest cX7_longest 8 (some .int) ∈ zTb := zTm (L := tables_1_3) zT3 153 rfl rfl
theorem wk_631 : Cond.instanceMethod yX7_longest ∈ zTb := zTm (L := tables_1_3) zT3 151 rfl rfl
theorem wk_632 : Cond.selects "EndSums" yX7_longest yX7_longest ∈ zTb := zTm (L := tables_1_3) zT3 152 rfl rfl
theorem wk_646 : Cond.code yX7_greatest cX7_greatest 10 (some .int) ∈ zTb := zTm (L := tables_1_3) zT3 166 rfl rfl
theorem wk_644 : Cond.instanceMethod yX7_greatest ∈ zTb := zTm (L := tables_1_3) zT3 164 rfl rfl
theorem wk_645 : Cond.selects "EndSums" yX7_greatest yX7_greatest ∈ zTb := zTm (L := tables_1_3) zT3 165 rfl rfl
theorem wk_654 : Cond.code yX7_sumsJust cX7_sumsJust 8 (some .int) ∈ zTb := zTm (L := tables_1_3) zT3 174 rfl rfl
theorem wk_653 : Cond.instanceMethod yX7_sumsJust ∈ zTb := zTm (L := tables_1_3) zT3 173 rfl rfl
theorem ws_61 : Cond.selects "EndSums" yX7_sumsJust yX7_sumsJust ∈ zTb := zTb_mem 61 rfl rfl
theorem wk_658 : Cond.code yX7_firstJust cX7_firstJust 7 (some .int) ∈ zTb := zTm (L := tables_1_3) zT3 178 rfl rfl
theorem wk_657 : Cond.instanceMethod yX7_firstJust ∈ zTb := zTm (L := tables_1_3) zT3 177 rfl rfl
theorem ws_62 : Cond.selects "EndSums" yX7_firstJust yX7_firstJust ∈ zTb := zTb_mem 62 rfl rfl
theorem wk_651 : Cond.methodLink "EndSums" 269 yX7_sumsJust ∈ zTb := zTm (L := tables_1_3) zT3 171 rfl rfl
theorem wk_655 : Cond.methodLink "EndSums" 273 yX7_firstJust ∈ zTb := zTm (L := tables_1_3) zT3 175 rfl rfl
theorem wk_650 : Cond.code yX7_finds cX7_finds 8 (some .int) ∈ zTb := zTm (L := tables_1_3) zT3 170 rfl rfl
theorem wk_648 : Cond.instanceMethod yX7_finds ∈ zTb := zTm (L := tables_1_3) zT3 168 rfl rfl
theorem wk_649 : Cond.selects "EndSums" yX7_finds yX7_finds ∈ zTb := zTm (L := tables_1_3) zT3 169 rfl rfl
theorem wn_663 : Cond.methodLinkNest "EndSums" 276 yX4_drain "EndSums" ∈ lw_tbl := zT3 _ (List.mem_of_getElem? (i := 183) rfl)
theorem wk_662 : Cond.code yX7_drains cX7_drains 6 (some .int) ∈ zTb := zTm (L := tables_1_3) zT3 182 rfl rfl
theorem wk_660 : Cond.instanceMethod yX7_drains ∈ zTb := zTm (L := tables_1_3) zT3 180 rfl rfl
theorem wk_661 : Cond.selects "EndSums" yX7_drains yX7_drains ∈ zTb := zTm (L := tables_1_3) zT3 181 rfl rfl
theorem wk_679 : Cond.code yX7_sumFirsts cX7_sumFirsts 3 none ∈ zTb := zTm (L := tables_1_3) zT3 199 rfl rfl
theorem wk_678 : Cond.instanceMethod yX7_sumFirsts ∈ zTb := zTm (L := tables_1_3) zT3 198 rfl rfl
theorem ws_63 : Cond.selects "EndSums" yX7_sumFirsts yX7_sumFirsts ∈ zTb := zTb_mem 63 rfl rfl
theorem wk_683 : Cond.code yX7_sumsLike cX7_sumsLike 5 (some .int) ∈ zTb := zTm (L := tables_1_3) zT3 203 rfl rfl
theorem wk_682 : Cond.instanceMethod yX7_sumsLike ∈ zTb := zTm (L := tables_1_3) zT3 202 rfl rfl
theorem ws_64 : Cond.selects "EndSums" yX7_sumsLike yX7_sumsLike ∈ zTb := zTb_mem 64 rfl rfl
theorem wk_676 : Cond.methodLink "EndSums" 279 yX7_sumFirsts ∈ zTb := zTm (L := tables_1_3) zT3 196 rfl rfl
theorem wk_680 : Cond.methodLink "EndSums" 282 yX7_sumsLike ∈ zTb := zTm (L := tables_1_3) zT3 200 rfl rfl
theorem wk_684 : Cond.methodLink "EndSums" 285 Lib.Math.max.name ∈ zTb := zTm (L := tables_1_3) zT3 204 rfl rfl
theorem wk_685 : Cond.static Lib.Math.max.name ∈ zTb := zTm (L := tables_1_3) zT3 205 rfl rfl
theorem wk_686 : Cond.code Lib.Math.max.name Lib.Math.max.code 2 (some .int) ∈ zTb := zTm (L := tables_1_3) zT3 206 rfl rfl
theorem wk_675 : Cond.code yX7_unlike cX7_unlike 8 (some .int) ∈ zTb := zTm (L := tables_1_3) zT3 195 rfl rfl
theorem wk_673 : Cond.instanceMethod yX7_unlike ∈ zTb := zTm (L := tables_1_3) zT3 193 rfl rfl
theorem wk_674 : Cond.selects "EndSums" yX7_unlike yX7_unlike ∈ zTb := zTm (L := tables_1_3) zT3 194 rfl rfl
theorem wn_691 : Cond.methodLinkNest "EndSums" 290 yX1_cellsSharedWith "EndSums" ∈ lw_tbl := zT3 _ (List.mem_of_getElem? (i := 211) rfl)
theorem wn_708 : Cond.methodLinkNest "EndSums" 294 yX1_hasItemsOf "EndSums" ∈ lw_tbl := zT3 _ (List.mem_of_getElem? (i := 228) rfl)
theorem wk_690 : Cond.code yX7_same cX7_same 9 (some .int) ∈ zTb := zTm (L := tables_1_3) zT3 210 rfl rfl
theorem wk_688 : Cond.instanceMethod yX7_same ∈ zTb := zTm (L := tables_1_3) zT3 208 rfl rfl
theorem wk_689 : Cond.selects "EndSums" yX7_same yX7_same ∈ zTb := zTm (L := tables_1_3) zT3 209 rfl rfl
theorem wn_721 : Cond.methodLinkNest "EndSums" 338 yX1_markOf "EndSums" ∈ lw_tbl := zT4 _ (List.mem_of_getElem? (i := 1) rfl)
theorem wn_722 : Cond.methodLinkNest "EndSums" 341 yX1_hasCell "EndSums" ∈ lw_tbl := zT4 _ (List.mem_of_getElem? (i := 2) rfl)
theorem wk_720 : Cond.code yX7_linesWithCell cX7_linesWithCell 7 (some .int) ∈ zTb := zTm (L := tables_1_4) zT4 0 rfl rfl
theorem wk_719 : Cond.instanceMethod yX7_linesWithCell ∈ zTb := zTm (L := tables_1_3) zT3 239 rfl rfl
theorem ws_70 : Cond.selects "EndSums" yX7_linesWithCell yX7_linesWithCell ∈ zTb := zTb_mem 70 rfl rfl
theorem wk_717 : Cond.methodLink "EndSums" 298 yX7_linesWithCell ∈ zTb := zTm (L := tables_1_3) zT3 237 rfl rfl
theorem wk_716 : Cond.code yX7_shared cX7_shared 10 (some .int) ∈ zTb := zTm (L := tables_1_3) zT3 236 rfl rfl
theorem wk_714 : Cond.instanceMethod yX7_shared ∈ zTb := zTm (L := tables_1_3) zT3 234 rfl rfl
theorem wk_715 : Cond.selects "EndSums" yX7_shared yX7_shared ∈ zTb := zTm (L := tables_1_3) zT3 235 rfl rfl
theorem wn_727 : Cond.methodLinkNest "EndSums" 302 yX4_frontBehind "EndSums" ∈ lw_tbl := zT4 _ (List.mem_of_getElem? (i := 7) rfl)
theorem wn_728 : Cond.methodLinkNest "EndSums" 306 yX4_cost "EndSums" ∈ lw_tbl := zT4 _ (List.mem_of_getElem? (i := 8) rfl)
theorem wk_726 : Cond.code yX7_would cX7_would 5 (some .int) ∈ zTb := zTm (L := tables_1_4) zT4 6 rfl rfl
theorem wk_724 : Cond.instanceMethod yX7_would ∈ zTb := zTm (L := tables_1_4) zT4 4 rfl rfl
theorem wk_725 : Cond.selects "EndSums" yX7_would yX7_would ∈ zTb := zTm (L := tables_1_4) zT4 5 rfl rfl
theorem wk_190 : Cond.fieldLink "EndSums" 53 "EndSums" "takings" "LEndSums$Takings;" ∈ zTb := zTm (L := tables_1_1) zT1 190 rfl rfl
theorem wn_733 : Cond.methodLinkNest "EndSums" 309 yX4_seek "EndSums" ∈ lw_tbl := zT4 _ (List.mem_of_getElem? (i := 13) rfl)
theorem wn_170 : Cond.fieldLinkNest "EndSums" 313 "EndSums$Takings" "dearestEnds" "I" "EndSums" ∈ lw_tbl := zT1 _ (List.mem_of_getElem? (i := 170) rfl)
theorem wn_168 : Cond.fieldLinkNest "EndSums" 316 "EndSums$Takings" "dearestCost" "I" "EndSums" ∈ lw_tbl := zT1 _ (List.mem_of_getElem? (i := 168) rfl)
theorem wk_732 : Cond.code yX7_dearest cX7_dearest 4 (some .int) ∈ zTb := zTm (L := tables_1_4) zT4 12 rfl rfl
theorem wk_730 : Cond.instanceMethod yX7_dearest ∈ zTb := zTm (L := tables_1_4) zT4 10 rfl rfl
theorem wk_731 : Cond.selects "EndSums" yX7_dearest yX7_dearest ∈ zTb := zTm (L := tables_1_4) zT4 11 rfl rfl
theorem wn_79 : Cond.fieldLinkNest "EndSums" 319 "EndSums$Works" "rebuilt" "I" "EndSums" ∈ lw_tbl := zT1 _ (List.mem_of_getElem? (i := 79) rfl)
theorem wk_757 : Cond.code yX7_count cX7_count 3 (some .int) ∈ zTb := zTm (L := tables_1_4) zT4 37 rfl rfl
theorem wk_755 : Cond.instanceMethod yX7_count ∈ zTb := zTm (L := tables_1_4) zT4 35 rfl rfl
theorem wk_756 : Cond.selects "EndSums" yX7_count yX7_count ∈ zTb := zTm (L := tables_1_4) zT4 36 rfl rfl
theorem wk_850 : Cond.code yX8_in cX8_in 6 (some .boolean) ∈ zTb := zTm (L := tables_1_4) zT4 130 rfl rfl
theorem wk_9 : Cond.initialized "EndSumsModel" ∈ zTb := zTm (L := tables_1_1) zT1 9 rfl rfl
theorem wk_849 : Cond.static yX8_in ∈ zTb := zTm (L := tables_1_4) zT4 129 rfl rfl
theorem wk_983 : Cond.code yX8_flag cX8_flag 1 (some .int) ∈ zTb := zTm (L := tables_1_5) zT5 23 rfl rfl
theorem wk_982 : Cond.static yX8_flag ∈ zTb := zTm (L := tables_1_5) zT5 22 rfl rfl
theorem wk_859 : Cond.fieldLink "EndSumsModel" 7 "EndSumsModel" "row" "[J" ∈ zTb := zTm (L := tables_1_4) zT4 139 rfl rfl
theorem wk_858 : Cond.fieldLink "EndSumsModel" 11 "EndSumsModel" "told" "I" ∈ zTb := zTm (L := tables_1_4) zT4 138 rfl rfl
theorem wk_1005 : Cond.code yX8_enters cX8_enters 3 none ∈ zTb := zTm (L := tables_1_5) zT5 45 rfl rfl
theorem wk_1004 : Cond.instanceMethod yX8_enters ∈ zTb := zTm (L := tables_1_5) zT5 44 rfl rfl
theorem ws_82 : Cond.selects "EndSumsModel" yX8_enters yX8_enters ∈ zTb := zTb_mem 82 rfl rfl
theorem wk_857 : Cond.fieldLink "EndSumsModel" 1 "EndSumsModel" "thrown" "I" ∈ zTb := zTm (L := tables_1_4) zT4 137 rfl rfl
theorem wk_861 : Cond.fieldLink "EndSumsModel" 14 "EndSumsModel" "taped" "I" ∈ zTb := zTm (L := tables_1_4) zT4 141 rfl rfl
theorem wk_860 : Cond.fieldLink "EndSumsModel" 17 "EndSumsModel" "tape" "[I" ∈ zTb := zTm (L := tables_1_4) zT4 140 rfl rfl
theorem wk_843 : Cond.code yX8_sign cX8_sign 3 (some .int) ∈ zTb := zTm (L := tables_1_4) zT4 123 rfl rfl
theorem wk_841 : Cond.instanceMethod yX8_sign ∈ zTb := zTm (L := tables_1_4) zT4 121 rfl rfl
theorem wk_842 : Cond.selects "EndSumsModel" yX8_sign yX8_sign ∈ zTb := zTm (L := tables_1_4) zT4 122 rfl rfl
theorem wk_848 : Cond.methodLink "EndSumsModel" 21 yX8_in ∈ zTb := zTm (L := tables_1_4) zT4 128 rfl rfl
theorem wk_847 : Cond.code yX8_end cX8_end 2 (some .boolean) ∈ zTb := zTm (L := tables_1_4) zT4 127 rfl rfl
theorem wk_845 : Cond.instanceMethod yX8_end ∈ zTb := zTm (L := tables_1_4) zT4 125 rfl rfl
theorem wk_846 : Cond.selects "EndSumsModel" yX8_end yX8_end ∈ zTb := zTm (L := tables_1_4) zT4 126 rfl rfl
theorem wk_863 : Cond.fieldLink "EndSumsModel" 25 "EndSumsModel" "to" "I" ∈ zTb := zTm (L := tables_1_4) zT4 143 rfl rfl
theorem wk_862 : Cond.fieldLink "EndSumsModel" 28 "EndSumsModel" "at" "I" ∈ zTb := zTm (L := tables_1_4) zT4 142 rfl rfl
theorem wk_1072 : Cond.code yX8_reads cX8_reads 1 none ∈ zTb := zTm (L := tables_1_5) zT5 112 rfl rfl
theorem wk_1071 : Cond.instanceMethod yX8_reads ∈ zTb := zTm (L := tables_1_5) zT5 111 rfl rfl
theorem ws_92 : Cond.selects "EndSumsModel" yX8_reads yX8_reads ∈ zTb := zTb_mem 92 rfl rfl
theorem wk_981 : Cond.methodLink "EndSumsModel" 31 yX8_flag ∈ zTb := zTm (L := tables_1_5) zT5 21 rfl rfl
theorem wk_1082 : Cond.code yX8_takesSign cX8_takesSign 3 (some .boolean) ∈ zTb := zTm (L := tables_1_5) zT5 122 rfl rfl
theorem wk_1081 : Cond.instanceMethod yX8_takesSign ∈ zTb := zTm (L := tables_1_5) zT5 121 rfl rfl
theorem ws_94 : Cond.selects "EndSumsModel" yX8_takesSign yX8_takesSign ∈ zTb := zTb_mem 94 rfl rfl
theorem wk_1077 : Cond.constantLong "EndSumsModel" 35 (48 : Int64) ∈ zTb := zTm (L := tables_1_5) zT5 117 rfl rfl
theorem wk_1087 : Cond.constantLong "EndSumsModel" 37 (57 : Int64) ∈ zTb := zTm (L := tables_1_5) zT5 127 rfl rfl
theorem wk_1086 : Cond.code yX8_isDigit cX8_isDigit 1 (some .boolean) ∈ zTb := zTm (L := tables_1_5) zT5 126 rfl rfl
theorem wk_1085 : Cond.instanceMethod yX8_isDigit ∈ zTb := zTm (L := tables_1_5) zT5 125 rfl rfl
theorem ws_95 : Cond.selects "EndSumsModel" yX8_isDigit yX8_isDigit ∈ zTb := zTb_mem 95 rfl rfl
theorem wk_868 : Cond.fieldLink "EndSumsModel" 96 "EndSumsModel" "p" "J" ∈ zTb := zTm (L := tables_1_4) zT4 148 rfl rfl
theorem wk_869 : Cond.fieldLink "EndSumsModel" 100 "EndSumsModel" "q" "J" ∈ zTb := zTm (L := tables_1_4) zT4 149 rfl rfl
theorem wk_973 : Cond.code yX8_is cX8_is 5 none ∈ zTb := zTm (L := tables_1_5) zT5 13 rfl rfl
theorem wk_972 : Cond.instanceMethod yX8_is ∈ zTb := zTm (L := tables_1_5) zT5 12 rfl rfl
theorem ws_78 : Cond.selects "EndSumsModel" yX8_is yX8_is ∈ zTb := zTb_mem 78 rfl rfl
theorem wk_864 : Cond.fieldLink "EndSumsModel" 93 "EndSumsModel" "rule" "I" ∈ zTb := zTm (L := tables_1_4) zT4 144 rfl rfl
theorem wk_1019 : Cond.constantLong "EndSumsModel" 103 (10000 : Int64) ∈ zTb := zTm (L := tables_1_5) zT5 59 rfl rfl
theorem wk_1020 : Cond.constantLong "EndSumsModel" 105 (-1 : Int64) ∈ zTb := zTm (L := tables_1_5) zT5 60 rfl rfl
theorem wk_970 : Cond.methodLink "EndSumsModel" 107 yX8_is ∈ zTb := zTm (L := tables_1_5) zT5 10 rfl rfl
theorem wk_866 : Cond.fieldLink "EndSumsModel" 111 "EndSumsModel" "neutral" "I" ∈ zTb := zTm (L := tables_1_4) zT4 146 rfl rfl
theorem wk_1018 : Cond.code yX8_empty cX8_empty 1 none ∈ zTb := zTm (L := tables_1_5) zT5 58 rfl rfl
theorem wk_1017 : Cond.instanceMethod yX8_empty ∈ zTb := zTm (L := tables_1_5) zT5 57 rfl rfl
theorem ws_84 : Cond.selects "EndSumsModel" yX8_empty yX8_empty ∈ zTb := zTb_mem 84 rfl rfl
theorem wk_980 : Cond.code yX8_lays cX8_lays 8 none ∈ zTb := zTm (L := tables_1_5) zT5 20 rfl rfl
theorem wk_979 : Cond.static yX8_lays ∈ zTb := zTm (L := tables_1_5) zT5 19 rfl rfl
theorem wk_870 : Cond.fieldLink "EndSumsModel" 51 "EndSumsModel" "places" "[I" ∈ zTb := zTm (L := tables_1_4) zT4 150 rfl rfl
theorem wk_978 : Cond.methodLink "EndSumsModel" 118 yX8_lays ∈ zTb := zTm (L := tables_1_5) zT5 18 rfl rfl
theorem wk_977 : Cond.code yX8_leaps cX8_leaps 5 (some .int) ∈ zTb := zTm (L := tables_1_5) zT5 17 rfl rfl
theorem wk_976 : Cond.instanceMethod yX8_leaps ∈ zTb := zTm (L := tables_1_5) zT5 16 rfl rfl
theorem ws_79 : Cond.selects "EndSumsModel" yX8_leaps yX8_leaps ∈ zTb := zTb_mem 79 rfl rfl
theorem wk_974 : Cond.methodLink "EndSumsModel" 114 yX8_leaps ∈ zTb := zTm (L := tables_1_5) zT5 14 rfl rfl
theorem wk_865 : Cond.fieldLink "EndSumsModel" 45 "EndSumsModel" "wide" "I" ∈ zTb := zTm (L := tables_1_4) zT4 145 rfl rfl
theorem wk_969 : Cond.code yX8_element cX8_element 2 none ∈ zTb := zTm (L := tables_1_5) zT5 9 rfl rfl
theorem wk_968 : Cond.instanceMethod yX8_element ∈ zTb := zTm (L := tables_1_5) zT5 8 rfl rfl
theorem ws_77 : Cond.selects "EndSumsModel" yX8_element yX8_element ∈ zTb := zTb_mem 77 rfl rfl
theorem wk_992 : Cond.code yX8_common cX8_common 10 (some .long) ∈ zTb := zTm (L := tables_1_5) zT5 32 rfl rfl
theorem wk_991 : Cond.static yX8_common ∈ zTb := zTm (L := tables_1_5) zT5 31 rfl rfl
theorem wk_1000 : Cond.code yX8_numberOf cX8_numberOf 6 (some .int) ∈ zTb := zTm (L := tables_1_5) zT5 40 rfl rfl
theorem wk_999 : Cond.static yX8_numberOf ∈ zTb := zTm (L := tables_1_5) zT5 39 rfl rfl
theorem wk_871 : Cond.fieldLink "EndSumsModel" 54 "EndSumsModel" "others" "[I" ∈ zTb := zTm (L := tables_1_4) zT4 151 rfl rfl
theorem wk_872 : Cond.fieldLink "EndSumsModel" 57 "EndSumsModel" "made" "[I" ∈ zTb := zTm (L := tables_1_4) zT4 152 rfl rfl
theorem wk_998 : Cond.methodLink "EndSumsModel" 122 yX8_numberOf ∈ zTb := zTm (L := tables_1_5) zT5 38 rfl rfl
theorem wk_997 : Cond.code yX8_arrangedBy cX8_arrangedBy 4 (some .int) ∈ zTb := zTm (L := tables_1_5) zT5 37 rfl rfl
theorem wk_996 : Cond.instanceMethod yX8_arrangedBy ∈ zTb := zTm (L := tables_1_5) zT5 36 rfl rfl
theorem ws_81 : Cond.selects "EndSumsModel" yX8_arrangedBy yX8_arrangedBy ∈ zTb := zTb_mem 81 rfl rfl
theorem wk_988 : Cond.methodLink "EndSumsModel" 126 Lib.MathLoose.min_long.x ∈ zTb := zTm (L := tables_1_5) zT5 28 rfl rfl
theorem wk_989 : Cond.methodLink "EndSumsModel" 132 Lib.MathLoose.max_long.x ∈ zTb := zTm (L := tables_1_5) zT5 29 rfl rfl
theorem wk_990 : Cond.methodLink "EndSumsModel" 135 yX8_common ∈ zTb := zTm (L := tables_1_5) zT5 30 rfl rfl
theorem wk_993 : Cond.constantLong "EndSumsModel" 138 (101 : Int64) ∈ zTb := zTm (L := tables_1_5) zT5 33 rfl rfl
theorem wk_994 : Cond.methodLink "EndSumsModel" 140 yX8_arrangedBy ∈ zTb := zTm (L := tables_1_5) zT5 34 rfl rfl
theorem wk_1001 : Cond.constantLong "EndSumsModel" 144 (2 : Int64) ∈ zTb := zTm (L := tables_1_5) zT5 41 rfl rfl
theorem wk_867 : Cond.fieldLink "EndSumsModel" 48 "EndSumsModel" "table" "[I" ∈ zTb := zTm (L := tables_1_4) zT4 147 rfl rfl
theorem wk_987 : Cond.code yX8_join cX8_join 11 none ∈ zTb := zTm (L := tables_1_5) zT5 27 rfl rfl
theorem wk_986 : Cond.instanceMethod yX8_join ∈ zTb := zTm (L := tables_1_5) zT5 26 rfl rfl
theorem ws_80 : Cond.selects "EndSumsModel" yX8_join yX8_join ∈ zTb := zTb_mem 80 rfl rfl
theorem wk_961 : Cond.constantLong "EndSumsModel" 146 (9999 : Int64) ∈ zTb := zTm (L := tables_1_5) zT5 1 rfl rfl
theorem wk_960 : Cond.code yX8_isItem cX8_isItem 1 (some .boolean) ∈ zTb := zTm (L := tables_1_5) zT5 0 rfl rfl
theorem wk_959 : Cond.static yX8_isItem ∈ zTb := zTm (L := tables_1_4) zT4 239 rfl rfl
theorem wk_966 : Cond.methodLink "EndSumsModel" 148 yX8_element ∈ zTb := zTm (L := tables_1_5) zT5 6 rfl rfl
theorem wk_984 : Cond.methodLink "EndSumsModel" 152 yX8_join ∈ zTb := zTm (L := tables_1_5) zT5 24 rfl rfl
theorem wk_965 : Cond.code yX8_joinsTwo cX8_joinsTwo 7 none ∈ zTb := zTm (L := tables_1_5) zT5 5 rfl rfl
theorem wk_964 : Cond.instanceMethod yX8_joinsTwo ∈ zTb := zTm (L := tables_1_5) zT5 4 rfl rfl
theorem ws_76 : Cond.selects "EndSumsModel" yX8_joinsTwo yX8_joinsTwo ∈ zTb := zTb_mem 76 rfl rfl
theorem wk_958 : Cond.methodLink "EndSumsModel" 156 yX8_isItem ∈ zTb := zTm (L := tables_1_4) zT4 238 rfl rfl
theorem wk_962 : Cond.methodLink "EndSumsModel" 160 yX8_joinsTwo ∈ zTb := zTm (L := tables_1_5) zT5 2 rfl rfl
theorem wk_1002 : Cond.methodLink "EndSumsModel" 164 yX8_enters ∈ zTb := zTm (L := tables_1_5) zT5 42 rfl rfl
theorem wk_957 : Cond.code yX8_commutes cX8_commutes 7 (some .int) ∈ zTb := zTm (L := tables_1_4) zT4 237 rfl rfl
theorem wk_955 : Cond.instanceMethod yX8_commutes ∈ zTb := zTm (L := tables_1_4) zT4 235 rfl rfl
theorem wk_956 : Cond.selects "EndSumsModel" yX8_commutes yX8_commutes ∈ zTb := zTm (L := tables_1_4) zT4 236 rfl rfl
theorem wk_1011 : Cond.methodLink "EndSumsModel" 171 yX8_power ∈ zTb := zTm (L := tables_1_5) zT5 51 rfl rfl
theorem wk_1015 : Cond.methodLink "EndSumsModel" 168 yX8_empty ∈ zTb := zTm (L := tables_1_5) zT5 55 rfl rfl
theorem wk_1014 : Cond.code yX8_power cX8_power 8 (some .int) ∈ zTb := zTm (L := tables_1_5) zT5 54 rfl rfl
theorem wk_1013 : Cond.instanceMethod yX8_power ∈ zTb := zTm (L := tables_1_5) zT5 53 rfl rfl
theorem ws_83 : Cond.selects "EndSumsModel" yX8_power yX8_power ∈ zTb := zTb_mem 83 rfl rfl
theorem wk_1010 : Cond.constantLong "EndSumsModel" 174 (1000000000 : Int64) ∈ zTb := zTm (L := tables_1_5) zT5 50 rfl rfl
theorem wk_1009 : Cond.code yX8_powers cX8_powers 4 (some .int) ∈ zTb := zTm (L := tables_1_5) zT5 49 rfl rfl
theorem wk_1007 : Cond.instanceMethod yX8_powers ∈ zTb := zTm (L := tables_1_5) zT5 47 rfl rfl
theorem wk_1008 : Cond.selects "EndSumsModel" yX8_powers yX8_powers ∈ zTb := zTm (L := tables_1_5) zT5 48 rfl rfl
theorem wk_873 : Cond.fieldLink "EndSumsModel" 60 "EndSumsModel" "sumP" "[J" ∈ zTb := zTm (L := tables_1_4) zT4 153 rfl rfl
theorem wk_874 : Cond.fieldLink "EndSumsModel" 63 "EndSumsModel" "sumQ" "[J" ∈ zTb := zTm (L := tables_1_4) zT4 154 rfl rfl
theorem wk_1024 : Cond.code yX8_order cX8_order 8 (some .int) ∈ zTb := zTm (L := tables_1_5) zT5 64 rfl rfl
theorem wk_1022 : Cond.instanceMethod yX8_order ∈ zTb := zTm (L := tables_1_5) zT5 62 rfl rfl
theorem wk_1023 : Cond.selects "EndSumsModel" yX8_order yX8_order ∈ zTb := zTm (L := tables_1_5) zT5 63 rfl rfl
theorem wk_1028 : Cond.code yX8_undoes cX8_undoes 8 (some .int) ∈ zTb := zTm (L := tables_1_5) zT5 68 rfl rfl
theorem wk_1026 : Cond.instanceMethod yX8_undoes ∈ zTb := zTm (L := tables_1_5) zT5 66 rfl rfl
theorem wk_1027 : Cond.selects "EndSumsModel" yX8_undoes yX8_undoes ∈ zTb := zTm (L := tables_1_5) zT5 67 rfl rfl
theorem wk_1107 : Cond.constantLong "EndSumsModel" 176 (3 : Int64) ∈ zTb := zTm (L := tables_1_5) zT5 147 rfl rfl
theorem wk_1106 : Cond.code yX8_isLine cX8_isLine 1 (some .boolean) ∈ zTb := zTm (L := tables_1_5) zT5 146 rfl rfl
theorem wk_1105 : Cond.static yX8_isLine ∈ zTb := zTm (L := tables_1_5) zT5 145 rfl rfl
theorem wk_1110 : Cond.code yX8_isEnd cX8_isEnd 1 (some .boolean) ∈ zTb := zTm (L := tables_1_5) zT5 150 rfl rfl
theorem wk_1109 : Cond.static yX8_isEnd ∈ zTb := zTm (L := tables_1_5) zT5 149 rfl rfl
theorem wk_875 : Cond.fieldLink "EndSumsModel" 66 "EndSumsModel" "many" "[I" ∈ zTb := zTm (L := tables_1_4) zT4 155 rfl rfl
theorem wk_1045 : Cond.code yX8_sizeOf cX8_sizeOf 2 (some .int) ∈ zTb := zTm (L := tables_1_5) zT5 85 rfl rfl
theorem wk_1044 : Cond.instanceMethod yX8_sizeOf ∈ zTb := zTm (L := tables_1_5) zT5 84 rfl rfl
theorem ws_87 : Cond.selects "EndSumsModel" yX8_sizeOf yX8_sizeOf ∈ zTb := zTb_mem 87 rfl rfl
theorem wk_1056 : Cond.code yX8_place cX8_place 2 (some .int) ∈ zTb := zTm (L := tables_1_5) zT5 96 rfl rfl
theorem wk_1055 : Cond.static yX8_place ∈ zTb := zTm (L := tables_1_5) zT5 95 rfl rfl
theorem wk_1054 : Cond.methodLink "EndSumsModel" 178 yX8_place ∈ zTb := zTm (L := tables_1_5) zT5 94 rfl rfl
theorem wk_1053 : Cond.code yX8_placeOf cX8_placeOf 4 (some .int) ∈ zTb := zTm (L := tables_1_5) zT5 93 rfl rfl
theorem wk_1052 : Cond.instanceMethod yX8_placeOf ∈ zTb := zTm (L := tables_1_5) zT5 92 rfl rfl
theorem ws_89 : Cond.selects "EndSumsModel" yX8_placeOf yX8_placeOf ∈ zTb := zTb_mem 89 rfl rfl
theorem wk_877 : Cond.fieldLink "EndSumsModel" 72 "EndSumsModel" "item" "[I" ∈ zTb := zTm (L := tables_1_4) zT4 157 rfl rfl
theorem wk_1050 : Cond.methodLink "EndSumsModel" 181 yX8_placeOf ∈ zTb := zTm (L := tables_1_5) zT5 90 rfl rfl
theorem wk_1049 : Cond.code yX8_itemAt cX8_itemAt 3 (some .int) ∈ zTb := zTm (L := tables_1_5) zT5 89 rfl rfl
theorem wk_1048 : Cond.instanceMethod yX8_itemAt ∈ zTb := zTm (L := tables_1_5) zT5 88 rfl rfl
theorem ws_88 : Cond.selects "EndSumsModel" yX8_itemAt yX8_itemAt ∈ zTb := zTb_mem 88 rfl rfl
theorem wk_878 : Cond.fieldLink "EndSumsModel" 75 "EndSumsModel" "cellP" "[J" ∈ zTb := zTm (L := tables_1_4) zT4 158 rfl rfl
theorem wk_879 : Cond.fieldLink "EndSumsModel" 78 "EndSumsModel" "cellQ" "[J" ∈ zTb := zTm (L := tables_1_4) zT4 159 rfl rfl
theorem wk_876 : Cond.fieldLink "EndSumsModel" 69 "EndSumsModel" "cell" "[I" ∈ zTb := zTm (L := tables_1_4) zT4 156 rfl rfl
theorem wk_880 : Cond.fieldLink "EndSumsModel" 184 "EndSumsModel" "work" "I" ∈ zTb := zTm (L := tables_1_4) zT4 160 rfl rfl
theorem wk_1064 : Cond.code yX8_makes cX8_makes 8 none ∈ zTb := zTm (L := tables_1_5) zT5 104 rfl rfl
theorem wk_1063 : Cond.instanceMethod yX8_makes ∈ zTb := zTm (L := tables_1_5) zT5 103 rfl rfl
theorem ws_91 : Cond.selects "EndSumsModel" yX8_makes yX8_makes ∈ zTb := zTb_mem 91 rfl rfl
theorem wk_1042 : Cond.methodLink "EndSumsModel" 187 yX8_sizeOf ∈ zTb := zTm (L := tables_1_5) zT5 82 rfl rfl
theorem wk_882 : Cond.fieldLink "EndSumsModel" 81 "EndSumsModel" "items" "[I" ∈ zTb := zTm (L := tables_1_4) zT4 162 rfl rfl
theorem wk_1046 : Cond.methodLink "EndSumsModel" 190 yX8_itemAt ∈ zTb := zTm (L := tables_1_5) zT5 86 rfl rfl
theorem wk_1041 : Cond.code yX8_takesItems cX8_takesItems 4 (some .int) ∈ zTb := zTm (L := tables_1_5) zT5 81 rfl rfl
theorem wk_1040 : Cond.instanceMethod yX8_takesItems ∈ zTb := zTm (L := tables_1_5) zT5 80 rfl rfl
theorem ws_86 : Cond.selects "EndSumsModel" yX8_takesItems yX8_takesItems ∈ zTb := zTb_mem 86 rfl rfl
theorem wk_1061 : Cond.methodLink "EndSumsModel" 193 yX8_makes ∈ zTb := zTm (L := tables_1_5) zT5 101 rfl rfl
theorem wk_1060 : Cond.code yX8_lays_ cX8_lays_ 6 none ∈ zTb := zTm (L := tables_1_5) zT5 100 rfl rfl
theorem wk_1059 : Cond.instanceMethod yX8_lays_ ∈ zTb := zTm (L := tables_1_5) zT5 99 rfl rfl
theorem ws_90 : Cond.selects "EndSumsModel" yX8_lays_ yX8_lays_ ∈ zTb := zTb_mem 90 rfl rfl
theorem wk_1038 : Cond.methodLink "EndSumsModel" 196 yX8_takesItems ∈ zTb := zTm (L := tables_1_5) zT5 78 rfl rfl
theorem wk_1057 : Cond.methodLink "EndSumsModel" 199 yX8_lays_ ∈ zTb := zTm (L := tables_1_5) zT5 97 rfl rfl
theorem wk_1037 : Cond.code yX8_laysAll cX8_laysAll 4 none ∈ zTb := zTm (L := tables_1_5) zT5 77 rfl rfl
theorem wk_1036 : Cond.instanceMethod yX8_laysAll ∈ zTb := zTm (L := tables_1_5) zT5 76 rfl rfl
theorem ws_85 : Cond.selects "EndSumsModel" yX8_laysAll yX8_laysAll ∈ zTb := zTb_mem 85 rfl rfl
theorem wk_881 : Cond.fieldLink "EndSumsModel" 202 "EndSumsModel" "rebuilt" "I" ∈ zTb := zTm (L := tables_1_4) zT4 161 rfl rfl
theorem wk_1118 : Cond.code yX8_takesOne cX8_takesOne 6 (some .int) ∈ zTb := zTm (L := tables_1_5) zT5 158 rfl rfl
theorem wk_1117 : Cond.instanceMethod yX8_takesOne ∈ zTb := zTm (L := tables_1_5) zT5 157 rfl rfl
theorem ws_99 : Cond.selects "EndSumsModel" yX8_takesOne yX8_takesOne ∈ zTb := zTb_mem 99 rfl rfl
theorem wk_1130 : Cond.code yX8_copiesTo cX8_copiesTo 7 none ∈ zTb := zTm (L := tables_1_5) zT5 170 rfl rfl
theorem wk_1129 : Cond.instanceMethod yX8_copiesTo ∈ zTb := zTm (L := tables_1_5) zT5 169 rfl rfl
theorem ws_101 : Cond.selects "EndSumsModel" yX8_copiesTo yX8_copiesTo ∈ zTb := zTb_mem 101 rfl rfl
theorem wk_1033 : Cond.constantLong "EndSumsModel" 205 (7 : Int64) ∈ zTb := zTm (L := tables_1_5) zT5 73 rfl rfl
theorem wk_1034 : Cond.methodLink "EndSumsModel" 207 yX8_laysAll ∈ zTb := zTm (L := tables_1_5) zT5 74 rfl rfl
theorem wk_1032 : Cond.code yX8_rule cX8_rule 3 (some .int) ∈ zTb := zTm (L := tables_1_5) zT5 72 rfl rfl
theorem wk_1030 : Cond.instanceMethod yX8_rule ∈ zTb := zTm (L := tables_1_5) zT5 70 rfl rfl
theorem wk_1031 : Cond.selects "EndSumsModel" yX8_rule yX8_rule ∈ zTb := zTm (L := tables_1_5) zT5 71 rfl rfl
theorem wk_884 : Cond.fieldLink "EndSumsModel" 210 "EndSumsModel" "readWide" "I" ∈ zTb := zTm (L := tables_1_4) zT4 164 rfl rfl
theorem wk_1083 : Cond.methodLink "EndSumsModel" 218 yX8_isDigit ∈ zTb := zTm (L := tables_1_5) zT5 123 rfl rfl
theorem wk_883 : Cond.fieldLink "EndSumsModel" 84 "EndSumsModel" "readTable" "[I" ∈ zTb := zTm (L := tables_1_4) zT4 163 rfl rfl
theorem wk_1079 : Cond.methodLink "EndSumsModel" 215 yX8_takesSign ∈ zTb := zTm (L := tables_1_5) zT5 119 rfl rfl
theorem wk_1078 : Cond.constantLong "EndSumsModel" 213 (52 : Int64) ∈ zTb := zTm (L := tables_1_5) zT5 118 rfl rfl
theorem wk_1076 : Cond.code yX8_readsTable cX8_readsTable 3 (some .boolean) ∈ zTb := zTm (L := tables_1_5) zT5 116 rfl rfl
theorem wk_1075 : Cond.instanceMethod yX8_readsTable ∈ zTb := zTm (L := tables_1_5) zT5 115 rfl rfl
theorem ws_93 : Cond.selects "EndSumsModel" yX8_readsTable yX8_readsTable ∈ zTb := zTb_mem 93 rfl rfl
theorem wk_1095 : Cond.code yX8_read cX8_read 3 (some .int) ∈ zTb := zTm (L := tables_1_5) zT5 135 rfl rfl
theorem wk_1094 : Cond.instanceMethod yX8_read ∈ zTb := zTm (L := tables_1_5) zT5 134 rfl rfl
theorem ws_97 : Cond.selects "EndSumsModel" yX8_read yX8_read ∈ zTb := zTb_mem 97 rfl rfl
theorem wk_1092 : Cond.methodLink "EndSumsModel" 222 yX8_read ∈ zTb := zTm (L := tables_1_5) zT5 132 rfl rfl
theorem wk_1091 : Cond.code yX8_hasUnlike cX8_hasUnlike 4 (some .boolean) ∈ zTb := zTm (L := tables_1_5) zT5 131 rfl rfl
theorem wk_1090 : Cond.instanceMethod yX8_hasUnlike ∈ zTb := zTm (L := tables_1_5) zT5 130 rfl rfl
theorem ws_96 : Cond.selects "EndSumsModel" yX8_hasUnlike yX8_hasUnlike ∈ zTb := zTb_mem 96 rfl rfl
theorem wk_1099 : Cond.code yX8_isNeutral cX8_isNeutral 4 (some .boolean) ∈ zTb := zTm (L := tables_1_5) zT5 139 rfl rfl
theorem wk_1098 : Cond.instanceMethod yX8_isNeutral ∈ zTb := zTm (L := tables_1_5) zT5 138 rfl rfl
theorem ws_98 : Cond.selects "EndSumsModel" yX8_isNeutral yX8_isNeutral ∈ zTb := zTb_mem 98 rfl rfl
theorem wk_1069 : Cond.methodLink "EndSumsModel" 225 yX8_reads ∈ zTb := zTm (L := tables_1_5) zT5 109 rfl rfl
theorem wk_1073 : Cond.methodLink "EndSumsModel" 228 yX8_readsTable ∈ zTb := zTm (L := tables_1_5) zT5 113 rfl rfl
theorem wk_1088 : Cond.methodLink "EndSumsModel" 231 yX8_hasUnlike ∈ zTb := zTm (L := tables_1_5) zT5 128 rfl rfl
theorem wk_1096 : Cond.methodLink "EndSumsModel" 234 yX8_isNeutral ∈ zTb := zTm (L := tables_1_5) zT5 136 rfl rfl
theorem wk_1068 : Cond.code yX8_table cX8_table 3 (some .int) ∈ zTb := zTm (L := tables_1_5) zT5 108 rfl rfl
theorem wk_1066 : Cond.instanceMethod yX8_table ∈ zTb := zTm (L := tables_1_5) zT5 106 rfl rfl
theorem wk_1067 : Cond.selects "EndSumsModel" yX8_table yX8_table ∈ zTb := zTm (L := tables_1_5) zT5 107 rfl rfl
theorem wk_1104 : Cond.methodLink "EndSumsModel" 237 yX8_isLine ∈ zTb := zTm (L := tables_1_5) zT5 144 rfl rfl
theorem wk_1108 : Cond.methodLink "EndSumsModel" 240 yX8_isEnd ∈ zTb := zTm (L := tables_1_5) zT5 148 rfl rfl
theorem wk_1103 : Cond.code yX8_puts cX8_puts 4 (some .int) ∈ zTb := zTm (L := tables_1_5) zT5 143 rfl rfl
theorem wk_1101 : Cond.instanceMethod yX8_puts ∈ zTb := zTm (L := tables_1_5) zT5 141 rfl rfl
theorem wk_1102 : Cond.selects "EndSumsModel" yX8_puts yX8_puts ∈ zTb := zTm (L := tables_1_5) zT5 142 rfl rfl
theorem wk_1122 : Cond.code yX8_tellsWork cX8_tellsWork 3 (some .int) ∈ zTb := zTm (L := tables_1_5) zT5 162 rfl rfl
theorem wk_1121 : Cond.instanceMethod yX8_tellsWork ∈ zTb := zTm (L := tables_1_5) zT5 161 rfl rfl
theorem ws_100 : Cond.selects "EndSumsModel" yX8_tellsWork yX8_tellsWork ∈ zTb := zTb_mem 100 rfl rfl
theorem wk_1115 : Cond.methodLink "EndSumsModel" 243 yX8_takesOne ∈ zTb := zTm (L := tables_1_5) zT5 155 rfl rfl
theorem wk_1119 : Cond.methodLink "EndSumsModel" 246 yX8_tellsWork ∈ zTb := zTm (L := tables_1_5) zT5 159 rfl rfl
theorem wk_1114 : Cond.code yX8_takes cX8_takes 5 (some .int) ∈ zTb := zTm (L := tables_1_5) zT5 154 rfl rfl
theorem wk_1112 : Cond.instanceMethod yX8_takes ∈ zTb := zTm (L := tables_1_5) zT5 152 rfl rfl
theorem wk_1113 : Cond.selects "EndSumsModel" yX8_takes yX8_takes ∈ zTb := zTm (L := tables_1_5) zT5 153 rfl rfl
theorem wk_1127 : Cond.methodLink "EndSumsModel" 249 yX8_copiesTo ∈ zTb := zTm (L := tables_1_5) zT5 167 rfl rfl
theorem wk_1126 : Cond.code yX8_copies cX8_copies 3 (some .int) ∈ zTb := zTm (L := tables_1_5) zT5 166 rfl rfl
theorem wk_1124 : Cond.instanceMethod yX8_copies ∈ zTb := zTm (L := tables_1_5) zT5 164 rfl rfl
theorem wk_1125 : Cond.selects "EndSumsModel" yX8_copies yX8_copies ∈ zTb := zTm (L := tables_1_5) zT5 165 rfl rfl
theorem wk_1134 : Cond.code yX8_joins cX8_joins 5 (some .int) ∈ zTb := zTm (L := tables_1_5) zT5 174 rfl rfl
theorem wk_1132 : Cond.instanceMethod yX8_joins ∈ zTb := zTm (L := tables_1_5) zT5 172 rfl rfl
theorem wk_1133 : Cond.selects "EndSumsModel" yX8_joins yX8_joins ∈ zTb := zTm (L := tables_1_5) zT5 173 rfl rfl
theorem wk_1138 : Cond.code yX8_parts cX8_parts 5 (some .int) ∈ zTb := zTm (L := tables_1_5) zT5 178 rfl rfl
theorem wk_1136 : Cond.instanceMethod yX8_parts ∈ zTb := zTm (L := tables_1_5) zT5 176 rfl rfl
theorem wk_1137 : Cond.selects "EndSumsModel" yX8_parts yX8_parts ∈ zTb := zTm (L := tables_1_5) zT5 177 rfl rfl
theorem wk_1146 : Cond.code yX8_turns cX8_turns 6 (some .int) ∈ zTb := zTm (L := tables_1_5) zT5 186 rfl rfl
theorem wk_1145 : Cond.instanceMethod yX8_turns ∈ zTb := zTm (L := tables_1_5) zT5 185 rfl rfl
theorem ws_102 : Cond.selects "EndSumsModel" yX8_turns yX8_turns ∈ zTb := zTb_mem 102 rfl rfl
theorem wk_1143 : Cond.methodLink "EndSumsModel" 252 yX8_turns ∈ zTb := zTm (L := tables_1_5) zT5 183 rfl rfl
theorem wk_1142 : Cond.code yX8_reverses cX8_reverses 2 (some .int) ∈ zTb := zTm (L := tables_1_5) zT5 182 rfl rfl
theorem wk_1140 : Cond.instanceMethod yX8_reverses ∈ zTb := zTm (L := tables_1_5) zT5 180 rfl rfl
theorem wk_1141 : Cond.selects "EndSumsModel" yX8_reverses yX8_reverses ∈ zTb := zTm (L := tables_1_5) zT5 181 rfl rfl
theorem wk_1158 : Cond.code yX8_makesAgain cX8_makesAgain 7 none ∈ zTb := zTm (L := tables_1_5) zT5 198 rfl rfl
theorem wk_1157 : Cond.instanceMethod yX8_makesAgain ∈ zTb := zTm (L := tables_1_5) zT5 197 rfl rfl
theorem ws_104 : Cond.selects "EndSumsModel" yX8_makesAgain yX8_makesAgain ∈ zTb := zTb_mem 104 rfl rfl
theorem wk_1154 : Cond.code yX8_isAt cX8_isAt 3 (some .boolean) ∈ zTb := zTm (L := tables_1_5) zT5 194 rfl rfl
theorem wk_1153 : Cond.instanceMethod yX8_isAt ∈ zTb := zTm (L := tables_1_5) zT5 193 rfl rfl
theorem ws_103 : Cond.selects "EndSumsModel" yX8_isAt yX8_isAt ∈ zTb := zTb_mem 103 rfl rfl
theorem wk_1151 : Cond.methodLink "EndSumsModel" 255 yX8_isAt ∈ zTb := zTm (L := tables_1_5) zT5 191 rfl rfl
theorem wk_1155 : Cond.methodLink "EndSumsModel" 259 yX8_makesAgain ∈ zTb := zTm (L := tables_1_5) zT5 195 rfl rfl
theorem wk_1150 : Cond.code yX8_changes cX8_changes 8 (some .int) ∈ zTb := zTm (L := tables_1_5) zT5 190 rfl rfl
theorem wk_1148 : Cond.instanceMethod yX8_changes ∈ zTb := zTm (L := tables_1_5) zT5 188 rfl rfl
theorem wk_1149 : Cond.selects "EndSumsModel" yX8_changes yX8_changes ∈ zTb := zTm (L := tables_1_5) zT5 189 rfl rfl
theorem wk_1162 : Cond.code yX8_slips cX8_slips 7 (some .int) ∈ zTb := zTm (L := tables_1_5) zT5 202 rfl rfl
theorem wk_1160 : Cond.instanceMethod yX8_slips ∈ zTb := zTm (L := tables_1_5) zT5 200 rfl rfl
theorem wk_1161 : Cond.selects "EndSumsModel" yX8_slips yX8_slips ∈ zTb := zTm (L := tables_1_5) zT5 201 rfl rfl
theorem wk_1166 : Cond.code yX8_drops cX8_drops 8 (some .int) ∈ zTb := zTm (L := tables_1_5) zT5 206 rfl rfl
theorem wk_1164 : Cond.instanceMethod yX8_drops ∈ zTb := zTm (L := tables_1_5) zT5 204 rfl rfl
theorem wk_1165 : Cond.selects "EndSumsModel" yX8_drops yX8_drops ∈ zTb := zTm (L := tables_1_5) zT5 205 rfl rfl
theorem wk_1179 : Cond.code yX8_summary cX8_summary 6 none ∈ zTb := zTm (L := tables_1_5) zT5 219 rfl rfl
theorem wk_1178 : Cond.instanceMethod yX8_summary ∈ zTb := zTm (L := tables_1_5) zT5 218 rfl rfl
theorem ws_106 : Cond.selects "EndSumsModel" yX8_summary yX8_summary ∈ zTb := zTb_mem 106 rfl rfl
theorem wk_1176 : Cond.methodLink "EndSumsModel" 263 yX8_summary ∈ zTb := zTm (L := tables_1_5) zT5 216 rfl rfl
theorem wk_1175 : Cond.code yX8_entersSummary cX8_entersSummary 2 none ∈ zTb := zTm (L := tables_1_5) zT5 215 rfl rfl
theorem wk_1174 : Cond.instanceMethod yX8_entersSummary ∈ zTb := zTm (L := tables_1_5) zT5 214 rfl rfl
theorem ws_105 : Cond.selects "EndSumsModel" yX8_entersSummary yX8_entersSummary ∈ zTb := zTb_mem 105 rfl rfl
theorem wk_1171 : Cond.constantLong "EndSumsModel" 266 (64 : Int64) ∈ zTb := zTm (L := tables_1_5) zT5 211 rfl rfl
theorem wk_1172 : Cond.methodLink "EndSumsModel" 268 yX8_entersSummary ∈ zTb := zTm (L := tables_1_5) zT5 212 rfl rfl
theorem wk_1170 : Cond.code yX8_shifts cX8_shifts 7 (some .int) ∈ zTb := zTm (L := tables_1_5) zT5 210 rfl rfl
theorem wk_1168 : Cond.instanceMethod yX8_shifts ∈ zTb := zTm (L := tables_1_5) zT5 208 rfl rfl
theorem wk_1169 : Cond.selects "EndSumsModel" yX8_shifts yX8_shifts ∈ zTb := zTm (L := tables_1_5) zT5 209 rfl rfl
theorem wk_1183 : Cond.code yX8_clears cX8_clears 3 (some .int) ∈ zTb := zTm (L := tables_1_5) zT5 223 rfl rfl
theorem wk_1181 : Cond.instanceMethod yX8_clears ∈ zTb := zTm (L := tables_1_5) zT5 221 rfl rfl
theorem wk_1182 : Cond.selects "EndSumsModel" yX8_clears yX8_clears ∈ zTb := zTm (L := tables_1_5) zT5 222 rfl rfl
theorem wk_1191 : Cond.code yX8_passes cX8_passes 1 none ∈ zTb := zTm (L := tables_1_5) zT5 231 rfl rfl
theorem wk_1190 : Cond.instanceMethod yX8_passes ∈ zTb := zTm (L := tables_1_5) zT5 230 rfl rfl
theorem ws_107 : Cond.selects "EndSumsModel" yX8_passes yX8_passes ∈ zTb := zTb_mem 107 rfl rfl
theorem wk_885 : Cond.fieldLink "EndSumsModel" 87 "EndSumsModel" "act" "[I" ∈ zTb := zTm (L := tables_1_4) zT4 165 rfl rfl
theorem wk_886 : Cond.fieldLink "EndSumsModel" 90 "EndSumsModel" "actItem" "[I" ∈ zTb := zTm (L := tables_1_4) zT4 166 rfl rfl
theorem wk_1195 : Cond.code yX8_readsAct cX8_readsAct 6 (some .boolean) ∈ zTb := zTm (L := tables_1_5) zT5 235 rfl rfl
theorem wk_1194 : Cond.instanceMethod yX8_readsAct ∈ zTb := zTm (L := tables_1_5) zT5 234 rfl rfl
theorem ws_108 : Cond.selects "EndSumsModel" yX8_readsAct yX8_readsAct ∈ zTb := zTb_mem 108 rfl rfl
theorem wk_1199 : Cond.code yX8_does cX8_does 3 (some .boolean) ∈ zTb := zTm (L := tables_1_5) zT5 239 rfl rfl
theorem wk_1198 : Cond.instanceMethod yX8_does ∈ zTb := zTm (L := tables_1_5) zT5 238 rfl rfl
theorem ws_109 : Cond.selects "EndSumsModel" yX8_does yX8_does ∈ zTb := zTb_mem 109 rfl rfl
theorem wk_1188 : Cond.methodLink "EndSumsModel" 271 yX8_passes ∈ zTb := zTm (L := tables_1_5) zT5 228 rfl rfl
theorem wk_1196 : Cond.methodLink "EndSumsModel" 277 yX8_does ∈ zTb := zTm (L := tables_1_5) zT5 236 rfl rfl
theorem wk_1192 : Cond.methodLink "EndSumsModel" 274 yX8_readsAct ∈ zTb := zTm (L := tables_1_5) zT5 232 rfl rfl
theorem wk_1187 : Cond.code yX8_run cX8_run 5 (some .int) ∈ zTb := zTm (L := tables_1_5) zT5 227 rfl rfl
theorem wk_1185 : Cond.instanceMethod yX8_run ∈ zTb := zTm (L := tables_1_5) zT5 225 rfl rfl
theorem wk_1186 : Cond.selects "EndSumsModel" yX8_run yX8_run ∈ zTb := zTm (L := tables_1_5) zT5 226 rfl rfl
theorem wk_1203 : Cond.code yX8_sum cX8_sum 2 (some .int) ∈ zTb := zTm (L := tables_1_6) zT6 3 rfl rfl
theorem wk_1201 : Cond.instanceMethod yX8_sum ∈ zTb := zTm (L := tables_1_6) zT6 1 rfl rfl
theorem wk_1202 : Cond.selects "EndSumsModel" yX8_sum yX8_sum ∈ zTb := zTm (L := tables_1_6) zT6 2 rfl rfl
theorem wk_1207 : Cond.code yX8_item cX8_item 5 (some .int) ∈ zTb := zTm (L := tables_1_6) zT6 7 rfl rfl
theorem wk_1205 : Cond.instanceMethod yX8_item ∈ zTb := zTm (L := tables_1_6) zT6 5 rfl rfl
theorem wk_1206 : Cond.selects "EndSumsModel" yX8_item yX8_item ∈ zTb := zTm (L := tables_1_6) zT6 6 rfl rfl
theorem wk_1215 : Cond.code yX8_sums cX8_sums 9 none ∈ zTb := zTm (L := tables_1_6) zT6 15 rfl rfl
theorem wk_1214 : Cond.instanceMethod yX8_sums ∈ zTb := zTm (L := tables_1_6) zT6 14 rfl rfl
theorem ws_110 : Cond.selects "EndSumsModel" yX8_sums yX8_sums ∈ zTb := zTb_mem 110 rfl rfl
theorem wk_1212 : Cond.methodLink "EndSumsModel" 280 yX8_sums ∈ zTb := zTm (L := tables_1_6) zT6 12 rfl rfl
theorem wk_1211 : Cond.code yX8_part cX8_part 4 (some .int) ∈ zTb := zTm (L := tables_1_6) zT6 11 rfl rfl
theorem wk_1209 : Cond.instanceMethod yX8_part ∈ zTb := zTm (L := tables_1_6) zT6 9 rfl rfl
theorem wk_1210 : Cond.selects "EndSumsModel" yX8_part yX8_part ∈ zTb := zTm (L := tables_1_6) zT6 10 rfl rfl
theorem wk_1219 : Cond.code yX8_windows cX8_windows 5 (some .int) ∈ zTb := zTm (L := tables_1_6) zT6 19 rfl rfl
theorem wk_1217 : Cond.instanceMethod yX8_windows ∈ zTb := zTm (L := tables_1_6) zT6 17 rfl rfl
theorem wk_1218 : Cond.selects "EndSumsModel" yX8_windows yX8_windows ∈ zTb := zTm (L := tables_1_6) zT6 18 rfl rfl
theorem wk_1223 : Cond.code yX8_first cX8_first 4 (some .int) ∈ zTb := zTm (L := tables_1_6) zT6 23 rfl rfl
theorem wk_1221 : Cond.instanceMethod yX8_first ∈ zTb := zTm (L := tables_1_6) zT6 21 rfl rfl
theorem wk_1222 : Cond.selects "EndSumsModel" yX8_first yX8_first ∈ zTb := zTm (L := tables_1_6) zT6 22 rfl rfl
theorem wk_1227 : Cond.code yX8_longest cX8_longest 6 (some .int) ∈ zTb := zTm (L := tables_1_6) zT6 27 rfl rfl
theorem wk_1225 : Cond.instanceMethod yX8_longest ∈ zTb := zTm (L := tables_1_6) zT6 25 rfl rfl
theorem wk_1226 : Cond.selects "EndSumsModel" yX8_longest yX8_longest ∈ zTb := zTm (L := tables_1_6) zT6 26 rfl rfl
theorem wk_1231 : Cond.code yX8_greatest cX8_greatest 10 (some .int) ∈ zTb := zTm (L := tables_1_6) zT6 31 rfl rfl
theorem wk_1229 : Cond.instanceMethod yX8_greatest ∈ zTb := zTm (L := tables_1_6) zT6 29 rfl rfl
theorem wk_1230 : Cond.selects "EndSumsModel" yX8_greatest yX8_greatest ∈ zTb := zTm (L := tables_1_6) zT6 30 rfl rfl
theorem wk_1235 : Cond.code yX8_finds cX8_finds 10 (some .int) ∈ zTb := zTm (L := tables_1_6) zT6 35 rfl rfl
theorem wk_1233 : Cond.instanceMethod yX8_finds ∈ zTb := zTm (L := tables_1_6) zT6 33 rfl rfl
theorem wk_1234 : Cond.selects "EndSumsModel" yX8_finds yX8_finds ∈ zTb := zTm (L := tables_1_6) zT6 34 rfl rfl
theorem wk_887 : Cond.fieldLink "EndSumsModel" 284 "EndSumsModel" "front" "I" ∈ zTb := zTm (L := tables_1_4) zT4 167 rfl rfl
theorem wk_888 : Cond.fieldLink "EndSumsModel" 287 "EndSumsModel" "back" "I" ∈ zTb := zTm (L := tables_1_4) zT4 168 rfl rfl
theorem wk_1251 : Cond.code yX8_costs cX8_costs 5 (some .int) ∈ zTb := zTm (L := tables_1_6) zT6 51 rfl rfl
theorem wk_1250 : Cond.instanceMethod yX8_costs ∈ zTb := zTm (L := tables_1_6) zT6 50 rfl rfl
theorem ws_113 : Cond.selects "EndSumsModel" yX8_costs yX8_costs ∈ zTb := zTb_mem 113 rfl rfl
theorem wk_1247 : Cond.code yX8_begins cX8_begins 2 none ∈ zTb := zTm (L := tables_1_6) zT6 47 rfl rfl
theorem wk_1246 : Cond.instanceMethod yX8_begins ∈ zTb := zTm (L := tables_1_6) zT6 46 rfl rfl
theorem ws_112 : Cond.selects "EndSumsModel" yX8_begins yX8_begins ∈ zTb := zTb_mem 112 rfl rfl
theorem wk_1244 : Cond.methodLink "EndSumsModel" 290 yX8_begins ∈ zTb := zTm (L := tables_1_6) zT6 44 rfl rfl
theorem wk_1248 : Cond.methodLink "EndSumsModel" 293 yX8_costs ∈ zTb := zTm (L := tables_1_6) zT6 48 rfl rfl
theorem wk_1243 : Cond.code yX8_drainsBy cX8_drainsBy 4 (some .int) ∈ zTb := zTm (L := tables_1_6) zT6 43 rfl rfl
theorem wk_1242 : Cond.instanceMethod yX8_drainsBy ∈ zTb := zTm (L := tables_1_6) zT6 42 rfl rfl
theorem ws_111 : Cond.selects "EndSumsModel" yX8_drainsBy yX8_drainsBy ∈ zTb := zTb_mem 111 rfl rfl
theorem wk_1240 : Cond.methodLink "EndSumsModel" 296 yX8_drainsBy ∈ zTb := zTm (L := tables_1_6) zT6 40 rfl rfl
theorem wk_1252 : Cond.methodLink "EndSumsModel" 299 Lib.Math.min.name ∈ zTb := zTm (L := tables_1_6) zT6 52 rfl rfl
theorem wk_1239 : Cond.code yX8_drains cX8_drains 4 (some .int) ∈ zTb := zTm (L := tables_1_6) zT6 39 rfl rfl
theorem wk_1237 : Cond.instanceMethod yX8_drains ∈ zTb := zTm (L := tables_1_6) zT6 37 rfl rfl
theorem wk_1238 : Cond.selects "EndSumsModel" yX8_drains yX8_drains ∈ zTb := zTm (L := tables_1_6) zT6 38 rfl rfl
theorem wk_1256 : Cond.code yX8_would cX8_would 4 (some .int) ∈ zTb := zTm (L := tables_1_6) zT6 56 rfl rfl
theorem wk_1254 : Cond.instanceMethod yX8_would ∈ zTb := zTm (L := tables_1_6) zT6 54 rfl rfl
theorem wk_1255 : Cond.selects "EndSumsModel" yX8_would yX8_would ∈ zTb := zTm (L := tables_1_6) zT6 55 rfl rfl
theorem wk_1261 : Cond.constantLong "EndSumsModel" 301 (12 : Int64) ∈ zTb := zTm (L := tables_1_6) zT6 61 rfl rfl
theorem wk_1260 : Cond.code yX8_dearest cX8_dearest 8 (some .int) ∈ zTb := zTm (L := tables_1_6) zT6 60 rfl rfl
theorem wk_1258 : Cond.instanceMethod yX8_dearest ∈ zTb := zTm (L := tables_1_6) zT6 58 rfl rfl
theorem wk_1259 : Cond.selects "EndSumsModel" yX8_dearest yX8_dearest ∈ zTb := zTm (L := tables_1_6) zT6 59 rfl rfl
theorem wk_1266 : Cond.methodLink "EndSumsModel" 303 Lib.Math.max.name ∈ zTb := zTm (L := tables_1_6) zT6 66 rfl rfl
theorem wk_1265 : Cond.code yX8_unlike cX8_unlike 11 (some .int) ∈ zTb := zTm (L := tables_1_6) zT6 65 rfl rfl
theorem wk_1263 : Cond.instanceMethod yX8_unlike ∈ zTb := zTm (L := tables_1_6) zT6 63 rfl rfl
theorem wk_1264 : Cond.selects "EndSumsModel" yX8_unlike yX8_unlike ∈ zTb := zTm (L := tables_1_6) zT6 64 rfl rfl
theorem wk_1274 : Cond.code yX8_hasCell cX8_hasCell 4 (some .boolean) ∈ zTb := zTm (L := tables_1_6) zT6 74 rfl rfl
theorem wk_1273 : Cond.instanceMethod yX8_hasCell ∈ zTb := zTm (L := tables_1_6) zT6 73 rfl rfl
theorem ws_114 : Cond.selects "EndSumsModel" yX8_hasCell yX8_hasCell ∈ zTb := zTb_mem 114 rfl rfl
theorem wk_1271 : Cond.methodLink "EndSumsModel" 305 yX8_hasCell ∈ zTb := zTm (L := tables_1_6) zT6 71 rfl rfl
theorem wk_1270 : Cond.code yX8_same cX8_same 9 (some .int) ∈ zTb := zTm (L := tables_1_6) zT6 70 rfl rfl
theorem wk_1268 : Cond.instanceMethod yX8_same ∈ zTb := zTm (L := tables_1_6) zT6 68 rfl rfl
theorem wk_1269 : Cond.selects "EndSumsModel" yX8_same yX8_same ∈ zTb := zTm (L := tables_1_6) zT6 69 rfl rfl
theorem wk_1278 : Cond.code yX8_shared cX8_shared 11 (some .int) ∈ zTb := zTm (L := tables_1_6) zT6 78 rfl rfl
theorem wk_1276 : Cond.instanceMethod yX8_shared ∈ zTb := zTm (L := tables_1_6) zT6 76 rfl rfl
theorem wk_1277 : Cond.selects "EndSumsModel" yX8_shared yX8_shared ∈ zTb := zTm (L := tables_1_6) zT6 77 rfl rfl
theorem wk_1282 : Cond.code yX8_count cX8_count 2 (some .int) ∈ zTb := zTm (L := tables_1_6) zT6 82 rfl rfl
theorem wk_1280 : Cond.instanceMethod yX8_count ∈ zTb := zTm (L := tables_1_6) zT6 80 rfl rfl
theorem wk_1281 : Cond.selects "EndSumsModel" yX8_count yX8_count ∈ zTb := zTm (L := tables_1_6) zT6 81 rfl rfl
theorem wk_1286 : Cond.code yX8_row cX8_row 2 (some .long) ∈ zTb := zTm (L := tables_1_6) zT6 86 rfl rfl
theorem wk_1284 : Cond.instanceMethod yX8_row ∈ zTb := zTm (L := tables_1_6) zT6 84 rfl rfl
theorem wk_1285 : Cond.selects "EndSumsModel" yX8_row yX8_row ∈ zTb := zTm (L := tables_1_6) zT6 85 rfl rfl
