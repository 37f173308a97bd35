/-! the words of the tables: those that every call hands on (WS), those of nest mates (NWS) -/
def WS : List Cond := lw_tbl.filter goodWord
def nestW : Cond → Bool
  | .fieldLinkNest .. => true
  | .methodLinkNest .. => true
  | .castable .. => true
  | .declares .. => true
  | _ => false
def NWS : List Cond := lw_tbl.filter nestW
theorem ws_in {w : Cond} (i : Nat) (h : lw_tbl[i]? = some w) (g : goodWord w = true) : w ∈ WS := List.mem_filter.mpr ⟨List.mem_of_getElem? h, g⟩
theorem nws_in {w : Cond} (i : Nat) (h : lw_tbl[i]? = some w) (g : nestW w = true) : w ∈ NWS := List.mem_filter.mpr ⟨List.mem_of_getElem? h, g⟩
set_option maxRecDepth 100000 in
theorem tw_47 : Cond.initialized "PlainWarehouse" ∈ WS := ws_in 47 rfl rfl
set_option maxRecDepth 100000 in
theorem tw_48 : Cond.initialized "PlainWarehouse$House" ∈ WS := ws_in 48 rfl rfl
set_option maxRecDepth 100000 in
theorem tw_49 : Cond.initialized "PlainWarehouse$Fillings" ∈ WS := ws_in 49 rfl rfl
set_option maxRecDepth 100000 in
theorem tw_50 : Cond.initialized "PlainWarehouse$Ways" ∈ WS := ws_in 50 rfl rfl
set_option maxRecDepth 100000 in
theorem tw_51 : Cond.initialized "PlainWarehouseModel" ∈ WS := ws_in 51 rfl rfl
set_option maxRecDepth 100000 in
theorem tw_57 : Cond.initialized "java/util/Arrays" ∈ WS := ws_in 57 rfl rfl
set_option maxRecDepth 100000 in
theorem tw_59 : Cond.initialized "java/lang/Integer" ∈ WS := ws_in 59 rfl rfl
set_option maxRecDepth 100000 in
theorem tw_67 : Cond.code ({ cls := "PlainWarehouse", name := "<init>", desc := "()V" } : MethodName) prog_1_method_1_code (1 : Nat) (Option.none : Option FieldType) ∈ WS := ws_in 67 rfl rfl
set_option maxRecDepth 100000 in
theorem tw_75 : Cond.code ({ cls := "PlainWarehouse$House", name := "<init>", desc := "()V" } : MethodName) prog_3_method_1_code (1 : Nat) (Option.none : Option FieldType) ∈ WS := ws_in 75 rfl rfl
set_option maxRecDepth 100000 in
theorem tw_93 : Cond.laysFinal "PlainWarehouse$House" "PlainWarehouse$House" "placeOf" "[I" ∈ WS := ws_in 93 rfl rfl
set_option maxRecDepth 100000 in
theorem tw_95 : Cond.laysFinal "PlainWarehouse$House" "PlainWarehouse$House" "goodOf" "[I" ∈ WS := ws_in 95 rfl rfl
set_option maxRecDepth 100000 in
theorem tw_97 : Cond.laysFinal "PlainWarehouse$House" "PlainWarehouse$House" "givenTo" "[I" ∈ WS := ws_in 97 rfl rfl
set_option maxRecDepth 100000 in
theorem tw_99 : Cond.laysFinal "PlainWarehouse$House" "PlainWarehouse$House" "wanted" "[I" ∈ WS := ws_in 99 rfl rfl
set_option maxRecDepth 100000 in
theorem tw_101 : Cond.laysFinal "PlainWarehouse$House" "PlainWarehouse$House" "goodWanted" "[I" ∈ WS := ws_in 101 rfl rfl
set_option maxRecDepth 100000 in
theorem tw_103 : Cond.laysFinal "PlainWarehouse$House" "PlainWarehouse$House" "got" "[I" ∈ WS := ws_in 103 rfl rfl
set_option maxRecDepth 100000 in
theorem tw_105 : Cond.laysFinal "PlainWarehouse$House" "PlainWarehouse$House" "cents" "[I" ∈ WS := ws_in 105 rfl rfl
set_option maxRecDepth 100000 in
theorem tw_107 : Cond.laysFinal "PlainWarehouse$House" "PlainWarehouse$House" "link" "[I" ∈ WS := ws_in 107 rfl rfl
set_option maxRecDepth 100000 in
theorem tw_115 : Cond.code ({ cls := "PlainWarehouse$Fillings", name := "<init>", desc := "()V" } : MethodName) prog_2_method_1_code (1 : Nat) (Option.none : Option FieldType) ∈ WS := ws_in 115 rfl rfl
set_option maxRecDepth 100000 in
theorem tw_122 : Cond.laysFinal "PlainWarehouse$Fillings" "PlainWarehouse$Fillings" "lacking" "[I" ∈ WS := ws_in 122 rfl rfl
set_option maxRecDepth 100000 in
theorem tw_124 : Cond.laysFinal "PlainWarehouse$Fillings" "PlainWarehouse$Fillings" "goods" "[I" ∈ WS := ws_in 124 rfl rfl
set_option maxRecDepth 100000 in
theorem tw_126 : Cond.laysFinal "PlainWarehouse$Fillings" "PlainWarehouse$Fillings" "free" "[I" ∈ WS := ws_in 126 rfl rfl
set_option maxRecDepth 100000 in
theorem tw_128 : Cond.laysFinal "PlainWarehouse$Fillings" "PlainWarehouse$Fillings" "left" "[I" ∈ WS := ws_in 128 rfl rfl
set_option maxRecDepth 100000 in
theorem tw_130 : Cond.lays "PlainWarehouse$Fillings" "PlainWarehouse$Fillings" "size" "I" ∈ WS := ws_in 130 rfl rfl
set_option maxRecDepth 100000 in
theorem tw_137 : Cond.code ({ cls := "PlainWarehouse$Ways", name := "<init>", desc := "()V" } : MethodName) prog_4_method_1_code (1 : Nat) (Option.none : Option FieldType) ∈ WS := ws_in 137 rfl rfl
set_option maxRecDepth 100000 in
theorem tw_140 : Cond.laysFinal "PlainWarehouse$Ways" "PlainWarehouse$Ways" "seconds" "[I" ∈ WS := ws_in 140 rfl rfl
set_option maxRecDepth 100000 in
theorem tw_149 : Cond.laysFinal "PlainWarehouse" "PlainWarehouse" "row" "[I" ∈ WS := ws_in 149 rfl rfl
set_option maxRecDepth 100000 in
theorem tw_151 : Cond.lays "PlainWarehouse" "PlainWarehouse" "eventCount" "I" ∈ WS := ws_in 151 rfl rfl
set_option maxRecDepth 100000 in
theorem tw_153 : Cond.lays "PlainWarehouse" "PlainWarehouse" "refusedCount" "I" ∈ WS := ws_in 153 rfl rfl
set_option maxRecDepth 100000 in
theorem tw_155 : Cond.laysFinal "PlainWarehouse" "PlainWarehouse" "house" "LPlainWarehouse$House;" ∈ WS := ws_in 155 rfl rfl
set_option maxRecDepth 100000 in
theorem tw_157 : Cond.laysFinal "PlainWarehouse" "PlainWarehouse" "fillings" "LPlainWarehouse$Fillings;" ∈ WS := ws_in 157 rfl rfl
set_option maxRecDepth 100000 in
theorem tw_159 : Cond.laysFinal "PlainWarehouse" "PlainWarehouse" "ways" "LPlainWarehouse$Ways;" ∈ WS := ws_in 159 rfl rfl
set_option maxRecDepth 100000 in
theorem tw_165 : Cond.code ({ cls := "PlainWarehouse", name := "count", desc := "(I)I" } : MethodName) prog_1_method_14_code (2 : Nat) (Option.some FieldType.int) ∈ WS := ws_in 165 rfl rfl
set_option maxRecDepth 100000 in
theorem tw_169 : Cond.code ({ cls := "PlainWarehouse", name := "replay", desc := "(I)V" } : MethodName) prog_1_method_16_code (3 : Nat) (Option.none : Option FieldType) ∈ WS := ws_in 169 rfl rfl
set_option maxRecDepth 100000 in
theorem tw_173 : Cond.code ({ cls := "PlainWarehouse$House", name := "empty", desc := "()V" } : MethodName) prog_3_method_2_code (1 : Nat) (Option.none : Option FieldType) ∈ WS := ws_in 173 rfl rfl
set_option maxRecDepth 100000 in
theorem tw_176 : Cond.code ({ cls := "java/util/Arrays", name := "fill", desc := "([II)V" } : MethodName) prog_17_method_103_code (4 : Nat) (Option.none : Option FieldType) ∈ WS := ws_in 176 rfl rfl
set_option maxRecDepth 100000 in
theorem tw_180 : Cond.code ({ cls := "PlainWarehouse", name := "takeKept", desc := "(I)Z" } : MethodName) prog_1_method_17_code (3 : Nat) (Option.some FieldType.boolean) ∈ WS := ws_in 180 rfl rfl
set_option maxRecDepth 100000 in
theorem tw_184 : Cond.code ({ cls := "PlainWarehouse$House", name := "take", desc := "(IIII)Z" } : MethodName) prog_3_method_3_code (5 : Nat) (Option.some FieldType.boolean) ∈ WS := ws_in 184 rfl rfl
set_option maxRecDepth 100000 in
theorem tw_188 : Cond.code ({ cls := "PlainWarehouse$House", name := "isPossible", desc := "(III)Z" } : MethodName) prog_3_method_4_code (4 : Nat) (Option.some FieldType.boolean) ∈ WS := ws_in 188 rfl rfl
set_option maxRecDepth 100000 in
theorem tw_192 : Cond.code ({ cls := "PlainWarehouse$House", name := "isInside", desc := "(I)Z" } : MethodName) prog_3_method_8_code (2 : Nat) (Option.some FieldType.boolean) ∈ WS := ws_in 192 rfl rfl
set_option maxRecDepth 100000 in
theorem tw_196 : Cond.code ({ cls := "PlainWarehouse$House", name := "isOpen", desc := "(I)Z" } : MethodName) prog_3_method_11_code (2 : Nat) (Option.some FieldType.boolean) ∈ WS := ws_in 196 rfl rfl
set_option maxRecDepth 100000 in
theorem tw_200 : Cond.code ({ cls := "PlainWarehouse$House", name := "isTold", desc := "(I)Z" } : MethodName) prog_3_method_10_code (2 : Nat) (Option.some FieldType.boolean) ∈ WS := ws_in 200 rfl rfl
set_option maxRecDepth 100000 in
theorem tw_204 : Cond.code ({ cls := "PlainWarehouse$House", name := "isFree", desc := "(I)Z" } : MethodName) prog_3_method_9_code (2 : Nat) (Option.some FieldType.boolean) ∈ WS := ws_in 204 rfl rfl
set_option maxRecDepth 100000 in
theorem tw_208 : Cond.code ({ cls := "PlainWarehouse$House", name := "happen", desc := "(IIII)V" } : MethodName) prog_3_method_5_code (5 : Nat) (Option.none : Option FieldType) ∈ WS := ws_in 208 rfl rfl
set_option maxRecDepth 100000 in
theorem tw_212 : Cond.code ({ cls := "PlainWarehouse$House", name := "come", desc := "(III)V" } : MethodName) prog_3_method_6_code (4 : Nat) (Option.none : Option FieldType) ∈ WS := ws_in 212 rfl rfl
set_option maxRecDepth 100000 in
theorem tw_216 : Cond.code ({ cls := "PlainWarehouse$House", name := "leave", desc := "(I)V" } : MethodName) prog_3_method_7_code (2 : Nat) (Option.none : Option FieldType) ∈ WS := ws_in 216 rfl rfl
set_option maxRecDepth 100000 in
theorem tw_219 : Cond.code ({ cls := "PlainWarehouse", name := "pair", desc := "(II)I" } : MethodName) prog_1_method_29_code (2 : Nat) (Option.some FieldType.int) ∈ WS := ws_in 219 rfl rfl
set_option maxRecDepth 100000 in
theorem tw_223 : Cond.code ({ cls := "PlainWarehouse$House", name := "unitsAt", desc := "(II)I" } : MethodName) prog_3_method_13_code (5 : Nat) (Option.some FieldType.int) ∈ WS := ws_in 223 rfl rfl
set_option maxRecDepth 100000 in
theorem tw_226 : Cond.code ({ cls := "PlainWarehouse$House", name := "isAsked", desc := "(II)Z" } : MethodName) prog_3_method_14_code (2 : Nat) (Option.some FieldType.boolean) ∈ WS := ws_in 226 rfl rfl
set_option maxRecDepth 100000 in
theorem tw_230 : Cond.code ({ cls := "PlainWarehouse$House", name := "toldOrders", desc := "()I" } : MethodName) prog_3_method_17_code (3 : Nat) (Option.some FieldType.int) ∈ WS := ws_in 230 rfl rfl
set_option maxRecDepth 100000 in
theorem tw_234 : Cond.code ({ cls := "PlainWarehouse$House", name := "fullOrders", desc := "()I" } : MethodName) prog_3_method_18_code (3 : Nat) (Option.some FieldType.int) ∈ WS := ws_in 234 rfl rfl
set_option maxRecDepth 100000 in
theorem tw_238 : Cond.code ({ cls := "PlainWarehouse$House", name := "isFull", desc := "(I)Z" } : MethodName) prog_3_method_12_code (2 : Nat) (Option.some FieldType.boolean) ∈ WS := ws_in 238 rfl rfl
set_option maxRecDepth 100000 in
theorem tw_242 : Cond.code ({ cls := "PlainWarehouse$House", name := "linkedPairs", desc := "()I" } : MethodName) prog_3_method_19_code (4 : Nat) (Option.some FieldType.int) ∈ WS := ws_in 242 rfl rfl
set_option maxRecDepth 100000 in
theorem tw_251 : Cond.code ({ cls := "PlainWarehouse", name := "event", desc := "(IIII)I" } : MethodName) prog_1_method_2_code (5 : Nat) (Option.some FieldType.int) ∈ WS := ws_in 251 rfl rfl
set_option maxRecDepth 100000 in
theorem tw_254 : Cond.code ({ cls := "PlainWarehouse", name := "isInRange", desc := "(IIII)Z" } : MethodName) prog_1_method_21_code (4 : Nat) (Option.some FieldType.boolean) ∈ WS := ws_in 254 rfl rfl
set_option maxRecDepth 100000 in
theorem tw_257 : Cond.code ({ cls := "PlainWarehouse", name := "isUnit", desc := "(I)Z" } : MethodName) prog_1_method_22_code (1 : Nat) (Option.some FieldType.boolean) ∈ WS := ws_in 257 rfl rfl
set_option maxRecDepth 100000 in
theorem tw_260 : Cond.code ({ cls := "PlainWarehouse", name := "isWithin", desc := "(III)Z" } : MethodName) prog_1_method_27_code (3 : Nat) (Option.some FieldType.boolean) ∈ WS := ws_in 260 rfl rfl
set_option maxRecDepth 100000 in
theorem tw_263 : Cond.code ({ cls := "PlainWarehouse", name := "isGood", desc := "(I)Z" } : MethodName) prog_1_method_23_code (1 : Nat) (Option.some FieldType.boolean) ∈ WS := ws_in 263 rfl rfl
set_option maxRecDepth 100000 in
theorem tw_266 : Cond.code ({ cls := "PlainWarehouse", name := "isPlace", desc := "(I)Z" } : MethodName) prog_1_method_24_code (1 : Nat) (Option.some FieldType.boolean) ∈ WS := ws_in 266 rfl rfl
set_option maxRecDepth 100000 in
theorem tw_269 : Cond.code ({ cls := "PlainWarehouse", name := "isOrder", desc := "(I)Z" } : MethodName) prog_1_method_25_code (1 : Nat) (Option.some FieldType.boolean) ∈ WS := ws_in 269 rfl rfl
set_option maxRecDepth 100000 in
theorem tw_272 : Cond.code ({ cls := "PlainWarehouse", name := "isOwner", desc := "(I)Z" } : MethodName) prog_1_method_26_code (1 : Nat) (Option.some FieldType.boolean) ∈ WS := ws_in 272 rfl rfl
set_option maxRecDepth 100000 in
theorem tw_361 : Cond.code ({ cls := "PlainWarehouse", name := "keep", desc := "(IIII)V" } : MethodName) prog_1_method_15_code (6 : Nat) (Option.none : Option FieldType) ∈ WS := ws_in 361 rfl rfl
set_option maxRecDepth 100000 in
theorem tw_368 : Cond.code ({ cls := "PlainWarehouse", name := "stock", desc := "(II)I" } : MethodName) prog_1_method_3_code (3 : Nat) (Option.some FieldType.int) ∈ WS := ws_in 368 rfl rfl
set_option maxRecDepth 100000 in
theorem tw_378 : Cond.code ({ cls := "PlainWarehouse", name := "where", desc := "(II)I" } : MethodName) prog_1_method_4_code (3 : Nat) (Option.some FieldType.int) ∈ WS := ws_in 378 rfl rfl
set_option maxRecDepth 100000 in
theorem tw_382 : Cond.code ({ cls := "PlainWarehouse", name := "hasSoMany", desc := "(I)Z" } : MethodName) prog_1_method_20_code (2 : Nat) (Option.some FieldType.boolean) ∈ WS := ws_in 382 rfl rfl
set_option maxRecDepth 100000 in
theorem tw_406 : Cond.code ({ cls := "PlainWarehouse", name := "order", desc := "(II)I" } : MethodName) prog_1_method_5_code (3 : Nat) (Option.some FieldType.int) ∈ WS := ws_in 406 rfl rfl
set_option maxRecDepth 100000 in
theorem tw_413 : Cond.code ({ cls := "PlainWarehouse$House", name := "freeUnits", desc := "(I)I" } : MethodName) prog_3_method_15_code (4 : Nat) (Option.some FieldType.int) ∈ WS := ws_in 413 rfl rfl
set_option maxRecDepth 100000 in
theorem tw_421 : Cond.code ({ cls := "PlainWarehouse", name := "promise", desc := "(I)I" } : MethodName) prog_1_method_6_code (2 : Nat) (Option.some FieldType.int) ∈ WS := ws_in 421 rfl rfl
set_option maxRecDepth 100000 in
theorem tw_425 : Cond.code ({ cls := "PlainWarehouse", name := "areAllTold", desc := "(I)Z" } : MethodName) prog_1_method_18_code (3 : Nat) (Option.some FieldType.boolean) ∈ WS := ws_in 425 rfl rfl
set_option maxRecDepth 100000 in
theorem tw_428 : Cond.code ({ cls := "PlainWarehouse", name := "isInSet", desc := "(II)Z" } : MethodName) prog_1_method_28_code (2 : Nat) (Option.some FieldType.boolean) ∈ WS := ws_in 428 rfl rfl
set_option maxRecDepth 100000 in
theorem tw_432 : Cond.code ({ cls := "java/lang/Integer", name := "bitCount", desc := "(I)I" } : MethodName) prog_10_method_49_code (1 : Nat) (Option.some FieldType.int) ∈ WS := ws_in 432 rfl rfl
set_option maxRecDepth 100000 in
theorem tw_439 : Cond.code ({ cls := "PlainWarehouse$Fillings", name := "most", desc := "(LPlainWarehouse$House;I)I" } : MethodName) prog_2_method_2_code (5 : Nat) (Option.some FieldType.int) ∈ WS := ws_in 439 rfl rfl
set_option maxRecDepth 100000 in
theorem tw_443 : Cond.code ({ cls := "PlainWarehouse$Fillings", name := "countFree", desc := "(LPlainWarehouse$House;)V" } : MethodName) prog_2_method_3_code (3 : Nat) (Option.none : Option FieldType) ∈ WS := ws_in 443 rfl rfl
set_option maxRecDepth 100000 in
theorem tw_448 : Cond.code ({ cls := "PlainWarehouse$Fillings", name := "chooseOpen", desc := "(LPlainWarehouse$House;I)V" } : MethodName) prog_2_method_4_code (4 : Nat) (Option.none : Option FieldType) ∈ WS := ws_in 448 rfl rfl
set_option maxRecDepth 100000 in
theorem tw_455 : Cond.code ({ cls := "PlainWarehouse$Fillings", name := "isEnoughFor", desc := "(I)Z" } : MethodName) prog_2_method_5_code (3 : Nat) (Option.some FieldType.boolean) ∈ WS := ws_in 455 rfl rfl
set_option maxRecDepth 100000 in
theorem tw_465 : Cond.code ({ cls := "PlainWarehouse", name := "way", desc := "(II)I" } : MethodName) prog_1_method_7_code (3 : Nat) (Option.some FieldType.int) ∈ WS := ws_in 465 rfl rfl
set_option maxRecDepth 100000 in
theorem tw_469 : Cond.code ({ cls := "PlainWarehouse$Ways", name := "measure", desc := "(LPlainWarehouse$House;)V" } : MethodName) prog_4_method_2_code (4 : Nat) (Option.none : Option FieldType) ∈ WS := ws_in 469 rfl rfl
set_option maxRecDepth 100000 in
theorem tw_473 : Cond.code ({ cls := "PlainWarehouse$Ways", name := "layLinks", desc := "(LPlainWarehouse$House;)V" } : MethodName) prog_4_method_3_code (5 : Nat) (Option.none : Option FieldType) ∈ WS := ws_in 473 rfl rfl
set_option maxRecDepth 100000 in
theorem tw_479 : Cond.code ({ cls := "PlainWarehouse$Ways", name := "shortenVia", desc := "(II)V" } : MethodName) prog_4_method_4_code (6 : Nat) (Option.none : Option FieldType) ∈ WS := ws_in 479 rfl rfl
set_option maxRecDepth 100000 in
theorem tw_486 : Cond.code ({ cls := "PlainWarehouse$Ways", name := "between", desc := "(II)I" } : MethodName) prog_4_method_5_code (3 : Nat) (Option.some FieldType.int) ∈ WS := ws_in 486 rfl rfl
set_option maxRecDepth 100000 in
theorem tw_489 : Cond.code ({ cls := "PlainWarehouse", name := "orNone", desc := "(I)I" } : MethodName) prog_1_method_30_code (1 : Nat) (Option.some FieldType.int) ∈ WS := ws_in 489 rfl rfl
set_option maxRecDepth 100000 in
theorem tw_497 : Cond.code ({ cls := "PlainWarehouse", name := "walk", desc := "(II)I" } : MethodName) prog_1_method_8_code (4 : Nat) (Option.some FieldType.int) ∈ WS := ws_in 497 rfl rfl
set_option maxRecDepth 100000 in
theorem tw_501 : Cond.code ({ cls := "PlainWarehouse$House", name := "placesOfUnitsGivenTo", desc := "(I)I" } : MethodName) prog_3_method_16_code (4 : Nat) (Option.some FieldType.int) ∈ WS := ws_in 501 rfl rfl
set_option maxRecDepth 100000 in
theorem tw_505 : Cond.code ({ cls := "PlainWarehouse$Ways", name := "fewestThrough", desc := "(II)I" } : MethodName) prog_4_method_6_code (3 : Nat) (Option.some FieldType.int) ∈ WS := ws_in 505 rfl rfl
set_option maxRecDepth 100000 in
theorem tw_508 : Cond.code ({ cls := "PlainWarehouse$Ways", name := "fewest", desc := "([IIII)I" } : MethodName) prog_4_method_7_code (7 : Nat) (Option.some FieldType.int) ∈ WS := ws_in 508 rfl rfl
set_option maxRecDepth 100000 in
theorem tw_516 : Cond.code ({ cls := "PlainWarehouse", name := "money", desc := "(II)I" } : MethodName) prog_1_method_9_code (3 : Nat) (Option.some FieldType.int) ∈ WS := ws_in 516 rfl rfl
set_option maxRecDepth 100000 in
theorem tw_524 : Cond.code ({ cls := "PlainWarehouse", name := "needs", desc := "(I)I" } : MethodName) prog_1_method_10_code (4 : Nat) (Option.some FieldType.int) ∈ WS := ws_in 524 rfl rfl
set_option maxRecDepth 100000 in
theorem tw_528 : Cond.code ({ cls := "PlainWarehouse", name := "isEvent", desc := "(I)Z" } : MethodName) prog_1_method_19_code (2 : Nat) (Option.some FieldType.boolean) ∈ WS := ws_in 528 rfl rfl
set_option maxRecDepth 100000 in
theorem tw_536 : Cond.code ({ cls := "PlainWarehouse", name := "explained", desc := "(I)I" } : MethodName) prog_1_method_11_code (3 : Nat) (Option.some FieldType.int) ∈ WS := ws_in 536 rfl rfl
set_option maxRecDepth 100000 in
theorem tw_543 : Cond.code ({ cls := "PlainWarehouse", name := "told", desc := "(II)I" } : MethodName) prog_1_method_12_code (3 : Nat) (Option.some FieldType.int) ∈ WS := ws_in 543 rfl rfl
set_option maxRecDepth 100000 in
theorem tw_552 : Cond.code ({ cls := "PlainWarehouse", name := "back", desc := "()V" } : MethodName) prog_1_method_13_code (1 : Nat) (Option.none : Option FieldType) ∈ WS := ws_in 552 rfl rfl
set_option maxRecDepth 100000 in
theorem tw_573 : Cond.code ({ cls := "PlainWarehouseModel", name := "<init>", desc := "()V" } : MethodName) prog_6_method_1_code (2 : Nat) (Option.none : Option FieldType) ∈ WS := ws_in 573 rfl rfl
set_option maxRecDepth 100000 in
theorem tw_593 : Cond.lays "PlainWarehouseModel" "PlainWarehouseModel" "code" "I" ∈ WS := ws_in 593 rfl rfl
set_option maxRecDepth 100000 in
theorem tw_595 : Cond.lays "PlainWarehouseModel" "PlainWarehouseModel" "events" "I" ∈ WS := ws_in 595 rfl rfl
set_option maxRecDepth 100000 in
theorem tw_597 : Cond.lays "PlainWarehouseModel" "PlainWarehouseModel" "refused" "I" ∈ WS := ws_in 597 rfl rfl
set_option maxRecDepth 100000 in
theorem tw_599 : Cond.laysFinal "PlainWarehouseModel" "PlainWarehouseModel" "kind" "[I" ∈ WS := ws_in 599 rfl rfl
set_option maxRecDepth 100000 in
theorem tw_601 : Cond.laysFinal "PlainWarehouseModel" "PlainWarehouseModel" "a" "[I" ∈ WS := ws_in 601 rfl rfl
set_option maxRecDepth 100000 in
theorem tw_603 : Cond.laysFinal "PlainWarehouseModel" "PlainWarehouseModel" "b" "[I" ∈ WS := ws_in 603 rfl rfl
set_option maxRecDepth 100000 in
theorem tw_605 : Cond.laysFinal "PlainWarehouseModel" "PlainWarehouseModel" "c" "[I" ∈ WS := ws_in 605 rfl rfl
set_option maxRecDepth 100000 in
theorem tw_607 : Cond.laysFinal "PlainWarehouseModel" "PlainWarehouseModel" "place" "[I" ∈ WS := ws_in 607 rfl rfl
set_option maxRecDepth 100000 in
theorem tw_609 : Cond.laysFinal "PlainWarehouseModel" "PlainWarehouseModel" "good" "[I" ∈ WS := ws_in 609 rfl rfl
set_option maxRecDepth 100000 in
theorem tw_611 : Cond.laysFinal "PlainWarehouseModel" "PlainWarehouseModel" "given" "[I" ∈ WS := ws_in 611 rfl rfl
set_option maxRecDepth 100000 in
theorem tw_613 : Cond.laysFinal "PlainWarehouseModel" "PlainWarehouseModel" "wants" "[I" ∈ WS := ws_in 613 rfl rfl
set_option maxRecDepth 100000 in
theorem tw_615 : Cond.laysFinal "PlainWarehouseModel" "PlainWarehouseModel" "ofGood" "[I" ∈ WS := ws_in 615 rfl rfl
set_option maxRecDepth 100000 in
theorem tw_617 : Cond.laysFinal "PlainWarehouseModel" "PlainWarehouseModel" "got" "[I" ∈ WS := ws_in 617 rfl rfl
set_option maxRecDepth 100000 in
theorem tw_619 : Cond.laysFinal "PlainWarehouseModel" "PlainWarehouseModel" "cents" "[I" ∈ WS := ws_in 619 rfl rfl
set_option maxRecDepth 100000 in
theorem tw_621 : Cond.laysFinal "PlainWarehouseModel" "PlainWarehouseModel" "link" "[I" ∈ WS := ws_in 621 rfl rfl
set_option maxRecDepth 100000 in
theorem tw_623 : Cond.laysFinal "PlainWarehouseModel" "PlainWarehouseModel" "far" "[I" ∈ WS := ws_in 623 rfl rfl
set_option maxRecDepth 100000 in
theorem tw_625 : Cond.laysFinal "PlainWarehouseModel" "PlainWarehouseModel" "stops" "[I" ∈ WS := ws_in 625 rfl rfl
set_option maxRecDepth 100000 in
theorem tw_627 : Cond.laysFinal "PlainWarehouseModel" "PlainWarehouseModel" "costs" "[I" ∈ WS := ws_in 627 rfl rfl
set_option maxRecDepth 100000 in
theorem tw_633 : Cond.code ({ cls := "PlainWarehouseModel", name := "thrown", desc := "()I" } : MethodName) prog_6_method_2_code (1 : Nat) (Option.some FieldType.int) ∈ WS := ws_in 633 rfl rfl
set_option maxRecDepth 100000 in
theorem tw_637 : Cond.code ({ cls := "PlainWarehouseModel", name := "event", desc := "(IIII)I" } : MethodName) prog_6_method_14_code (5 : Nat) (Option.some FieldType.int) ∈ WS := ws_in 637 rfl rfl
set_option maxRecDepth 100000 in
theorem tw_640 : Cond.code ({ cls := "PlainWarehouseModel", name := "isSaid", desc := "(IIII)Z" } : MethodName) prog_6_method_7_code (4 : Nat) (Option.some FieldType.boolean) ∈ WS := ws_in 640 rfl rfl
set_option maxRecDepth 100000 in
theorem tw_643 : Cond.code ({ cls := "PlainWarehouseModel", name := "isUnit", desc := "(I)Z" } : MethodName) prog_6_method_4_code (1 : Nat) (Option.some FieldType.boolean) ∈ WS := ws_in 643 rfl rfl
set_option maxRecDepth 100000 in
theorem tw_646 : Cond.code ({ cls := "PlainWarehouseModel", name := "in", desc := "(III)Z" } : MethodName) prog_6_method_3_code (3 : Nat) (Option.some FieldType.boolean) ∈ WS := ws_in 646 rfl rfl
set_option maxRecDepth 100000 in
theorem tw_649 : Cond.code ({ cls := "PlainWarehouseModel", name := "isPlace", desc := "(I)Z" } : MethodName) prog_6_method_5_code (1 : Nat) (Option.some FieldType.boolean) ∈ WS := ws_in 649 rfl rfl
set_option maxRecDepth 100000 in
theorem tw_653 : Cond.code ({ cls := "PlainWarehouseModel", name := "can", desc := "(IIII)Z" } : MethodName) prog_6_method_11_code (5 : Nat) (Option.some FieldType.boolean) ∈ WS := ws_in 653 rfl rfl
set_option maxRecDepth 100000 in
theorem tw_657 : Cond.code ({ cls := "PlainWarehouseModel", name := "mayGo", desc := "(II)Z" } : MethodName) prog_6_method_9_code (3 : Nat) (Option.some FieldType.boolean) ∈ WS := ws_in 657 rfl rfl
set_option maxRecDepth 100000 in
theorem tw_661 : Cond.code ({ cls := "PlainWarehouseModel", name := "isOpen", desc := "(II)Z" } : MethodName) prog_6_method_8_code (3 : Nat) (Option.some FieldType.boolean) ∈ WS := ws_in 661 rfl rfl
set_option maxRecDepth 100000 in
theorem tw_665 : Cond.code ({ cls := "PlainWarehouseModel", name := "mayGive", desc := "(III)Z" } : MethodName) prog_6_method_10_code (5 : Nat) (Option.some FieldType.boolean) ∈ WS := ws_in 665 rfl rfl
set_option maxRecDepth 100000 in
theorem tw_669 : Cond.code ({ cls := "PlainWarehouseModel", name := "copy", desc := "(II)V" } : MethodName) prog_6_method_12_code (4 : Nat) (Option.none : Option FieldType) ∈ WS := ws_in 669 rfl rfl
set_option maxRecDepth 100000 in
theorem tw_673 : Cond.code ({ cls := "PlainWarehouseModel", name := "apply", desc := "(IIIII)V" } : MethodName) prog_6_method_13_code (6 : Nat) (Option.none : Option FieldType) ∈ WS := ws_in 673 rfl rfl
set_option maxRecDepth 100000 in
theorem tw_677 : Cond.code ({ cls := "PlainWarehouseModel", name := "back", desc := "()V" } : MethodName) prog_6_method_15_code (1 : Nat) (Option.none : Option FieldType) ∈ WS := ws_in 677 rfl rfl
set_option maxRecDepth 100000 in
theorem tw_681 : Cond.code ({ cls := "PlainWarehouseModel", name := "stock", desc := "(II)I" } : MethodName) prog_6_method_16_code (6 : Nat) (Option.some FieldType.int) ∈ WS := ws_in 681 rfl rfl
set_option maxRecDepth 100000 in
theorem tw_685 : Cond.code ({ cls := "PlainWarehouseModel", name := "where", desc := "(II)I" } : MethodName) prog_6_method_17_code (3 : Nat) (Option.some FieldType.int) ∈ WS := ws_in 685 rfl rfl
set_option maxRecDepth 100000 in
theorem tw_689 : Cond.code ({ cls := "PlainWarehouseModel", name := "money", desc := "(II)I" } : MethodName) prog_6_method_18_code (3 : Nat) (Option.some FieldType.int) ∈ WS := ws_in 689 rfl rfl
set_option maxRecDepth 100000 in
theorem tw_693 : Cond.code ({ cls := "PlainWarehouseModel", name := "order", desc := "(II)I" } : MethodName) prog_6_method_20_code (4 : Nat) (Option.some FieldType.int) ∈ WS := ws_in 693 rfl rfl
set_option maxRecDepth 100000 in
theorem tw_697 : Cond.code ({ cls := "PlainWarehouseModel", name := "isOrder", desc := "(I)Z" } : MethodName) prog_6_method_6_code (2 : Nat) (Option.some FieldType.boolean) ∈ WS := ws_in 697 rfl rfl
set_option maxRecDepth 100000 in
theorem tw_701 : Cond.code ({ cls := "PlainWarehouseModel", name := "freeOf", desc := "(I)I" } : MethodName) prog_6_method_19_code (4 : Nat) (Option.some FieldType.int) ∈ WS := ws_in 701 rfl rfl
set_option maxRecDepth 100000 in
theorem tw_705 : Cond.code ({ cls := "PlainWarehouseModel", name := "promise", desc := "(I)I" } : MethodName) prog_6_method_22_code (5 : Nat) (Option.some FieldType.int) ∈ WS := ws_in 705 rfl rfl
set_option maxRecDepth 100000 in
theorem tw_709 : Cond.code ({ cls := "PlainWarehouseModel", name := "filled", desc := "(II)I" } : MethodName) prog_6_method_21_code (8 : Nat) (Option.some FieldType.int) ∈ WS := ws_in 709 rfl rfl
set_option maxRecDepth 100000 in
theorem tw_713 : Cond.code ({ cls := "PlainWarehouseModel", name := "way", desc := "(II)I" } : MethodName) prog_6_method_24_code (3 : Nat) (Option.some FieldType.int) ∈ WS := ws_in 713 rfl rfl
set_option maxRecDepth 100000 in
theorem tw_717 : Cond.code ({ cls := "PlainWarehouseModel", name := "reach", desc := "()V" } : MethodName) prog_6_method_23_code (5 : Nat) (Option.none : Option FieldType) ∈ WS := ws_in 717 rfl rfl
set_option maxRecDepth 100000 in
theorem tw_722 : Cond.code ({ cls := "PlainWarehouseModel", name := "walk", desc := "(II)I" } : MethodName) prog_6_method_26_code (10 : Nat) (Option.some FieldType.int) ∈ WS := ws_in 722 rfl rfl
set_option maxRecDepth 100000 in
theorem tw_726 : Cond.code ({ cls := "PlainWarehouseModel", name := "places", desc := "(I)I" } : MethodName) prog_6_method_25_code (6 : Nat) (Option.some FieldType.int) ∈ WS := ws_in 726 rfl rfl
set_option maxRecDepth 100000 in
theorem tw_730 : Cond.code ({ cls := "PlainWarehouseModel", name := "needs", desc := "(I)I" } : MethodName) prog_6_method_29_code (2 : Nat) (Option.some FieldType.int) ∈ WS := ws_in 730 rfl rfl
set_option maxRecDepth 100000 in
theorem tw_734 : Cond.code ({ cls := "PlainWarehouseModel", name := "isEvent", desc := "(I)Z" } : MethodName) prog_6_method_28_code (2 : Nat) (Option.some FieldType.boolean) ∈ WS := ws_in 734 rfl rfl
set_option maxRecDepth 100000 in
theorem tw_738 : Cond.code ({ cls := "PlainWarehouseModel", name := "without", desc := "(IZ)I" } : MethodName) prog_6_method_27_code (5 : Nat) (Option.some FieldType.int) ∈ WS := ws_in 738 rfl rfl
set_option maxRecDepth 100000 in
theorem tw_742 : Cond.code ({ cls := "PlainWarehouseModel", name := "explained", desc := "(I)I" } : MethodName) prog_6_method_30_code (2 : Nat) (Option.some FieldType.int) ∈ WS := ws_in 742 rfl rfl
set_option maxRecDepth 100000 in
theorem tw_746 : Cond.code ({ cls := "PlainWarehouseModel", name := "told", desc := "(II)I" } : MethodName) prog_6_method_31_code (3 : Nat) (Option.some FieldType.int) ∈ WS := ws_in 746 rfl rfl
set_option maxRecDepth 100000 in
theorem tw_750 : Cond.code ({ cls := "PlainWarehouseModel", name := "count", desc := "(I)I" } : MethodName) prog_6_method_32_code (4 : Nat) (Option.some FieldType.int) ∈ WS := ws_in 750 rfl rfl
def R_P : String := "PlainWarehouse"
def T_P : u_T := fun k => match k with
  | 0 => ("PlainWarehouse", "row", "[I", true)
  | 1 => ("PlainWarehouse", "eventCount", "I", false)
  | 2 => ("PlainWarehouse", "refusedCount", "I", false)
  | 3 => ("PlainWarehouse", "house", "LPlainWarehouse$House;", true)
  | 4 => ("PlainWarehouse", "fillings", "LPlainWarehouse$Fillings;", true)
  | _ => ("PlainWarehouse", "ways", "LPlainWarehouse$Ways;", true)
def ty_P : Nat → FieldType := fun k => match k with
  | 0 => .array .int
  | 1 => .int
  | 2 => .int
  | 3 => .object "PlainWarehouse$House"
  | 4 => .object "PlainWarehouse$Fillings"
  | _ => .object "PlainWarehouse$Ways"
theorem nm_P : ∀ a, a < 6 → ∀ b, b < 6 → a ≠ b → (T_P a).2.1 ≠ (T_P b).2.1 := by decide +kernel
theorem ty_P_ok : ∀ k, k < 6 → parseFieldDescriptor (T_P k).2.2.1 = some (ty_P k) := by decide +kernel
theorem in_P : ∀ z ∈ u_ws R_P T_P 6, z ∈ WS := by
  intro z hz
  obtain ⟨k, hk, rfl⟩ := List.mem_map.mp hz
  have hk : k < 6 := List.mem_range.mp hk
  match k, hk with
  | 0, _ => exact tw_149
  | 1, _ => exact tw_151
  | 2, _ => exact tw_153
  | 3, _ => exact tw_155
  | 4, _ => exact tw_157
  | 5, _ => exact tw_159
def R_H : String := "PlainWarehouse$House"
def T_H : u_T := fun k => match k with
  | 0 => ("PlainWarehouse$House", "placeOf", "[I", true)
  | 1 => ("PlainWarehouse$House", "goodOf", "[I", true)
  | 2 => ("PlainWarehouse$House", "givenTo", "[I", true)
  | 3 => ("PlainWarehouse$House", "wanted", "[I", true)
  | 4 => ("PlainWarehouse$House", "goodWanted", "[I", true)
  | 5 => ("PlainWarehouse$House", "got", "[I", true)
  | 6 => ("PlainWarehouse$House", "cents", "[I", true)
  | _ => ("PlainWarehouse$House", "link", "[I", true)
def ty_H : Nat → FieldType := fun k => match k with
  | 0 => .array .int
  | 1 => .array .int
  | 2 => .array .int
  | 3 => .array .int
  | 4 => .array .int
  | 5 => .array .int
  | 6 => .array .int
  | _ => .array .int
theorem nm_H : ∀ a, a < 8 → ∀ b, b < 8 → a ≠ b → (T_H a).2.1 ≠ (T_H b).2.1 := by decide +kernel
theorem ty_H_ok : ∀ k, k < 8 → parseFieldDescriptor (T_H k).2.2.1 = some (ty_H k) := by decide +kernel
theorem in_H : ∀ z ∈ u_ws R_H T_H 8, z ∈ WS := by
  intro z hz
  obtain ⟨k, hk, rfl⟩ := List.mem_map.mp hz
  have hk : k < 8 := List.mem_range.mp hk
  match k, hk with
  | 0, _ => exact tw_93
  | 1, _ => exact tw_95
  | 2, _ => exact tw_97
  | 3, _ => exact tw_99
  | 4, _ => exact tw_101
  | 5, _ => exact tw_103
  | 6, _ => exact tw_105
  | 7, _ => exact tw_107
def R_F : String := "PlainWarehouse$Fillings"
def T_F : u_T := fun k => match k with
  | 0 => ("PlainWarehouse$Fillings", "lacking", "[I", true)
  | 1 => ("PlainWarehouse$Fillings", "goods", "[I", true)
  | 2 => ("PlainWarehouse$Fillings", "free", "[I", true)
  | 3 => ("PlainWarehouse$Fillings", "left", "[I", true)
  | _ => ("PlainWarehouse$Fillings", "size", "I", false)
def ty_F : Nat → FieldType := fun k => match k with
  | 0 => .array .int
  | 1 => .array .int
  | 2 => .array .int
  | 3 => .array .int
  | _ => .int
theorem nm_F : ∀ a, a < 5 → ∀ b, b < 5 → a ≠ b → (T_F a).2.1 ≠ (T_F b).2.1 := by decide +kernel
theorem ty_F_ok : ∀ k, k < 5 → parseFieldDescriptor (T_F k).2.2.1 = some (ty_F k) := by decide +kernel
theorem in_F : ∀ z ∈ u_ws R_F T_F 5, z ∈ WS := by
  intro z hz
  obtain ⟨k, hk, rfl⟩ := List.mem_map.mp hz
  have hk : k < 5 := List.mem_range.mp hk
  match k, hk with
  | 0, _ => exact tw_122
  | 1, _ => exact tw_124
  | 2, _ => exact tw_126
  | 3, _ => exact tw_128
  | 4, _ => exact tw_130
def R_Y : String := "PlainWarehouse$Ways"
def T_Y : u_T := fun k => match k with
  | _ => ("PlainWarehouse$Ways", "seconds", "[I", true)
def ty_Y : Nat → FieldType := fun k => match k with
  | _ => .array .int
theorem nm_Y : ∀ a, a < 1 → ∀ b, b < 1 → a ≠ b → (T_Y a).2.1 ≠ (T_Y b).2.1 := by decide +kernel
theorem ty_Y_ok : ∀ k, k < 1 → parseFieldDescriptor (T_Y k).2.2.1 = some (ty_Y k) := by decide +kernel
theorem in_Y : ∀ z ∈ u_ws R_Y T_Y 1, z ∈ WS := by
  intro z hz
  obtain ⟨k, hk, rfl⟩ := List.mem_map.mp hz
  have hk : k < 1 := List.mem_range.mp hk
  match k, hk with
  | 0, _ => exact tw_140
def R_M : String := "PlainWarehouseModel"
def T_M : u_T := fun k => match k with
  | 0 => ("PlainWarehouseModel", "code", "I", false)
  | 1 => ("PlainWarehouseModel", "events", "I", false)
  | 2 => ("PlainWarehouseModel", "refused", "I", false)
  | 3 => ("PlainWarehouseModel", "kind", "[I", true)
  | 4 => ("PlainWarehouseModel", "a", "[I", true)
  | 5 => ("PlainWarehouseModel", "b", "[I", true)
  | 6 => ("PlainWarehouseModel", "c", "[I", true)
  | 7 => ("PlainWarehouseModel", "place", "[I", true)
  | 8 => ("PlainWarehouseModel", "good", "[I", true)
  | 9 => ("PlainWarehouseModel", "given", "[I", true)
  | 10 => ("PlainWarehouseModel", "wants", "[I", true)
  | 11 => ("PlainWarehouseModel", "ofGood", "[I", true)
  | 12 => ("PlainWarehouseModel", "got", "[I", true)
  | 13 => ("PlainWarehouseModel", "cents", "[I", true)
  | 14 => ("PlainWarehouseModel", "link", "[I", true)
  | 15 => ("PlainWarehouseModel", "far", "[I", true)
  | 16 => ("PlainWarehouseModel", "stops", "[I", true)
  | _ => ("PlainWarehouseModel", "costs", "[I", true)
def ty_M : Nat → FieldType := fun k => match k with
  | 0 => .int
  | 1 => .int
  | 2 => .int
  | 3 => .array .int
  | 4 => .array .int
  | 5 => .array .int
  | 6 => .array .int
  | 7 => .array .int
  | 8 => .array .int
  | 9 => .array .int
  | 10 => .array .int
  | 11 => .array .int
  | 12 => .array .int
  | 13 => .array .int
  | 14 => .array .int
  | 15 => .array .int
  | 16 => .array .int
  | _ => .array .int
theorem nm_M : ∀ a, a < 18 → ∀ b, b < 18 → a ≠ b → (T_M a).2.1 ≠ (T_M b).2.1 := by decide +kernel
theorem ty_M_ok : ∀ k, k < 18 → parseFieldDescriptor (T_M k).2.2.1 = some (ty_M k) := by decide +kernel
theorem in_M : ∀ z ∈ u_ws R_M T_M 18, z ∈ WS := by
  intro z hz
  obtain ⟨k, hk, rfl⟩ := List.mem_map.mp hz
  have hk : k < 18 := List.mem_range.mp hk
  match k, hk with
  | 0, _ => exact tw_593
  | 1, _ => exact tw_595
  | 2, _ => exact tw_597
  | 3, _ => exact tw_599
  | 4, _ => exact tw_601
  | 5, _ => exact tw_603
  | 6, _ => exact tw_605
  | 7, _ => exact tw_607
  | 8, _ => exact tw_609
  | 9, _ => exact tw_611
  | 10, _ => exact tw_613
  | 11, _ => exact tw_615
  | 12, _ => exact tw_617
  | 13, _ => exact tw_619
  | 14, _ => exact tw_621
  | 15, _ => exact tw_623
  | 16, _ => exact tw_625
  | 17, _ => exact tw_627
  | k + 18, h => exact absurd h (by omega)
abbrev vwCl : List vw_C := [(R_P, T_P, 6), (R_H, T_H, 8), (R_F, T_F, 5), (R_Y, T_Y, 1), (R_M, T_M, 18)]
abbrev cc_P_init : ByteArray := prog_1_method_1_code
def y_P_init : MethodName := ⟨"PlainWarehouse", "<init>", "()V"⟩
theorem kf_P_init : Cond.code y_P_init cc_P_init 1 none ∈ WS ∧ Cond.initialized y_P_init.cls ∈ WS ∧ (y_P_init.cls ≠ "java/lang/invoke/MethodHandle" ∧ y_P_init.cls ≠ "java/lang/invoke/VarHandle" ∧ (parseMethodDescriptor y_P_init.desc).map (fun d => d.parameters.length) = some 0) := ⟨tw_67, tw_47, by decide +kernel⟩
abbrev ws_P_init : List Cond := Cond.code y_P_init cc_P_init 1 none :: WS
abbrev cc_P_event : ByteArray := prog_1_method_2_code
def y_P_event : MethodName := ⟨"PlainWarehouse", "event", "(IIII)I"⟩
theorem kf_P_event : Cond.code y_P_event cc_P_event 5 (some .int) ∈ WS ∧ Cond.initialized y_P_event.cls ∈ WS ∧ (y_P_event.cls ≠ "java/lang/invoke/MethodHandle" ∧ y_P_event.cls ≠ "java/lang/invoke/VarHandle" ∧ (parseMethodDescriptor y_P_event.desc).map (fun d => d.parameters.length) = some 4) := ⟨tw_251, tw_47, by decide +kernel⟩
abbrev ws_P_event : List Cond := Cond.code y_P_event cc_P_event 5 (some .int) :: WS
abbrev cc_P_stock : ByteArray := prog_1_method_3_code
def y_P_stock : MethodName := ⟨"PlainWarehouse", "stock", "(II)I"⟩
theorem kf_P_stock : Cond.code y_P_stock cc_P_stock 3 (some .int) ∈ WS ∧ Cond.initialized y_P_stock.cls ∈ WS ∧ (y_P_stock.cls ≠ "java/lang/invoke/MethodHandle" ∧ y_P_stock.cls ≠ "java/lang/invoke/VarHandle" ∧ (parseMethodDescriptor y_P_stock.desc).map (fun d => d.parameters.length) = some 2) := ⟨tw_368, tw_47, by decide +kernel⟩
abbrev ws_P_stock : List Cond := Cond.code y_P_stock cc_P_stock 3 (some .int) :: WS
abbrev cc_P_where : ByteArray := prog_1_method_4_code
def y_P_where : MethodName := ⟨"PlainWarehouse", "where", "(II)I"⟩
theorem kf_P_where : Cond.code y_P_where cc_P_where 3 (some .int) ∈ WS ∧ Cond.initialized y_P_where.cls ∈ WS ∧ (y_P_where.cls ≠ "java/lang/invoke/MethodHandle" ∧ y_P_where.cls ≠ "java/lang/invoke/VarHandle" ∧ (parseMethodDescriptor y_P_where.desc).map (fun d => d.parameters.length) = some 2) := ⟨tw_378, tw_47, by decide +kernel⟩
abbrev ws_P_where : List Cond := Cond.code y_P_where cc_P_where 3 (some .int) :: WS
abbrev cc_P_order : ByteArray := prog_1_method_5_code
def y_P_order : MethodName := ⟨"PlainWarehouse", "order", "(II)I"⟩
theorem kf_P_order : Cond.code y_P_order cc_P_order 3 (some .int) ∈ WS ∧ Cond.initialized y_P_order.cls ∈ WS ∧ (y_P_order.cls ≠ "java/lang/invoke/MethodHandle" ∧ y_P_order.cls ≠ "java/lang/invoke/VarHandle" ∧ (parseMethodDescriptor y_P_order.desc).map (fun d => d.parameters.length) = some 2) := ⟨tw_406, tw_47, by decide +kernel⟩
abbrev ws_P_order : List Cond := Cond.code y_P_order cc_P_order 3 (some .int) :: WS
abbrev cc_P_promise : ByteArray := prog_1_method_6_code
def y_P_promise : MethodName := ⟨"PlainWarehouse", "promise", "(I)I"⟩
theorem kf_P_promise : Cond.code y_P_promise cc_P_promise 2 (some .int) ∈ WS ∧ Cond.initialized y_P_promise.cls ∈ WS ∧ (y_P_promise.cls ≠ "java/lang/invoke/MethodHandle" ∧ y_P_promise.cls ≠ "java/lang/invoke/VarHandle" ∧ (parseMethodDescriptor y_P_promise.desc).map (fun d => d.parameters.length) = some 1) := ⟨tw_421, tw_47, by decide +kernel⟩
abbrev ws_P_promise : List Cond := Cond.code y_P_promise cc_P_promise 2 (some .int) :: WS
abbrev cc_P_way : ByteArray := prog_1_method_7_code
def y_P_way : MethodName := ⟨"PlainWarehouse", "way", "(II)I"⟩
theorem kf_P_way : Cond.code y_P_way cc_P_way 3 (some .int) ∈ WS ∧ Cond.initialized y_P_way.cls ∈ WS ∧ (y_P_way.cls ≠ "java/lang/invoke/MethodHandle" ∧ y_P_way.cls ≠ "java/lang/invoke/VarHandle" ∧ (parseMethodDescriptor y_P_way.desc).map (fun d => d.parameters.length) = some 2) := ⟨tw_465, tw_47, by decide +kernel⟩
abbrev ws_P_way : List Cond := Cond.code y_P_way cc_P_way 3 (some .int) :: WS
abbrev cc_P_walk : ByteArray := prog_1_method_8_code
def y_P_walk : MethodName := ⟨"PlainWarehouse", "walk", "(II)I"⟩
theorem kf_P_walk : Cond.code y_P_walk cc_P_walk 4 (some .int) ∈ WS ∧ Cond.initialized y_P_walk.cls ∈ WS ∧ (y_P_walk.cls ≠ "java/lang/invoke/MethodHandle" ∧ y_P_walk.cls ≠ "java/lang/invoke/VarHandle" ∧ (parseMethodDescriptor y_P_walk.desc).map (fun d => d.parameters.length) = some 2) := ⟨tw_497, tw_47, by decide +kernel⟩
abbrev ws_P_walk : List Cond := Cond.code y_P_walk cc_P_walk 4 (some .int) :: WS
abbrev cc_P_money : ByteArray := prog_1_method_9_code
def y_P_money : MethodName := ⟨"PlainWarehouse", "money", "(II)I"⟩
theorem kf_P_money : Cond.code y_P_money cc_P_money 3 (some .int) ∈ WS ∧ Cond.initialized y_P_money.cls ∈ WS ∧ (y_P_money.cls ≠ "java/lang/invoke/MethodHandle" ∧ y_P_money.cls ≠ "java/lang/invoke/VarHandle" ∧ (parseMethodDescriptor y_P_money.desc).map (fun d => d.parameters.length) = some 2) := ⟨tw_516, tw_47, by decide +kernel⟩
abbrev ws_P_money : List Cond := Cond.code y_P_money cc_P_money 3 (some .int) :: WS
abbrev cc_P_needs : ByteArray := prog_1_method_10_code
def y_P_needs : MethodName := ⟨"PlainWarehouse", "needs", "(I)I"⟩
theorem kf_P_needs : Cond.code y_P_needs cc_P_needs 4 (some .int) ∈ WS ∧ Cond.initialized y_P_needs.cls ∈ WS ∧ (y_P_needs.cls ≠ "java/lang/invoke/MethodHandle" ∧ y_P_needs.cls ≠ "java/lang/invoke/VarHandle" ∧ (parseMethodDescriptor y_P_needs.desc).map (fun d => d.parameters.length) = some 1) := ⟨tw_524, tw_47, by decide +kernel⟩
abbrev ws_P_needs : List Cond := Cond.code y_P_needs cc_P_needs 4 (some .int) :: WS
abbrev cc_P_explained : ByteArray := prog_1_method_11_code
def y_P_explained : MethodName := ⟨"PlainWarehouse", "explained", "(I)I"⟩
theorem kf_P_explained : Cond.code y_P_explained cc_P_explained 3 (some .int) ∈ WS ∧ Cond.initialized y_P_explained.cls ∈ WS ∧ (y_P_explained.cls ≠ "java/lang/invoke/MethodHandle" ∧ y_P_explained.cls ≠ "java/lang/invoke/VarHandle" ∧ (parseMethodDescriptor y_P_explained.desc).map (fun d => d.parameters.length) = some 1) := ⟨tw_536, tw_47, by decide +kernel⟩
abbrev ws_P_explained : List Cond := Cond.code y_P_explained cc_P_explained 3 (some .int) :: WS
abbrev cc_P_told : ByteArray := prog_1_method_12_code
def y_P_told : MethodName := ⟨"PlainWarehouse", "told", "(II)I"⟩
theorem kf_P_told : Cond.code y_P_told cc_P_told 3 (some .int) ∈ WS ∧ Cond.initialized y_P_told.cls ∈ WS ∧ (y_P_told.cls ≠ "java/lang/invoke/MethodHandle" ∧ y_P_told.cls ≠ "java/lang/invoke/VarHandle" ∧ (parseMethodDescriptor y_P_told.desc).map (fun d => d.parameters.length) = some 2) := ⟨tw_543, tw_47, by decide +kernel⟩
abbrev ws_P_told : List Cond := Cond.code y_P_told cc_P_told 3 (some .int) :: WS
abbrev cc_P_back : ByteArray := prog_1_method_13_code
def y_P_back : MethodName := ⟨"PlainWarehouse", "back", "()V"⟩
theorem kf_P_back : Cond.code y_P_back cc_P_back 1 none ∈ WS ∧ Cond.initialized y_P_back.cls ∈ WS ∧ (y_P_back.cls ≠ "java/lang/invoke/MethodHandle" ∧ y_P_back.cls ≠ "java/lang/invoke/VarHandle" ∧ (parseMethodDescriptor y_P_back.desc).map (fun d => d.parameters.length) = some 0) := ⟨tw_552, tw_47, by decide +kernel⟩
abbrev ws_P_back : List Cond := Cond.code y_P_back cc_P_back 1 none :: WS
abbrev cc_P_count : ByteArray := prog_1_method_14_code
def y_P_count : MethodName := ⟨"PlainWarehouse", "count", "(I)I"⟩
theorem kf_P_count : Cond.code y_P_count cc_P_count 2 (some .int) ∈ WS ∧ Cond.initialized y_P_count.cls ∈ WS ∧ (y_P_count.cls ≠ "java/lang/invoke/MethodHandle" ∧ y_P_count.cls ≠ "java/lang/invoke/VarHandle" ∧ (parseMethodDescriptor y_P_count.desc).map (fun d => d.parameters.length) = some 1) := ⟨tw_165, tw_47, by decide +kernel⟩
abbrev ws_P_count : List Cond := Cond.code y_P_count cc_P_count 2 (some .int) :: WS
abbrev cc_P_keep : ByteArray := prog_1_method_15_code
def y_P_keep : MethodName := ⟨"PlainWarehouse", "keep", "(IIII)V"⟩
theorem kf_P_keep : Cond.code y_P_keep cc_P_keep 6 none ∈ WS ∧ Cond.initialized y_P_keep.cls ∈ WS ∧ (y_P_keep.cls ≠ "java/lang/invoke/MethodHandle" ∧ y_P_keep.cls ≠ "java/lang/invoke/VarHandle" ∧ (parseMethodDescriptor y_P_keep.desc).map (fun d => d.parameters.length) = some 4) := ⟨tw_361, tw_47, by decide +kernel⟩
abbrev ws_P_keep : List Cond := Cond.code y_P_keep cc_P_keep 6 none :: WS
abbrev cc_P_replay : ByteArray := prog_1_method_16_code
def y_P_replay : MethodName := ⟨"PlainWarehouse", "replay", "(I)V"⟩
theorem kf_P_replay : Cond.code y_P_replay cc_P_replay 3 none ∈ WS ∧ Cond.initialized y_P_replay.cls ∈ WS ∧ (y_P_replay.cls ≠ "java/lang/invoke/MethodHandle" ∧ y_P_replay.cls ≠ "java/lang/invoke/VarHandle" ∧ (parseMethodDescriptor y_P_replay.desc).map (fun d => d.parameters.length) = some 1) := ⟨tw_169, tw_47, by decide +kernel⟩
abbrev ws_P_replay : List Cond := Cond.code y_P_replay cc_P_replay 3 none :: WS
abbrev cc_P_takeKept : ByteArray := prog_1_method_17_code
def y_P_takeKept : MethodName := ⟨"PlainWarehouse", "takeKept", "(I)Z"⟩
theorem kf_P_takeKept : Cond.code y_P_takeKept cc_P_takeKept 3 (some .boolean) ∈ WS ∧ Cond.initialized y_P_takeKept.cls ∈ WS ∧ (y_P_takeKept.cls ≠ "java/lang/invoke/MethodHandle" ∧ y_P_takeKept.cls ≠ "java/lang/invoke/VarHandle" ∧ (parseMethodDescriptor y_P_takeKept.desc).map (fun d => d.parameters.length) = some 1) := ⟨tw_180, tw_47, by decide +kernel⟩
abbrev ws_P_takeKept : List Cond := Cond.code y_P_takeKept cc_P_takeKept 3 (some .boolean) :: WS
abbrev cc_P_areAllTold : ByteArray := prog_1_method_18_code
def y_P_areAllTold : MethodName := ⟨"PlainWarehouse", "areAllTold", "(I)Z"⟩
theorem kf_P_areAllTold : Cond.code y_P_areAllTold cc_P_areAllTold 3 (some .boolean) ∈ WS ∧ Cond.initialized y_P_areAllTold.cls ∈ WS ∧ (y_P_areAllTold.cls ≠ "java/lang/invoke/MethodHandle" ∧ y_P_areAllTold.cls ≠ "java/lang/invoke/VarHandle" ∧ (parseMethodDescriptor y_P_areAllTold.desc).map (fun d => d.parameters.length) = some 1) := ⟨tw_425, tw_47, by decide +kernel⟩
abbrev ws_P_areAllTold : List Cond := Cond.code y_P_areAllTold cc_P_areAllTold 3 (some .boolean) :: WS
abbrev cc_P_isEvent : ByteArray := prog_1_method_19_code
def y_P_isEvent : MethodName := ⟨"PlainWarehouse", "isEvent", "(I)Z"⟩
theorem kf_P_isEvent : Cond.code y_P_isEvent cc_P_isEvent 2 (some .boolean) ∈ WS ∧ Cond.initialized y_P_isEvent.cls ∈ WS ∧ (y_P_isEvent.cls ≠ "java/lang/invoke/MethodHandle" ∧ y_P_isEvent.cls ≠ "java/lang/invoke/VarHandle" ∧ (parseMethodDescriptor y_P_isEvent.desc).map (fun d => d.parameters.length) = some 1) := ⟨tw_528, tw_47, by decide +kernel⟩
abbrev ws_P_isEvent : List Cond := Cond.code y_P_isEvent cc_P_isEvent 2 (some .boolean) :: WS
abbrev cc_P_hasSoMany : ByteArray := prog_1_method_20_code
def y_P_hasSoMany : MethodName := ⟨"PlainWarehouse", "hasSoMany", "(I)Z"⟩
theorem kf_P_hasSoMany : Cond.code y_P_hasSoMany cc_P_hasSoMany 2 (some .boolean) ∈ WS ∧ Cond.initialized y_P_hasSoMany.cls ∈ WS ∧ (y_P_hasSoMany.cls ≠ "java/lang/invoke/MethodHandle" ∧ y_P_hasSoMany.cls ≠ "java/lang/invoke/VarHandle" ∧ (parseMethodDescriptor y_P_hasSoMany.desc).map (fun d => d.parameters.length) = some 1) := ⟨tw_382, tw_47, by decide +kernel⟩
abbrev ws_P_hasSoMany : List Cond := Cond.code y_P_hasSoMany cc_P_hasSoMany 2 (some .boolean) :: WS
abbrev cc_P_isInRange : ByteArray := prog_1_method_21_code
def y_P_isInRange : MethodName := ⟨"PlainWarehouse", "isInRange", "(IIII)Z"⟩
theorem kf_P_isInRange : Cond.code y_P_isInRange cc_P_isInRange 4 (some .boolean) ∈ WS ∧ Cond.initialized y_P_isInRange.cls ∈ WS ∧ (y_P_isInRange.cls ≠ "java/lang/invoke/MethodHandle" ∧ y_P_isInRange.cls ≠ "java/lang/invoke/VarHandle" ∧ (parseMethodDescriptor y_P_isInRange.desc).map (fun d => d.parameters.length) = some 4) := ⟨tw_254, tw_47, by decide +kernel⟩
abbrev ws_P_isInRange : List Cond := Cond.code y_P_isInRange cc_P_isInRange 4 (some .boolean) :: WS
abbrev cc_P_isUnit : ByteArray := prog_1_method_22_code
def y_P_isUnit : MethodName := ⟨"PlainWarehouse", "isUnit", "(I)Z"⟩
theorem kf_P_isUnit : Cond.code y_P_isUnit cc_P_isUnit 1 (some .boolean) ∈ WS ∧ Cond.initialized y_P_isUnit.cls ∈ WS ∧ (y_P_isUnit.cls ≠ "java/lang/invoke/MethodHandle" ∧ y_P_isUnit.cls ≠ "java/lang/invoke/VarHandle" ∧ (parseMethodDescriptor y_P_isUnit.desc).map (fun d => d.parameters.length) = some 1) := ⟨tw_257, tw_47, by decide +kernel⟩
abbrev ws_P_isUnit : List Cond := Cond.code y_P_isUnit cc_P_isUnit 1 (some .boolean) :: WS
abbrev cc_P_isGood : ByteArray := prog_1_method_23_code
def y_P_isGood : MethodName := ⟨"PlainWarehouse", "isGood", "(I)Z"⟩
theorem kf_P_isGood : Cond.code y_P_isGood cc_P_isGood 1 (some .boolean) ∈ WS ∧ Cond.initialized y_P_isGood.cls ∈ WS ∧ (y_P_isGood.cls ≠ "java/lang/invoke/MethodHandle" ∧ y_P_isGood.cls ≠ "java/lang/invoke/VarHandle" ∧ (parseMethodDescriptor y_P_isGood.desc).map (fun d => d.parameters.length) = some 1) := ⟨tw_263, tw_47, by decide +kernel⟩
abbrev ws_P_isGood : List Cond := Cond.code y_P_isGood cc_P_isGood 1 (some .boolean) :: WS
abbrev cc_P_isPlace : ByteArray := prog_1_method_24_code
def y_P_isPlace : MethodName := ⟨"PlainWarehouse", "isPlace", "(I)Z"⟩
theorem kf_P_isPlace : Cond.code y_P_isPlace cc_P_isPlace 1 (some .boolean) ∈ WS ∧ Cond.initialized y_P_isPlace.cls ∈ WS ∧ (y_P_isPlace.cls ≠ "java/lang/invoke/MethodHandle" ∧ y_P_isPlace.cls ≠ "java/lang/invoke/VarHandle" ∧ (parseMethodDescriptor y_P_isPlace.desc).map (fun d => d.parameters.length) = some 1) := ⟨tw_266, tw_47, by decide +kernel⟩
abbrev ws_P_isPlace : List Cond := Cond.code y_P_isPlace cc_P_isPlace 1 (some .boolean) :: WS
abbrev cc_P_isOrder : ByteArray := prog_1_method_25_code
def y_P_isOrder : MethodName := ⟨"PlainWarehouse", "isOrder", "(I)Z"⟩
theorem kf_P_isOrder : Cond.code y_P_isOrder cc_P_isOrder 1 (some .boolean) ∈ WS ∧ Cond.initialized y_P_isOrder.cls ∈ WS ∧ (y_P_isOrder.cls ≠ "java/lang/invoke/MethodHandle" ∧ y_P_isOrder.cls ≠ "java/lang/invoke/VarHandle" ∧ (parseMethodDescriptor y_P_isOrder.desc).map (fun d => d.parameters.length) = some 1) := ⟨tw_269, tw_47, by decide +kernel⟩
abbrev ws_P_isOrder : List Cond := Cond.code y_P_isOrder cc_P_isOrder 1 (some .boolean) :: WS
abbrev cc_P_isOwner : ByteArray := prog_1_method_26_code
def y_P_isOwner : MethodName := ⟨"PlainWarehouse", "isOwner", "(I)Z"⟩
theorem kf_P_isOwner : Cond.code y_P_isOwner cc_P_isOwner 1 (some .boolean) ∈ WS ∧ Cond.initialized y_P_isOwner.cls ∈ WS ∧ (y_P_isOwner.cls ≠ "java/lang/invoke/MethodHandle" ∧ y_P_isOwner.cls ≠ "java/lang/invoke/VarHandle" ∧ (parseMethodDescriptor y_P_isOwner.desc).map (fun d => d.parameters.length) = some 1) := ⟨tw_272, tw_47, by decide +kernel⟩
abbrev ws_P_isOwner : List Cond := Cond.code y_P_isOwner cc_P_isOwner 1 (some .boolean) :: WS
abbrev cc_P_isWithin : ByteArray := prog_1_method_27_code
def y_P_isWithin : MethodName := ⟨"PlainWarehouse", "isWithin", "(III)Z"⟩
theorem kf_P_isWithin : Cond.code y_P_isWithin cc_P_isWithin 3 (some .boolean) ∈ WS ∧ Cond.initialized y_P_isWithin.cls ∈ WS ∧ (y_P_isWithin.cls ≠ "java/lang/invoke/MethodHandle" ∧ y_P_isWithin.cls ≠ "java/lang/invoke/VarHandle" ∧ (parseMethodDescriptor y_P_isWithin.desc).map (fun d => d.parameters.length) = some 3) := ⟨tw_260, tw_47, by decide +kernel⟩
abbrev ws_P_isWithin : List Cond := Cond.code y_P_isWithin cc_P_isWithin 3 (some .boolean) :: WS
abbrev cc_P_isInSet : ByteArray := prog_1_method_28_code
def y_P_isInSet : MethodName := ⟨"PlainWarehouse", "isInSet", "(II)Z"⟩
theorem kf_P_isInSet : Cond.code y_P_isInSet cc_P_isInSet 2 (some .boolean) ∈ WS ∧ Cond.initialized y_P_isInSet.cls ∈ WS ∧ (y_P_isInSet.cls ≠ "java/lang/invoke/MethodHandle" ∧ y_P_isInSet.cls ≠ "java/lang/invoke/VarHandle" ∧ (parseMethodDescriptor y_P_isInSet.desc).map (fun d => d.parameters.length) = some 2) := ⟨tw_428, tw_47, by decide +kernel⟩
abbrev ws_P_isInSet : List Cond := Cond.code y_P_isInSet cc_P_isInSet 2 (some .boolean) :: WS
abbrev cc_P_pair : ByteArray := prog_1_method_29_code
def y_P_pair : MethodName := ⟨"PlainWarehouse", "pair", "(II)I"⟩
theorem kf_P_pair : Cond.code y_P_pair cc_P_pair 2 (some .int) ∈ WS ∧ Cond.initialized y_P_pair.cls ∈ WS ∧ (y_P_pair.cls ≠ "java/lang/invoke/MethodHandle" ∧ y_P_pair.cls ≠ "java/lang/invoke/VarHandle" ∧ (parseMethodDescriptor y_P_pair.desc).map (fun d => d.parameters.length) = some 2) := ⟨tw_219, tw_47, by decide +kernel⟩
abbrev ws_P_pair : List Cond := Cond.code y_P_pair cc_P_pair 2 (some .int) :: WS
abbrev cc_P_orNone : ByteArray := prog_1_method_30_code
def y_P_orNone : MethodName := ⟨"PlainWarehouse", "orNone", "(I)I"⟩
theorem kf_P_orNone : Cond.code y_P_orNone cc_P_orNone 1 (some .int) ∈ WS ∧ Cond.initialized y_P_orNone.cls ∈ WS ∧ (y_P_orNone.cls ≠ "java/lang/invoke/MethodHandle" ∧ y_P_orNone.cls ≠ "java/lang/invoke/VarHandle" ∧ (parseMethodDescriptor y_P_orNone.desc).map (fun d => d.parameters.length) = some 1) := ⟨tw_489, tw_47, by decide +kernel⟩
abbrev ws_P_orNone : List Cond := Cond.code y_P_orNone cc_P_orNone 1 (some .int) :: WS
abbrev cc_M_init : ByteArray := prog_6_method_1_code
def y_M_init : MethodName := ⟨"PlainWarehouseModel", "<init>", "()V"⟩
theorem kf_M_init : Cond.code y_M_init cc_M_init 2 none ∈ WS ∧ Cond.initialized y_M_init.cls ∈ WS ∧ (y_M_init.cls ≠ "java/lang/invoke/MethodHandle" ∧ y_M_init.cls ≠ "java/lang/invoke/VarHandle" ∧ (parseMethodDescriptor y_M_init.desc).map (fun d => d.parameters.length) = some 0) := ⟨tw_573, tw_51, by decide +kernel⟩
abbrev ws_M_init : List Cond := Cond.code y_M_init cc_M_init 2 none :: WS
abbrev cc_M_thrown : ByteArray := prog_6_method_2_code
def y_M_thrown : MethodName := ⟨"PlainWarehouseModel", "thrown", "()I"⟩
theorem kf_M_thrown : Cond.code y_M_thrown cc_M_thrown 1 (some .int) ∈ WS ∧ Cond.initialized y_M_thrown.cls ∈ WS ∧ (y_M_thrown.cls ≠ "java/lang/invoke/MethodHandle" ∧ y_M_thrown.cls ≠ "java/lang/invoke/VarHandle" ∧ (parseMethodDescriptor y_M_thrown.desc).map (fun d => d.parameters.length) = some 0) := ⟨tw_633, tw_51, by decide +kernel⟩
abbrev ws_M_thrown : List Cond := Cond.code y_M_thrown cc_M_thrown 1 (some .int) :: WS
abbrev cc_M_in : ByteArray := prog_6_method_3_code
def y_M_in : MethodName := ⟨"PlainWarehouseModel", "in", "(III)Z"⟩
theorem kf_M_in : Cond.code y_M_in cc_M_in 3 (some .boolean) ∈ WS ∧ Cond.initialized y_M_in.cls ∈ WS ∧ (y_M_in.cls ≠ "java/lang/invoke/MethodHandle" ∧ y_M_in.cls ≠ "java/lang/invoke/VarHandle" ∧ (parseMethodDescriptor y_M_in.desc).map (fun d => d.parameters.length) = some 3) := ⟨tw_646, tw_51, by decide +kernel⟩
abbrev ws_M_in : List Cond := Cond.code y_M_in cc_M_in 3 (some .boolean) :: WS
abbrev cc_M_isUnit : ByteArray := prog_6_method_4_code
def y_M_isUnit : MethodName := ⟨"PlainWarehouseModel", "isUnit", "(I)Z"⟩
theorem kf_M_isUnit : Cond.code y_M_isUnit cc_M_isUnit 1 (some .boolean) ∈ WS ∧ Cond.initialized y_M_isUnit.cls ∈ WS ∧ (y_M_isUnit.cls ≠ "java/lang/invoke/MethodHandle" ∧ y_M_isUnit.cls ≠ "java/lang/invoke/VarHandle" ∧ (parseMethodDescriptor y_M_isUnit.desc).map (fun d => d.parameters.length) = some 1) := ⟨tw_643, tw_51, by decide +kernel⟩
abbrev ws_M_isUnit : List Cond := Cond.code y_M_isUnit cc_M_isUnit 1 (some .boolean) :: WS
abbrev cc_M_isPlace : ByteArray := prog_6_method_5_code
def y_M_isPlace : MethodName := ⟨"PlainWarehouseModel", "isPlace", "(I)Z"⟩
theorem kf_M_isPlace : Cond.code y_M_isPlace cc_M_isPlace 1 (some .boolean) ∈ WS ∧ Cond.initialized y_M_isPlace.cls ∈ WS ∧ (y_M_isPlace.cls ≠ "java/lang/invoke/MethodHandle" ∧ y_M_isPlace.cls ≠ "java/lang/invoke/VarHandle" ∧ (parseMethodDescriptor y_M_isPlace.desc).map (fun d => d.parameters.length) = some 1) := ⟨tw_649, tw_51, by decide +kernel⟩
abbrev ws_M_isPlace : List Cond := Cond.code y_M_isPlace cc_M_isPlace 1 (some .boolean) :: WS
abbrev cc_M_isOrder : ByteArray := prog_6_method_6_code
def y_M_isOrder : MethodName := ⟨"PlainWarehouseModel", "isOrder", "(I)Z"⟩
theorem kf_M_isOrder : Cond.code y_M_isOrder cc_M_isOrder 2 (some .boolean) ∈ WS ∧ Cond.initialized y_M_isOrder.cls ∈ WS ∧ (y_M_isOrder.cls ≠ "java/lang/invoke/MethodHandle" ∧ y_M_isOrder.cls ≠ "java/lang/invoke/VarHandle" ∧ (parseMethodDescriptor y_M_isOrder.desc).map (fun d => d.parameters.length) = some 1) := ⟨tw_697, tw_51, by decide +kernel⟩
abbrev ws_M_isOrder : List Cond := Cond.code y_M_isOrder cc_M_isOrder 2 (some .boolean) :: WS
abbrev cc_M_isSaid : ByteArray := prog_6_method_7_code
def y_M_isSaid : MethodName := ⟨"PlainWarehouseModel", "isSaid", "(IIII)Z"⟩
theorem kf_M_isSaid : Cond.code y_M_isSaid cc_M_isSaid 4 (some .boolean) ∈ WS ∧ Cond.initialized y_M_isSaid.cls ∈ WS ∧ (y_M_isSaid.cls ≠ "java/lang/invoke/MethodHandle" ∧ y_M_isSaid.cls ≠ "java/lang/invoke/VarHandle" ∧ (parseMethodDescriptor y_M_isSaid.desc).map (fun d => d.parameters.length) = some 4) := ⟨tw_640, tw_51, by decide +kernel⟩
abbrev ws_M_isSaid : List Cond := Cond.code y_M_isSaid cc_M_isSaid 4 (some .boolean) :: WS
abbrev cc_M_isOpen : ByteArray := prog_6_method_8_code
def y_M_isOpen : MethodName := ⟨"PlainWarehouseModel", "isOpen", "(II)Z"⟩
theorem kf_M_isOpen : Cond.code y_M_isOpen cc_M_isOpen 3 (some .boolean) ∈ WS ∧ Cond.initialized y_M_isOpen.cls ∈ WS ∧ (y_M_isOpen.cls ≠ "java/lang/invoke/MethodHandle" ∧ y_M_isOpen.cls ≠ "java/lang/invoke/VarHandle" ∧ (parseMethodDescriptor y_M_isOpen.desc).map (fun d => d.parameters.length) = some 2) := ⟨tw_661, tw_51, by decide +kernel⟩
abbrev ws_M_isOpen : List Cond := Cond.code y_M_isOpen cc_M_isOpen 3 (some .boolean) :: WS
abbrev cc_M_mayGo : ByteArray := prog_6_method_9_code
def y_M_mayGo : MethodName := ⟨"PlainWarehouseModel", "mayGo", "(II)Z"⟩
theorem kf_M_mayGo : Cond.code y_M_mayGo cc_M_mayGo 3 (some .boolean) ∈ WS ∧ Cond.initialized y_M_mayGo.cls ∈ WS ∧ (y_M_mayGo.cls ≠ "java/lang/invoke/MethodHandle" ∧ y_M_mayGo.cls ≠ "java/lang/invoke/VarHandle" ∧ (parseMethodDescriptor y_M_mayGo.desc).map (fun d => d.parameters.length) = some 2) := ⟨tw_657, tw_51, by decide +kernel⟩
abbrev ws_M_mayGo : List Cond := Cond.code y_M_mayGo cc_M_mayGo 3 (some .boolean) :: WS
abbrev cc_M_mayGive : ByteArray := prog_6_method_10_code
def y_M_mayGive : MethodName := ⟨"PlainWarehouseModel", "mayGive", "(III)Z"⟩
theorem kf_M_mayGive : Cond.code y_M_mayGive cc_M_mayGive 5 (some .boolean) ∈ WS ∧ Cond.initialized y_M_mayGive.cls ∈ WS ∧ (y_M_mayGive.cls ≠ "java/lang/invoke/MethodHandle" ∧ y_M_mayGive.cls ≠ "java/lang/invoke/VarHandle" ∧ (parseMethodDescriptor y_M_mayGive.desc).map (fun d => d.parameters.length) = some 3) := ⟨tw_665, tw_51, by decide +kernel⟩
abbrev ws_M_mayGive : List Cond := Cond.code y_M_mayGive cc_M_mayGive 5 (some .boolean) :: WS
abbrev cc_M_can : ByteArray := prog_6_method_11_code
def y_M_can : MethodName := ⟨"PlainWarehouseModel", "can", "(IIII)Z"⟩
theorem kf_M_can : Cond.code y_M_can cc_M_can 5 (some .boolean) ∈ WS ∧ Cond.initialized y_M_can.cls ∈ WS ∧ (y_M_can.cls ≠ "java/lang/invoke/MethodHandle" ∧ y_M_can.cls ≠ "java/lang/invoke/VarHandle" ∧ (parseMethodDescriptor y_M_can.desc).map (fun d => d.parameters.length) = some 4) := ⟨tw_653, tw_51, by decide +kernel⟩
abbrev ws_M_can : List Cond := Cond.code y_M_can cc_M_can 5 (some .boolean) :: WS
abbrev cc_M_copy : ByteArray := prog_6_method_12_code
def y_M_copy : MethodName := ⟨"PlainWarehouseModel", "copy", "(II)V"⟩
theorem kf_M_copy : Cond.code y_M_copy cc_M_copy 4 none ∈ WS ∧ Cond.initialized y_M_copy.cls ∈ WS ∧ (y_M_copy.cls ≠ "java/lang/invoke/MethodHandle" ∧ y_M_copy.cls ≠ "java/lang/invoke/VarHandle" ∧ (parseMethodDescriptor y_M_copy.desc).map (fun d => d.parameters.length) = some 2) := ⟨tw_669, tw_51, by decide +kernel⟩
abbrev ws_M_copy : List Cond := Cond.code y_M_copy cc_M_copy 4 none :: WS
abbrev cc_M_apply : ByteArray := prog_6_method_13_code
def y_M_apply : MethodName := ⟨"PlainWarehouseModel", "apply", "(IIIII)V"⟩
theorem kf_M_apply : Cond.code y_M_apply cc_M_apply 6 none ∈ WS ∧ Cond.initialized y_M_apply.cls ∈ WS ∧ (y_M_apply.cls ≠ "java/lang/invoke/MethodHandle" ∧ y_M_apply.cls ≠ "java/lang/invoke/VarHandle" ∧ (parseMethodDescriptor y_M_apply.desc).map (fun d => d.parameters.length) = some 5) := ⟨tw_673, tw_51, by decide +kernel⟩
abbrev ws_M_apply : List Cond := Cond.code y_M_apply cc_M_apply 6 none :: WS
abbrev cc_M_event : ByteArray := prog_6_method_14_code
def y_M_event : MethodName := ⟨"PlainWarehouseModel", "event", "(IIII)I"⟩
theorem kf_M_event : Cond.code y_M_event cc_M_event 5 (some .int) ∈ WS ∧ Cond.initialized y_M_event.cls ∈ WS ∧ (y_M_event.cls ≠ "java/lang/invoke/MethodHandle" ∧ y_M_event.cls ≠ "java/lang/invoke/VarHandle" ∧ (parseMethodDescriptor y_M_event.desc).map (fun d => d.parameters.length) = some 4) := ⟨tw_637, tw_51, by decide +kernel⟩
abbrev ws_M_event : List Cond := Cond.code y_M_event cc_M_event 5 (some .int) :: WS
abbrev cc_M_back : ByteArray := prog_6_method_15_code
def y_M_back : MethodName := ⟨"PlainWarehouseModel", "back", "()V"⟩
theorem kf_M_back : Cond.code y_M_back cc_M_back 1 none ∈ WS ∧ Cond.initialized y_M_back.cls ∈ WS ∧ (y_M_back.cls ≠ "java/lang/invoke/MethodHandle" ∧ y_M_back.cls ≠ "java/lang/invoke/VarHandle" ∧ (parseMethodDescriptor y_M_back.desc).map (fun d => d.parameters.length) = some 0) := ⟨tw_677, tw_51, by decide +kernel⟩
abbrev ws_M_back : List Cond := Cond.code y_M_back cc_M_back 1 none :: WS
abbrev cc_M_stock : ByteArray := prog_6_method_16_code
def y_M_stock : MethodName := ⟨"PlainWarehouseModel", "stock", "(II)I"⟩
theorem kf_M_stock : Cond.code y_M_stock cc_M_stock 6 (some .int) ∈ WS ∧ Cond.initialized y_M_stock.cls ∈ WS ∧ (y_M_stock.cls ≠ "java/lang/invoke/MethodHandle" ∧ y_M_stock.cls ≠ "java/lang/invoke/VarHandle" ∧ (parseMethodDescriptor y_M_stock.desc).map (fun d => d.parameters.length) = some 2) := ⟨tw_681, tw_51, by decide +kernel⟩
abbrev ws_M_stock : List Cond := Cond.code y_M_stock cc_M_stock 6 (some .int) :: WS
abbrev cc_M_where : ByteArray := prog_6_method_17_code
def y_M_where : MethodName := ⟨"PlainWarehouseModel", "where", "(II)I"⟩
theorem kf_M_where : Cond.code y_M_where cc_M_where 3 (some .int) ∈ WS ∧ Cond.initialized y_M_where.cls ∈ WS ∧ (y_M_where.cls ≠ "java/lang/invoke/MethodHandle" ∧ y_M_where.cls ≠ "java/lang/invoke/VarHandle" ∧ (parseMethodDescriptor y_M_where.desc).map (fun d => d.parameters.length) = some 2) := ⟨tw_685, tw_51, by decide +kernel⟩
abbrev ws_M_where : List Cond := Cond.code y_M_where cc_M_where 3 (some .int) :: WS
abbrev cc_M_money : ByteArray := prog_6_method_18_code
def y_M_money : MethodName := ⟨"PlainWarehouseModel", "money", "(II)I"⟩
theorem kf_M_money : Cond.code y_M_money cc_M_money 3 (some .int) ∈ WS ∧ Cond.initialized y_M_money.cls ∈ WS ∧ (y_M_money.cls ≠ "java/lang/invoke/MethodHandle" ∧ y_M_money.cls ≠ "java/lang/invoke/VarHandle" ∧ (parseMethodDescriptor y_M_money.desc).map (fun d => d.parameters.length) = some 2) := ⟨tw_689, tw_51, by decide +kernel⟩
abbrev ws_M_money : List Cond := Cond.code y_M_money cc_M_money 3 (some .int) :: WS
abbrev cc_M_freeOf : ByteArray := prog_6_method_19_code
def y_M_freeOf : MethodName := ⟨"PlainWarehouseModel", "freeOf", "(I)I"⟩
theorem kf_M_freeOf : Cond.code y_M_freeOf cc_M_freeOf 4 (some .int) ∈ WS ∧ Cond.initialized y_M_freeOf.cls ∈ WS ∧ (y_M_freeOf.cls ≠ "java/lang/invoke/MethodHandle" ∧ y_M_freeOf.cls ≠ "java/lang/invoke/VarHandle" ∧ (parseMethodDescriptor y_M_freeOf.desc).map (fun d => d.parameters.length) = some 1) := ⟨tw_701, tw_51, by decide +kernel⟩
abbrev ws_M_freeOf : List Cond := Cond.code y_M_freeOf cc_M_freeOf 4 (some .int) :: WS
abbrev cc_M_order : ByteArray := prog_6_method_20_code
def y_M_order : MethodName := ⟨"PlainWarehouseModel", "order", "(II)I"⟩
theorem kf_M_order : Cond.code y_M_order cc_M_order 4 (some .int) ∈ WS ∧ Cond.initialized y_M_order.cls ∈ WS ∧ (y_M_order.cls ≠ "java/lang/invoke/MethodHandle" ∧ y_M_order.cls ≠ "java/lang/invoke/VarHandle" ∧ (parseMethodDescriptor y_M_order.desc).map (fun d => d.parameters.length) = some 2) := ⟨tw_693, tw_51, by decide +kernel⟩
abbrev ws_M_order : List Cond := Cond.code y_M_order cc_M_order 4 (some .int) :: WS
abbrev cc_M_filled : ByteArray := prog_6_method_21_code
def y_M_filled : MethodName := ⟨"PlainWarehouseModel", "filled", "(II)I"⟩
theorem kf_M_filled : Cond.code y_M_filled cc_M_filled 8 (some .int) ∈ WS ∧ Cond.initialized y_M_filled.cls ∈ WS ∧ (y_M_filled.cls ≠ "java/lang/invoke/MethodHandle" ∧ y_M_filled.cls ≠ "java/lang/invoke/VarHandle" ∧ (parseMethodDescriptor y_M_filled.desc).map (fun d => d.parameters.length) = some 2) := ⟨tw_709, tw_51, by decide +kernel⟩
abbrev ws_M_filled : List Cond := Cond.code y_M_filled cc_M_filled 8 (some .int) :: WS
abbrev cc_M_promise : ByteArray := prog_6_method_22_code
def y_M_promise : MethodName := ⟨"PlainWarehouseModel", "promise", "(I)I"⟩
theorem kf_M_promise : Cond.code y_M_promise cc_M_promise 5 (some .int) ∈ WS ∧ Cond.initialized y_M_promise.cls ∈ WS ∧ (y_M_promise.cls ≠ "java/lang/invoke/MethodHandle" ∧ y_M_promise.cls ≠ "java/lang/invoke/VarHandle" ∧ (parseMethodDescriptor y_M_promise.desc).map (fun d => d.parameters.length) = some 1) := ⟨tw_705, tw_51, by decide +kernel⟩
abbrev ws_M_promise : List Cond := Cond.code y_M_promise cc_M_promise 5 (some .int) :: WS
abbrev cc_M_reach : ByteArray := prog_6_method_23_code
def y_M_reach : MethodName := ⟨"PlainWarehouseModel", "reach", "()V"⟩
theorem kf_M_reach : Cond.code y_M_reach cc_M_reach 5 none ∈ WS ∧ Cond.initialized y_M_reach.cls ∈ WS ∧ (y_M_reach.cls ≠ "java/lang/invoke/MethodHandle" ∧ y_M_reach.cls ≠ "java/lang/invoke/VarHandle" ∧ (parseMethodDescriptor y_M_reach.desc).map (fun d => d.parameters.length) = some 0) := ⟨tw_717, tw_51, by decide +kernel⟩
abbrev ws_M_reach : List Cond := Cond.code y_M_reach cc_M_reach 5 none :: WS
abbrev cc_M_way : ByteArray := prog_6_method_24_code
def y_M_way : MethodName := ⟨"PlainWarehouseModel", "way", "(II)I"⟩
theorem kf_M_way : Cond.code y_M_way cc_M_way 3 (some .int) ∈ WS ∧ Cond.initialized y_M_way.cls ∈ WS ∧ (y_M_way.cls ≠ "java/lang/invoke/MethodHandle" ∧ y_M_way.cls ≠ "java/lang/invoke/VarHandle" ∧ (parseMethodDescriptor y_M_way.desc).map (fun d => d.parameters.length) = some 2) := ⟨tw_713, tw_51, by decide +kernel⟩
abbrev ws_M_way : List Cond := Cond.code y_M_way cc_M_way 3 (some .int) :: WS
abbrev cc_M_places : ByteArray := prog_6_method_25_code
def y_M_places : MethodName := ⟨"PlainWarehouseModel", "places", "(I)I"⟩
theorem kf_M_places : Cond.code y_M_places cc_M_places 6 (some .int) ∈ WS ∧ Cond.initialized y_M_places.cls ∈ WS ∧ (y_M_places.cls ≠ "java/lang/invoke/MethodHandle" ∧ y_M_places.cls ≠ "java/lang/invoke/VarHandle" ∧ (parseMethodDescriptor y_M_places.desc).map (fun d => d.parameters.length) = some 1) := ⟨tw_726, tw_51, by decide +kernel⟩
abbrev ws_M_places : List Cond := Cond.code y_M_places cc_M_places 6 (some .int) :: WS
abbrev cc_M_walk : ByteArray := prog_6_method_26_code
def y_M_walk : MethodName := ⟨"PlainWarehouseModel", "walk", "(II)I"⟩
theorem kf_M_walk : Cond.code y_M_walk cc_M_walk 10 (some .int) ∈ WS ∧ Cond.initialized y_M_walk.cls ∈ WS ∧ (y_M_walk.cls ≠ "java/lang/invoke/MethodHandle" ∧ y_M_walk.cls ≠ "java/lang/invoke/VarHandle" ∧ (parseMethodDescriptor y_M_walk.desc).map (fun d => d.parameters.length) = some 2) := ⟨tw_722, tw_51, by decide +kernel⟩
abbrev ws_M_walk : List Cond := Cond.code y_M_walk cc_M_walk 10 (some .int) :: WS
abbrev cc_M_without : ByteArray := prog_6_method_27_code
def y_M_without : MethodName := ⟨"PlainWarehouseModel", "without", "(IZ)I"⟩
theorem kf_M_without : Cond.code y_M_without cc_M_without 5 (some .int) ∈ WS ∧ Cond.initialized y_M_without.cls ∈ WS ∧ (y_M_without.cls ≠ "java/lang/invoke/MethodHandle" ∧ y_M_without.cls ≠ "java/lang/invoke/VarHandle" ∧ (parseMethodDescriptor y_M_without.desc).map (fun d => d.parameters.length) = some 2) := ⟨tw_738, tw_51, by decide +kernel⟩
abbrev ws_M_without : List Cond := Cond.code y_M_without cc_M_without 5 (some .int) :: WS
abbrev cc_M_isEvent : ByteArray := prog_6_method_28_code
def y_M_isEvent : MethodName := ⟨"PlainWarehouseModel", "isEvent", "(I)Z"⟩
theorem kf_M_isEvent : Cond.code y_M_isEvent cc_M_isEvent 2 (some .boolean) ∈ WS ∧ Cond.initialized y_M_isEvent.cls ∈ WS ∧ (y_M_isEvent.cls ≠ "java/lang/invoke/MethodHandle" ∧ y_M_isEvent.cls ≠ "java/lang/invoke/VarHandle" ∧ (parseMethodDescriptor y_M_isEvent.desc).map (fun d => d.parameters.length) = some 1) := ⟨tw_734, tw_51, by decide +kernel⟩
abbrev ws_M_isEvent : List Cond := Cond.code y_M_isEvent cc_M_isEvent 2 (some .boolean) :: WS
abbrev cc_M_needs : ByteArray := prog_6_method_29_code
def y_M_needs : MethodName := ⟨"PlainWarehouseModel", "needs", "(I)I"⟩
theorem kf_M_needs : Cond.code y_M_needs cc_M_needs 2 (some .int) ∈ WS ∧ Cond.initialized y_M_needs.cls ∈ WS ∧ (y_M_needs.cls ≠ "java/lang/invoke/MethodHandle" ∧ y_M_needs.cls ≠ "java/lang/invoke/VarHandle" ∧ (parseMethodDescriptor y_M_needs.desc).map (fun d => d.parameters.length) = some 1) := ⟨tw_730, tw_51, by decide +kernel⟩
abbrev ws_M_needs : List Cond := Cond.code y_M_needs cc_M_needs 2 (some .int) :: WS
abbrev cc_M_explained : ByteArray := prog_6_method_30_code
def y_M_explained : MethodName := ⟨"PlainWarehouseModel", "explained", "(I)I"⟩
theorem kf_M_explained : Cond.code y_M_explained cc_M_explained 2 (some .int) ∈ WS ∧ Cond.initialized y_M_explained.cls ∈ WS ∧ (y_M_explained.cls ≠ "java/lang/invoke/MethodHandle" ∧ y_M_explained.cls ≠ "java/lang/invoke/VarHandle" ∧ (parseMethodDescriptor y_M_explained.desc).map (fun d => d.parameters.length) = some 1) := ⟨tw_742, tw_51, by decide +kernel⟩
abbrev ws_M_explained : List Cond := Cond.code y_M_explained cc_M_explained 2 (some .int) :: WS
abbrev cc_M_told : ByteArray := prog_6_method_31_code
def y_M_told : MethodName := ⟨"PlainWarehouseModel", "told", "(II)I"⟩
theorem kf_M_told : Cond.code y_M_told cc_M_told 3 (some .int) ∈ WS ∧ Cond.initialized y_M_told.cls ∈ WS ∧ (y_M_told.cls ≠ "java/lang/invoke/MethodHandle" ∧ y_M_told.cls ≠ "java/lang/invoke/VarHandle" ∧ (parseMethodDescriptor y_M_told.desc).map (fun d => d.parameters.length) = some 2) := ⟨tw_746, tw_51, by decide +kernel⟩
abbrev ws_M_told : List Cond := Cond.code y_M_told cc_M_told 3 (some .int) :: WS
abbrev cc_M_count : ByteArray := prog_6_method_32_code
def y_M_count : MethodName := ⟨"PlainWarehouseModel", "count", "(I)I"⟩
theorem kf_M_count : Cond.code y_M_count cc_M_count 4 (some .int) ∈ WS ∧ Cond.initialized y_M_count.cls ∈ WS ∧ (y_M_count.cls ≠ "java/lang/invoke/MethodHandle" ∧ y_M_count.cls ≠ "java/lang/invoke/VarHandle" ∧ (parseMethodDescriptor y_M_count.desc).map (fun d => d.parameters.length) = some 1) := ⟨tw_750, tw_51, by decide +kernel⟩
abbrev ws_M_count : List Cond := Cond.code y_M_count cc_M_count 4 (some .int) :: WS
abbrev cc_F_init : ByteArray := prog_2_method_1_code
def y_F_init : MethodName := ⟨"PlainWarehouse$Fillings", "<init>", "()V"⟩
theorem kf_F_init : Cond.code y_F_init cc_F_init 1 none ∈ WS ∧ Cond.initialized y_F_init.cls ∈ WS ∧ (y_F_init.cls ≠ "java/lang/invoke/MethodHandle" ∧ y_F_init.cls ≠ "java/lang/invoke/VarHandle" ∧ (parseMethodDescriptor y_F_init.desc).map (fun d => d.parameters.length) = some 0) := ⟨tw_115, tw_49, by decide +kernel⟩
abbrev ws_F_init : List Cond := Cond.code y_F_init cc_F_init 1 none :: WS
abbrev cc_F_most : ByteArray := prog_2_method_2_code
def y_F_most : MethodName := ⟨"PlainWarehouse$Fillings", "most", "(LPlainWarehouse$House;I)I"⟩
theorem kf_F_most : Cond.code y_F_most cc_F_most 5 (some .int) ∈ WS ∧ Cond.initialized y_F_most.cls ∈ WS ∧ (y_F_most.cls ≠ "java/lang/invoke/MethodHandle" ∧ y_F_most.cls ≠ "java/lang/invoke/VarHandle" ∧ (parseMethodDescriptor y_F_most.desc).map (fun d => d.parameters.length) = some 2) := ⟨tw_439, tw_49, by decide +kernel⟩
abbrev ws_F_most : List Cond := Cond.code y_F_most cc_F_most 5 (some .int) :: WS
abbrev cc_F_countFree : ByteArray := prog_2_method_3_code
def y_F_countFree : MethodName := ⟨"PlainWarehouse$Fillings", "countFree", "(LPlainWarehouse$House;)V"⟩
theorem kf_F_countFree : Cond.code y_F_countFree cc_F_countFree 3 none ∈ WS ∧ Cond.initialized y_F_countFree.cls ∈ WS ∧ (y_F_countFree.cls ≠ "java/lang/invoke/MethodHandle" ∧ y_F_countFree.cls ≠ "java/lang/invoke/VarHandle" ∧ (parseMethodDescriptor y_F_countFree.desc).map (fun d => d.parameters.length) = some 1) := ⟨tw_443, tw_49, by decide +kernel⟩
abbrev ws_F_countFree : List Cond := Cond.code y_F_countFree cc_F_countFree 3 none :: WS
abbrev cc_F_chooseOpen : ByteArray := prog_2_method_4_code
def y_F_chooseOpen : MethodName := ⟨"PlainWarehouse$Fillings", "chooseOpen", "(LPlainWarehouse$House;I)V"⟩
theorem kf_F_chooseOpen : Cond.code y_F_chooseOpen cc_F_chooseOpen 4 none ∈ WS ∧ Cond.initialized y_F_chooseOpen.cls ∈ WS ∧ (y_F_chooseOpen.cls ≠ "java/lang/invoke/MethodHandle" ∧ y_F_chooseOpen.cls ≠ "java/lang/invoke/VarHandle" ∧ (parseMethodDescriptor y_F_chooseOpen.desc).map (fun d => d.parameters.length) = some 2) := ⟨tw_448, tw_49, by decide +kernel⟩
abbrev ws_F_chooseOpen : List Cond := Cond.code y_F_chooseOpen cc_F_chooseOpen 4 none :: WS
abbrev cc_F_isEnoughFor : ByteArray := prog_2_method_5_code
def y_F_isEnoughFor : MethodName := ⟨"PlainWarehouse$Fillings", "isEnoughFor", "(I)Z"⟩
theorem kf_F_isEnoughFor : Cond.code y_F_isEnoughFor cc_F_isEnoughFor 3 (some .boolean) ∈ WS ∧ Cond.initialized y_F_isEnoughFor.cls ∈ WS ∧ (y_F_isEnoughFor.cls ≠ "java/lang/invoke/MethodHandle" ∧ y_F_isEnoughFor.cls ≠ "java/lang/invoke/VarHandle" ∧ (parseMethodDescriptor y_F_isEnoughFor.desc).map (fun d => d.parameters.length) = some 1) := ⟨tw_455, tw_49, by decide +kernel⟩
abbrev ws_F_isEnoughFor : List Cond := Cond.code y_F_isEnoughFor cc_F_isEnoughFor 3 (some .boolean) :: WS
abbrev cc_H_init : ByteArray := prog_3_method_1_code
def y_H_init : MethodName := ⟨"PlainWarehouse$House", "<init>", "()V"⟩
theorem kf_H_init : Cond.code y_H_init cc_H_init 1 none ∈ WS ∧ Cond.initialized y_H_init.cls ∈ WS ∧ (y_H_init.cls ≠ "java/lang/invoke/MethodHandle" ∧ y_H_init.cls ≠ "java/lang/invoke/VarHandle" ∧ (parseMethodDescriptor y_H_init.desc).map (fun d => d.parameters.length) = some 0) := ⟨tw_75, tw_48, by decide +kernel⟩
abbrev ws_H_init : List Cond := Cond.code y_H_init cc_H_init 1 none :: WS
abbrev cc_H_empty : ByteArray := prog_3_method_2_code
def y_H_empty : MethodName := ⟨"PlainWarehouse$House", "empty", "()V"⟩
theorem kf_H_empty : Cond.code y_H_empty cc_H_empty 1 none ∈ WS ∧ Cond.initialized y_H_empty.cls ∈ WS ∧ (y_H_empty.cls ≠ "java/lang/invoke/MethodHandle" ∧ y_H_empty.cls ≠ "java/lang/invoke/VarHandle" ∧ (parseMethodDescriptor y_H_empty.desc).map (fun d => d.parameters.length) = some 0) := ⟨tw_173, tw_48, by decide +kernel⟩
abbrev ws_H_empty : List Cond := Cond.code y_H_empty cc_H_empty 1 none :: WS
abbrev cc_H_take : ByteArray := prog_3_method_3_code
def y_H_take : MethodName := ⟨"PlainWarehouse$House", "take", "(IIII)Z"⟩
theorem kf_H_take : Cond.code y_H_take cc_H_take 5 (some .boolean) ∈ WS ∧ Cond.initialized y_H_take.cls ∈ WS ∧ (y_H_take.cls ≠ "java/lang/invoke/MethodHandle" ∧ y_H_take.cls ≠ "java/lang/invoke/VarHandle" ∧ (parseMethodDescriptor y_H_take.desc).map (fun d => d.parameters.length) = some 4) := ⟨tw_184, tw_48, by decide +kernel⟩
abbrev ws_H_take : List Cond := Cond.code y_H_take cc_H_take 5 (some .boolean) :: WS
abbrev cc_H_isPossible : ByteArray := prog_3_method_4_code
def y_H_isPossible : MethodName := ⟨"PlainWarehouse$House", "isPossible", "(III)Z"⟩
theorem kf_H_isPossible : Cond.code y_H_isPossible cc_H_isPossible 4 (some .boolean) ∈ WS ∧ Cond.initialized y_H_isPossible.cls ∈ WS ∧ (y_H_isPossible.cls ≠ "java/lang/invoke/MethodHandle" ∧ y_H_isPossible.cls ≠ "java/lang/invoke/VarHandle" ∧ (parseMethodDescriptor y_H_isPossible.desc).map (fun d => d.parameters.length) = some 3) := ⟨tw_188, tw_48, by decide +kernel⟩
abbrev ws_H_isPossible : List Cond := Cond.code y_H_isPossible cc_H_isPossible 4 (some .boolean) :: WS
abbrev cc_H_happen : ByteArray := prog_3_method_5_code
def y_H_happen : MethodName := ⟨"PlainWarehouse$House", "happen", "(IIII)V"⟩
theorem kf_H_happen : Cond.code y_H_happen cc_H_happen 5 none ∈ WS ∧ Cond.initialized y_H_happen.cls ∈ WS ∧ (y_H_happen.cls ≠ "java/lang/invoke/MethodHandle" ∧ y_H_happen.cls ≠ "java/lang/invoke/VarHandle" ∧ (parseMethodDescriptor y_H_happen.desc).map (fun d => d.parameters.length) = some 4) := ⟨tw_208, tw_48, by decide +kernel⟩
abbrev ws_H_happen : List Cond := Cond.code y_H_happen cc_H_happen 5 none :: WS
abbrev cc_H_come : ByteArray := prog_3_method_6_code
def y_H_come : MethodName := ⟨"PlainWarehouse$House", "come", "(III)V"⟩
theorem kf_H_come : Cond.code y_H_come cc_H_come 4 none ∈ WS ∧ Cond.initialized y_H_come.cls ∈ WS ∧ (y_H_come.cls ≠ "java/lang/invoke/MethodHandle" ∧ y_H_come.cls ≠ "java/lang/invoke/VarHandle" ∧ (parseMethodDescriptor y_H_come.desc).map (fun d => d.parameters.length) = some 3) := ⟨tw_212, tw_48, by decide +kernel⟩
abbrev ws_H_come : List Cond := Cond.code y_H_come cc_H_come 4 none :: WS
abbrev cc_H_leave : ByteArray := prog_3_method_7_code
def y_H_leave : MethodName := ⟨"PlainWarehouse$House", "leave", "(I)V"⟩
theorem kf_H_leave : Cond.code y_H_leave cc_H_leave 2 none ∈ WS ∧ Cond.initialized y_H_leave.cls ∈ WS ∧ (y_H_leave.cls ≠ "java/lang/invoke/MethodHandle" ∧ y_H_leave.cls ≠ "java/lang/invoke/VarHandle" ∧ (parseMethodDescriptor y_H_leave.desc).map (fun d => d.parameters.length) = some 1) := ⟨tw_216, tw_48, by decide +kernel⟩
abbrev ws_H_leave : List Cond := Cond.code y_H_leave cc_H_leave 2 none :: WS
abbrev cc_H_isInside : ByteArray := prog_3_method_8_code
def y_H_isInside : MethodName := ⟨"PlainWarehouse$House", "isInside", "(I)Z"⟩
theorem kf_H_isInside : Cond.code y_H_isInside cc_H_isInside 2 (some .boolean) ∈ WS ∧ Cond.initialized y_H_isInside.cls ∈ WS ∧ (y_H_isInside.cls ≠ "java/lang/invoke/MethodHandle" ∧ y_H_isInside.cls ≠ "java/lang/invoke/VarHandle" ∧ (parseMethodDescriptor y_H_isInside.desc).map (fun d => d.parameters.length) = some 1) := ⟨tw_192, tw_48, by decide +kernel⟩
abbrev ws_H_isInside : List Cond := Cond.code y_H_isInside cc_H_isInside 2 (some .boolean) :: WS
abbrev cc_H_isFree : ByteArray := prog_3_method_9_code
def y_H_isFree : MethodName := ⟨"PlainWarehouse$House", "isFree", "(I)Z"⟩
theorem kf_H_isFree : Cond.code y_H_isFree cc_H_isFree 2 (some .boolean) ∈ WS ∧ Cond.initialized y_H_isFree.cls ∈ WS ∧ (y_H_isFree.cls ≠ "java/lang/invoke/MethodHandle" ∧ y_H_isFree.cls ≠ "java/lang/invoke/VarHandle" ∧ (parseMethodDescriptor y_H_isFree.desc).map (fun d => d.parameters.length) = some 1) := ⟨tw_204, tw_48, by decide +kernel⟩
abbrev ws_H_isFree : List Cond := Cond.code y_H_isFree cc_H_isFree 2 (some .boolean) :: WS
abbrev cc_H_isTold : ByteArray := prog_3_method_10_code
def y_H_isTold : MethodName := ⟨"PlainWarehouse$House", "isTold", "(I)Z"⟩
theorem kf_H_isTold : Cond.code y_H_isTold cc_H_isTold 2 (some .boolean) ∈ WS ∧ Cond.initialized y_H_isTold.cls ∈ WS ∧ (y_H_isTold.cls ≠ "java/lang/invoke/MethodHandle" ∧ y_H_isTold.cls ≠ "java/lang/invoke/VarHandle" ∧ (parseMethodDescriptor y_H_isTold.desc).map (fun d => d.parameters.length) = some 1) := ⟨tw_200, tw_48, by decide +kernel⟩
abbrev ws_H_isTold : List Cond := Cond.code y_H_isTold cc_H_isTold 2 (some .boolean) :: WS
abbrev cc_H_isOpen : ByteArray := prog_3_method_11_code
def y_H_isOpen : MethodName := ⟨"PlainWarehouse$House", "isOpen", "(I)Z"⟩
theorem kf_H_isOpen : Cond.code y_H_isOpen cc_H_isOpen 2 (some .boolean) ∈ WS ∧ Cond.initialized y_H_isOpen.cls ∈ WS ∧ (y_H_isOpen.cls ≠ "java/lang/invoke/MethodHandle" ∧ y_H_isOpen.cls ≠ "java/lang/invoke/VarHandle" ∧ (parseMethodDescriptor y_H_isOpen.desc).map (fun d => d.parameters.length) = some 1) := ⟨tw_196, tw_48, by decide +kernel⟩
abbrev ws_H_isOpen : List Cond := Cond.code y_H_isOpen cc_H_isOpen 2 (some .boolean) :: WS
abbrev cc_H_isFull : ByteArray := prog_3_method_12_code
def y_H_isFull : MethodName := ⟨"PlainWarehouse$House", "isFull", "(I)Z"⟩
theorem kf_H_isFull : Cond.code y_H_isFull cc_H_isFull 2 (some .boolean) ∈ WS ∧ Cond.initialized y_H_isFull.cls ∈ WS ∧ (y_H_isFull.cls ≠ "java/lang/invoke/MethodHandle" ∧ y_H_isFull.cls ≠ "java/lang/invoke/VarHandle" ∧ (parseMethodDescriptor y_H_isFull.desc).map (fun d => d.parameters.length) = some 1) := ⟨tw_238, tw_48, by decide +kernel⟩
abbrev ws_H_isFull : List Cond := Cond.code y_H_isFull cc_H_isFull 2 (some .boolean) :: WS
abbrev cc_H_unitsAt : ByteArray := prog_3_method_13_code
def y_H_unitsAt : MethodName := ⟨"PlainWarehouse$House", "unitsAt", "(II)I"⟩
theorem kf_H_unitsAt : Cond.code y_H_unitsAt cc_H_unitsAt 5 (some .int) ∈ WS ∧ Cond.initialized y_H_unitsAt.cls ∈ WS ∧ (y_H_unitsAt.cls ≠ "java/lang/invoke/MethodHandle" ∧ y_H_unitsAt.cls ≠ "java/lang/invoke/VarHandle" ∧ (parseMethodDescriptor y_H_unitsAt.desc).map (fun d => d.parameters.length) = some 2) := ⟨tw_223, tw_48, by decide +kernel⟩
abbrev ws_H_unitsAt : List Cond := Cond.code y_H_unitsAt cc_H_unitsAt 5 (some .int) :: WS
abbrev cc_H_isAsked : ByteArray := prog_3_method_14_code
def y_H_isAsked : MethodName := ⟨"PlainWarehouse$House", "isAsked", "(II)Z"⟩
theorem kf_H_isAsked : Cond.code y_H_isAsked cc_H_isAsked 2 (some .boolean) ∈ WS ∧ Cond.initialized y_H_isAsked.cls ∈ WS ∧ (y_H_isAsked.cls ≠ "java/lang/invoke/MethodHandle" ∧ y_H_isAsked.cls ≠ "java/lang/invoke/VarHandle" ∧ (parseMethodDescriptor y_H_isAsked.desc).map (fun d => d.parameters.length) = some 2) := ⟨tw_226, tw_48, by decide +kernel⟩
abbrev ws_H_isAsked : List Cond := Cond.code y_H_isAsked cc_H_isAsked 2 (some .boolean) :: WS
abbrev cc_H_freeUnits : ByteArray := prog_3_method_15_code
def y_H_freeUnits : MethodName := ⟨"PlainWarehouse$House", "freeUnits", "(I)I"⟩
theorem kf_H_freeUnits : Cond.code y_H_freeUnits cc_H_freeUnits 4 (some .int) ∈ WS ∧ Cond.initialized y_H_freeUnits.cls ∈ WS ∧ (y_H_freeUnits.cls ≠ "java/lang/invoke/MethodHandle" ∧ y_H_freeUnits.cls ≠ "java/lang/invoke/VarHandle" ∧ (parseMethodDescriptor y_H_freeUnits.desc).map (fun d => d.parameters.length) = some 1) := ⟨tw_413, tw_48, by decide +kernel⟩
abbrev ws_H_freeUnits : List Cond := Cond.code y_H_freeUnits cc_H_freeUnits 4 (some .int) :: WS
abbrev cc_H_placesOfUnitsGivenTo : ByteArray := prog_3_method_16_code
def y_H_placesOfUnitsGivenTo : MethodName := ⟨"PlainWarehouse$House", "placesOfUnitsGivenTo", "(I)I"⟩
theorem kf_H_placesOfUnitsGivenTo : Cond.code y_H_placesOfUnitsGivenTo cc_H_placesOfUnitsGivenTo 4 (some .int) ∈ WS ∧ Cond.initialized y_H_placesOfUnitsGivenTo.cls ∈ WS ∧ (y_H_placesOfUnitsGivenTo.cls ≠ "java/lang/invoke/MethodHandle" ∧ y_H_placesOfUnitsGivenTo.cls ≠ "java/lang/invoke/VarHandle" ∧ (parseMethodDescriptor y_H_placesOfUnitsGivenTo.desc).map (fun d => d.parameters.length) = some 1) := ⟨tw_501, tw_48, by decide +kernel⟩
abbrev ws_H_placesOfUnitsGivenTo : List Cond := Cond.code y_H_placesOfUnitsGivenTo cc_H_placesOfUnitsGivenTo 4 (some .int) :: WS
abbrev cc_H_toldOrders : ByteArray := prog_3_method_17_code
def y_H_toldOrders : MethodName := ⟨"PlainWarehouse$House", "toldOrders", "()I"⟩
theorem kf_H_toldOrders : Cond.code y_H_toldOrders cc_H_toldOrders 3 (some .int) ∈ WS ∧ Cond.initialized y_H_toldOrders.cls ∈ WS ∧ (y_H_toldOrders.cls ≠ "java/lang/invoke/MethodHandle" ∧ y_H_toldOrders.cls ≠ "java/lang/invoke/VarHandle" ∧ (parseMethodDescriptor y_H_toldOrders.desc).map (fun d => d.parameters.length) = some 0) := ⟨tw_230, tw_48, by decide +kernel⟩
abbrev ws_H_toldOrders : List Cond := Cond.code y_H_toldOrders cc_H_toldOrders 3 (some .int) :: WS
abbrev cc_H_fullOrders : ByteArray := prog_3_method_18_code
def y_H_fullOrders : MethodName := ⟨"PlainWarehouse$House", "fullOrders", "()I"⟩
theorem kf_H_fullOrders : Cond.code y_H_fullOrders cc_H_fullOrders 3 (some .int) ∈ WS ∧ Cond.initialized y_H_fullOrders.cls ∈ WS ∧ (y_H_fullOrders.cls ≠ "java/lang/invoke/MethodHandle" ∧ y_H_fullOrders.cls ≠ "java/lang/invoke/VarHandle" ∧ (parseMethodDescriptor y_H_fullOrders.desc).map (fun d => d.parameters.length) = some 0) := ⟨tw_234, tw_48, by decide +kernel⟩
abbrev ws_H_fullOrders : List Cond := Cond.code y_H_fullOrders cc_H_fullOrders 3 (some .int) :: WS
abbrev cc_H_linkedPairs : ByteArray := prog_3_method_19_code
def y_H_linkedPairs : MethodName := ⟨"PlainWarehouse$House", "linkedPairs", "()I"⟩
theorem kf_H_linkedPairs : Cond.code y_H_linkedPairs cc_H_linkedPairs 4 (some .int) ∈ WS ∧ Cond.initialized y_H_linkedPairs.cls ∈ WS ∧ (y_H_linkedPairs.cls ≠ "java/lang/invoke/MethodHandle" ∧ y_H_linkedPairs.cls ≠ "java/lang/invoke/VarHandle" ∧ (parseMethodDescriptor y_H_linkedPairs.desc).map (fun d => d.parameters.length) = some 0) := ⟨tw_242, tw_48, by decide +kernel⟩
abbrev ws_H_linkedPairs : List Cond := Cond.code y_H_linkedPairs cc_H_linkedPairs 4 (some .int) :: WS
abbrev cc_Y_init : ByteArray := prog_4_method_1_code
def y_Y_init : MethodName := ⟨"PlainWarehouse$Ways", "<init>", "()V"⟩
theorem kf_Y_init : Cond.code y_Y_init cc_Y_init 1 none ∈ WS ∧ Cond.initialized y_Y_init.cls ∈ WS ∧ (y_Y_init.cls ≠ "java/lang/invoke/MethodHandle" ∧ y_Y_init.cls ≠ "java/lang/invoke/VarHandle" ∧ (parseMethodDescriptor y_Y_init.desc).map (fun d => d.parameters.length) = some 0) := ⟨tw_137, tw_50, by decide +kernel⟩
abbrev ws_Y_init : List Cond := Cond.code y_Y_init cc_Y_init 1 none :: WS
abbrev cc_Y_measure : ByteArray := prog_4_method_2_code
def y_Y_measure : MethodName := ⟨"PlainWarehouse$Ways", "measure", "(LPlainWarehouse$House;)V"⟩
theorem kf_Y_measure : Cond.code y_Y_measure cc_Y_measure 4 none ∈ WS ∧ Cond.initialized y_Y_measure.cls ∈ WS ∧ (y_Y_measure.cls ≠ "java/lang/invoke/MethodHandle" ∧ y_Y_measure.cls ≠ "java/lang/invoke/VarHandle" ∧ (parseMethodDescriptor y_Y_measure.desc).map (fun d => d.parameters.length) = some 1) := ⟨tw_469, tw_50, by decide +kernel⟩
abbrev ws_Y_measure : List Cond := Cond.code y_Y_measure cc_Y_measure 4 none :: WS
abbrev cc_Y_layLinks : ByteArray := prog_4_method_3_code
def y_Y_layLinks : MethodName := ⟨"PlainWarehouse$Ways", "layLinks", "(LPlainWarehouse$House;)V"⟩
theorem kf_Y_layLinks : Cond.code y_Y_layLinks cc_Y_layLinks 5 none ∈ WS ∧ Cond.initialized y_Y_layLinks.cls ∈ WS ∧ (y_Y_layLinks.cls ≠ "java/lang/invoke/MethodHandle" ∧ y_Y_layLinks.cls ≠ "java/lang/invoke/VarHandle" ∧ (parseMethodDescriptor y_Y_layLinks.desc).map (fun d => d.parameters.length) = some 1) := ⟨tw_473, tw_50, by decide +kernel⟩
abbrev ws_Y_layLinks : List Cond := Cond.code y_Y_layLinks cc_Y_layLinks 5 none :: WS
abbrev cc_Y_shortenVia : ByteArray := prog_4_method_4_code
def y_Y_shortenVia : MethodName := ⟨"PlainWarehouse$Ways", "shortenVia", "(II)V"⟩
theorem kf_Y_shortenVia : Cond.code y_Y_shortenVia cc_Y_shortenVia 6 none ∈ WS ∧ Cond.initialized y_Y_shortenVia.cls ∈ WS ∧ (y_Y_shortenVia.cls ≠ "java/lang/invoke/MethodHandle" ∧ y_Y_shortenVia.cls ≠ "java/lang/invoke/VarHandle" ∧ (parseMethodDescriptor y_Y_shortenVia.desc).map (fun d => d.parameters.length) = some 2) := ⟨tw_479, tw_50, by decide +kernel⟩
abbrev ws_Y_shortenVia : List Cond := Cond.code y_Y_shortenVia cc_Y_shortenVia 6 none :: WS
abbrev cc_Y_between : ByteArray := prog_4_method_5_code
def y_Y_between : MethodName := ⟨"PlainWarehouse$Ways", "between", "(II)I"⟩
theorem kf_Y_between : Cond.code y_Y_between cc_Y_between 3 (some .int) ∈ WS ∧ Cond.initialized y_Y_between.cls ∈ WS ∧ (y_Y_between.cls ≠ "java/lang/invoke/MethodHandle" ∧ y_Y_between.cls ≠ "java/lang/invoke/VarHandle" ∧ (parseMethodDescriptor y_Y_between.desc).map (fun d => d.parameters.length) = some 2) := ⟨tw_486, tw_50, by decide +kernel⟩
abbrev ws_Y_between : List Cond := Cond.code y_Y_between cc_Y_between 3 (some .int) :: WS
abbrev cc_Y_fewestThrough : ByteArray := prog_4_method_6_code
def y_Y_fewestThrough : MethodName := ⟨"PlainWarehouse$Ways", "fewestThrough", "(II)I"⟩
theorem kf_Y_fewestThrough : Cond.code y_Y_fewestThrough cc_Y_fewestThrough 3 (some .int) ∈ WS ∧ Cond.initialized y_Y_fewestThrough.cls ∈ WS ∧ (y_Y_fewestThrough.cls ≠ "java/lang/invoke/MethodHandle" ∧ y_Y_fewestThrough.cls ≠ "java/lang/invoke/VarHandle" ∧ (parseMethodDescriptor y_Y_fewestThrough.desc).map (fun d => d.parameters.length) = some 2) := ⟨tw_505, tw_50, by decide +kernel⟩
abbrev ws_Y_fewestThrough : List Cond := Cond.code y_Y_fewestThrough cc_Y_fewestThrough 3 (some .int) :: WS
abbrev cc_Y_fewest : ByteArray := prog_4_method_7_code
def y_Y_fewest : MethodName := ⟨"PlainWarehouse$Ways", "fewest", "([IIII)I"⟩
theorem kf_Y_fewest : Cond.code y_Y_fewest cc_Y_fewest 7 (some .int) ∈ WS ∧ Cond.initialized y_Y_fewest.cls ∈ WS ∧ (y_Y_fewest.cls ≠ "java/lang/invoke/MethodHandle" ∧ y_Y_fewest.cls ≠ "java/lang/invoke/VarHandle" ∧ (parseMethodDescriptor y_Y_fewest.desc).map (fun d => d.parameters.length) = some 4) := ⟨tw_508, tw_50, by decide +kernel⟩
abbrev ws_Y_fewest : List Cond := Cond.code y_Y_fewest cc_Y_fewest 7 (some .int) :: WS
abbrev cc_L_event : ByteArray := method_3_code
def y_L_event : MethodName := ⟨"PlainWarehouseLaw", "event", "(LPlainWarehouse;IIII[J)I"⟩
abbrev cc_L_stock : ByteArray := method_4_code
def y_L_stock : MethodName := ⟨"PlainWarehouseLaw", "stock", "(LPlainWarehouse;II[J)I"⟩
abbrev cc_L_where : ByteArray := method_5_code
def y_L_where : MethodName := ⟨"PlainWarehouseLaw", "where", "(LPlainWarehouse;II[J)I"⟩
abbrev cc_L_order : ByteArray := method_6_code
def y_L_order : MethodName := ⟨"PlainWarehouseLaw", "order", "(LPlainWarehouse;II[J)I"⟩
abbrev cc_L_promise : ByteArray := method_7_code
def y_L_promise : MethodName := ⟨"PlainWarehouseLaw", "promise", "(LPlainWarehouse;I[J)I"⟩
abbrev cc_L_way : ByteArray := method_8_code
def y_L_way : MethodName := ⟨"PlainWarehouseLaw", "way", "(LPlainWarehouse;II[J)I"⟩
abbrev cc_L_walk : ByteArray := method_9_code
def y_L_walk : MethodName := ⟨"PlainWarehouseLaw", "walk", "(LPlainWarehouse;II[J)I"⟩
abbrev cc_L_money : ByteArray := method_10_code
def y_L_money : MethodName := ⟨"PlainWarehouseLaw", "money", "(LPlainWarehouse;II[J)I"⟩
abbrev cc_L_needs : ByteArray := method_11_code
def y_L_needs : MethodName := ⟨"PlainWarehouseLaw", "needs", "(LPlainWarehouse;I[J)I"⟩
abbrev cc_L_explained : ByteArray := method_12_code
def y_L_explained : MethodName := ⟨"PlainWarehouseLaw", "explained", "(LPlainWarehouse;I[J)I"⟩
abbrev cc_L_told : ByteArray := method_13_code
def y_L_told : MethodName := ⟨"PlainWarehouseLaw", "told", "(LPlainWarehouse;II[J)I"⟩
abbrev cc_L_back : ByteArray := method_14_code
def y_L_back : MethodName := ⟨"PlainWarehouseLaw", "back", "(LPlainWarehouse;)I"⟩
abbrev cc_JI_bitCount : ByteArray := prog_10_method_49_code
def y_JI_bitCount : MethodName := ⟨"java/lang/Integer", "bitCount", "(I)I"⟩
theorem kf_JI_bitCount : Cond.code y_JI_bitCount cc_JI_bitCount 1 (some .int) ∈ WS ∧ Cond.initialized y_JI_bitCount.cls ∈ WS ∧ (y_JI_bitCount.cls ≠ "java/lang/invoke/MethodHandle" ∧ y_JI_bitCount.cls ≠ "java/lang/invoke/VarHandle" ∧ (parseMethodDescriptor y_JI_bitCount.desc).map (fun d => d.parameters.length) = some 1) := ⟨tw_432, tw_59, by decide +kernel⟩
abbrev ws_JI_bitCount : List Cond := Cond.code y_JI_bitCount cc_JI_bitCount 1 (some .int) :: WS
abbrev cc_JA_fill : ByteArray := prog_17_method_103_code
def y_JA_fill : MethodName := ⟨"java/util/Arrays", "fill", "([II)V"⟩
theorem kf_JA_fill : Cond.code y_JA_fill cc_JA_fill 4 none ∈ WS ∧ Cond.initialized y_JA_fill.cls ∈ WS ∧ (y_JA_fill.cls ≠ "java/lang/invoke/MethodHandle" ∧ y_JA_fill.cls ≠ "java/lang/invoke/VarHandle" ∧ (parseMethodDescriptor y_JA_fill.desc).map (fun d => d.parameters.length) = some 2) := ⟨tw_176, tw_57, by decide +kernel⟩
abbrev ws_JA_fill : List Cond := Cond.code y_JA_fill cc_JA_fill 4 none :: WS
