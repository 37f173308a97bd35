set_option maxRecDepth 100000 in
theorem tw_46 : Cond.initialized "PlainWarehouseLaw" ∈ WS := ws_in 46 rfl rfl
set_option maxRecDepth 100000 in
theorem tw_245 : Cond.codeWith ({ cls := "PlainWarehouseLaw", name := "event", desc := "(LPlainWarehouse;IIII[J)I" } : MethodName) method_3_code (7 : Nat) (Option.some FieldType.int) [((0 : Nat), (14 : Nat), (17 : Nat), (13 : Nat)), ((0 : Nat), (14 : Nat), (21 : Nat), (15 : Nat))] ∈ WS := ws_in 245 rfl rfl
set_option maxRecDepth 100000 in
theorem tw_246 : Cond.classLink "PlainWarehouseLaw" (13 : Nat) "java/lang/IllegalArgumentException" ∈ WS := ws_in 246 rfl rfl
set_option maxRecDepth 100000 in
theorem tw_247 : Cond.classLink "PlainWarehouseLaw" (15 : Nat) "java/lang/UnsupportedOperationException" ∈ WS := ws_in 247 rfl rfl
set_option maxRecDepth 100000 in
theorem tw_248 : Cond.methodLink "PlainWarehouseLaw" (7 : Nat) ({ cls := "PlainWarehouse", name := "event", desc := "(IIII)I" } : MethodName) ∈ WS := ws_in 248 rfl rfl
set_option maxRecDepth 100000 in
theorem tw_249 : Cond.instanceMethod ({ cls := "PlainWarehouse", name := "event", desc := "(IIII)I" } : MethodName) ∈ WS := ws_in 249 rfl rfl
set_option maxRecDepth 100000 in
theorem tw_250 : Cond.selects "PlainWarehouse" ({ cls := "PlainWarehouse", name := "event", desc := "(IIII)I" } : MethodName) ({ cls := "PlainWarehouse", name := "event", desc := "(IIII)I" } : MethodName) ∈ WS := ws_in 250 rfl rfl
set_option maxRecDepth 100000 in
theorem tw_275 : Cond.castable "java/lang/IllegalArgumentException" "java/lang/IllegalArgumentException" ∈ NWS := nws_in 275 rfl rfl
set_option maxRecDepth 100000 in
theorem tw_344 : Cond.castable "java/lang/UnsupportedOperationException" "java/lang/UnsupportedOperationException" ∈ NWS := nws_in 344 rfl rfl
set_option maxRecDepth 100000 in
theorem tw_364 : Cond.codeWith ({ cls := "PlainWarehouseLaw", name := "stock", desc := "(LPlainWarehouse;II[J)I" } : MethodName) method_4_code (5 : Nat) (Option.some FieldType.int) [((0 : Nat), (10 : Nat), (13 : Nat), (13 : Nat))] ∈ WS := ws_in 364 rfl rfl
set_option maxRecDepth 100000 in
theorem tw_365 : Cond.methodLink "PlainWarehouseLaw" (17 : Nat) ({ cls := "PlainWarehouse", name := "stock", desc := "(II)I" } : MethodName) ∈ WS := ws_in 365 rfl rfl
set_option maxRecDepth 100000 in
theorem tw_366 : Cond.instanceMethod ({ cls := "PlainWarehouse", name := "stock", desc := "(II)I" } : MethodName) ∈ WS := ws_in 366 rfl rfl
set_option maxRecDepth 100000 in
theorem tw_367 : Cond.selects "PlainWarehouse" ({ cls := "PlainWarehouse", name := "stock", desc := "(II)I" } : MethodName) ({ cls := "PlainWarehouse", name := "stock", desc := "(II)I" } : MethodName) ∈ WS := ws_in 367 rfl rfl
set_option maxRecDepth 100000 in
theorem tw_373 : Cond.codeWith ({ cls := "PlainWarehouseLaw", name := "where", desc := "(LPlainWarehouse;II[J)I" } : MethodName) method_5_code (5 : Nat) (Option.some FieldType.int) [((0 : Nat), (10 : Nat), (13 : Nat), (24 : Nat)), ((0 : Nat), (10 : Nat), (17 : Nat), (13 : Nat))] ∈ WS := ws_in 373 rfl rfl
set_option maxRecDepth 100000 in
theorem tw_374 : Cond.classLink "PlainWarehouseLaw" (24 : Nat) "java/util/NoSuchElementException" ∈ WS := ws_in 374 rfl rfl
set_option maxRecDepth 100000 in
theorem tw_375 : Cond.methodLink "PlainWarehouseLaw" (21 : Nat) ({ cls := "PlainWarehouse", name := "where", desc := "(II)I" } : MethodName) ∈ WS := ws_in 375 rfl rfl
set_option maxRecDepth 100000 in
theorem tw_376 : Cond.instanceMethod ({ cls := "PlainWarehouse", name := "where", desc := "(II)I" } : MethodName) ∈ WS := ws_in 376 rfl rfl
set_option maxRecDepth 100000 in
theorem tw_377 : Cond.selects "PlainWarehouse" ({ cls := "PlainWarehouse", name := "where", desc := "(II)I" } : MethodName) ({ cls := "PlainWarehouse", name := "where", desc := "(II)I" } : MethodName) ∈ WS := ws_in 377 rfl rfl
set_option maxRecDepth 100000 in
theorem tw_385 : Cond.castable "java/util/NoSuchElementException" "java/util/NoSuchElementException" ∈ NWS := nws_in 385 rfl rfl
set_option maxRecDepth 100000 in
theorem tw_402 : Cond.codeWith ({ cls := "PlainWarehouseLaw", name := "order", desc := "(LPlainWarehouse;II[J)I" } : MethodName) method_6_code (5 : Nat) (Option.some FieldType.int) [((0 : Nat), (10 : Nat), (13 : Nat), (24 : Nat)), ((0 : Nat), (10 : Nat), (17 : Nat), (13 : Nat))] ∈ WS := ws_in 402 rfl rfl
set_option maxRecDepth 100000 in
theorem tw_403 : Cond.methodLink "PlainWarehouseLaw" (26 : Nat) ({ cls := "PlainWarehouse", name := "order", desc := "(II)I" } : MethodName) ∈ WS := ws_in 403 rfl rfl
set_option maxRecDepth 100000 in
theorem tw_404 : Cond.instanceMethod ({ cls := "PlainWarehouse", name := "order", desc := "(II)I" } : MethodName) ∈ WS := ws_in 404 rfl rfl
set_option maxRecDepth 100000 in
theorem tw_405 : Cond.selects "PlainWarehouse" ({ cls := "PlainWarehouse", name := "order", desc := "(II)I" } : MethodName) ({ cls := "PlainWarehouse", name := "order", desc := "(II)I" } : MethodName) ∈ WS := ws_in 405 rfl rfl
set_option maxRecDepth 100000 in
theorem tw_417 : Cond.codeWith ({ cls := "PlainWarehouseLaw", name := "promise", desc := "(LPlainWarehouse;I[J)I" } : MethodName) method_7_code (4 : Nat) (Option.some FieldType.int) [((0 : Nat), (9 : Nat), (12 : Nat), (24 : Nat))] ∈ WS := ws_in 417 rfl rfl
set_option maxRecDepth 100000 in
theorem tw_418 : Cond.methodLink "PlainWarehouseLaw" (29 : Nat) ({ cls := "PlainWarehouse", name := "promise", desc := "(I)I" } : MethodName) ∈ WS := ws_in 418 rfl rfl
set_option maxRecDepth 100000 in
theorem tw_419 : Cond.instanceMethod ({ cls := "PlainWarehouse", name := "promise", desc := "(I)I" } : MethodName) ∈ WS := ws_in 419 rfl rfl
set_option maxRecDepth 100000 in
theorem tw_420 : Cond.selects "PlainWarehouse" ({ cls := "PlainWarehouse", name := "promise", desc := "(I)I" } : MethodName) ({ cls := "PlainWarehouse", name := "promise", desc := "(I)I" } : MethodName) ∈ WS := ws_in 420 rfl rfl
set_option maxRecDepth 100000 in
theorem tw_461 : Cond.codeWith ({ cls := "PlainWarehouseLaw", name := "way", desc := "(LPlainWarehouse;II[J)I" } : MethodName) method_8_code (5 : Nat) (Option.some FieldType.int) [((0 : Nat), (10 : Nat), (13 : Nat), (13 : Nat))] ∈ WS := ws_in 461 rfl rfl
set_option maxRecDepth 100000 in
theorem tw_462 : Cond.methodLink "PlainWarehouseLaw" (33 : Nat) ({ cls := "PlainWarehouse", name := "way", desc := "(II)I" } : MethodName) ∈ WS := ws_in 462 rfl rfl
set_option maxRecDepth 100000 in
theorem tw_463 : Cond.instanceMethod ({ cls := "PlainWarehouse", name := "way", desc := "(II)I" } : MethodName) ∈ WS := ws_in 463 rfl rfl
set_option maxRecDepth 100000 in
theorem tw_464 : Cond.selects "PlainWarehouse" ({ cls := "PlainWarehouse", name := "way", desc := "(II)I" } : MethodName) ({ cls := "PlainWarehouse", name := "way", desc := "(II)I" } : MethodName) ∈ WS := ws_in 464 rfl rfl
set_option maxRecDepth 100000 in
theorem tw_493 : Cond.codeWith ({ cls := "PlainWarehouseLaw", name := "walk", desc := "(LPlainWarehouse;II[J)I" } : MethodName) method_9_code (5 : Nat) (Option.some FieldType.int) [((0 : Nat), (10 : Nat), (13 : Nat), (24 : Nat)), ((0 : Nat), (10 : Nat), (17 : Nat), (13 : Nat))] ∈ WS := ws_in 493 rfl rfl
set_option maxRecDepth 100000 in
theorem tw_494 : Cond.methodLink "PlainWarehouseLaw" (36 : Nat) ({ cls := "PlainWarehouse", name := "walk", desc := "(II)I" } : MethodName) ∈ WS := ws_in 494 rfl rfl
set_option maxRecDepth 100000 in
theorem tw_495 : Cond.instanceMethod ({ cls := "PlainWarehouse", name := "walk", desc := "(II)I" } : MethodName) ∈ WS := ws_in 495 rfl rfl
set_option maxRecDepth 100000 in
theorem tw_496 : Cond.selects "PlainWarehouse" ({ cls := "PlainWarehouse", name := "walk", desc := "(II)I" } : MethodName) ({ cls := "PlainWarehouse", name := "walk", desc := "(II)I" } : MethodName) ∈ WS := ws_in 496 rfl rfl
set_option maxRecDepth 100000 in
theorem tw_512 : Cond.codeWith ({ cls := "PlainWarehouseLaw", name := "money", desc := "(LPlainWarehouse;II[J)I" } : MethodName) method_10_code (5 : Nat) (Option.some FieldType.int) [((0 : Nat), (10 : Nat), (13 : Nat), (24 : Nat)), ((0 : Nat), (10 : Nat), (17 : Nat), (13 : Nat))] ∈ WS := ws_in 512 rfl rfl
set_option maxRecDepth 100000 in
theorem tw_513 : Cond.methodLink "PlainWarehouseLaw" (39 : Nat) ({ cls := "PlainWarehouse", name := "money", desc := "(II)I" } : MethodName) ∈ WS := ws_in 513 rfl rfl
set_option maxRecDepth 100000 in
theorem tw_514 : Cond.instanceMethod ({ cls := "PlainWarehouse", name := "money", desc := "(II)I" } : MethodName) ∈ WS := ws_in 514 rfl rfl
set_option maxRecDepth 100000 in
theorem tw_515 : Cond.selects "PlainWarehouse" ({ cls := "PlainWarehouse", name := "money", desc := "(II)I" } : MethodName) ({ cls := "PlainWarehouse", name := "money", desc := "(II)I" } : MethodName) ∈ WS := ws_in 515 rfl rfl
set_option maxRecDepth 100000 in
theorem tw_520 : Cond.codeWith ({ cls := "PlainWarehouseLaw", name := "needs", desc := "(LPlainWarehouse;I[J)I" } : MethodName) method_11_code (4 : Nat) (Option.some FieldType.int) [((0 : Nat), (9 : Nat), (12 : Nat), (24 : Nat))] ∈ WS := ws_in 520 rfl rfl
set_option maxRecDepth 100000 in
theorem tw_521 : Cond.methodLink "PlainWarehouseLaw" (42 : Nat) ({ cls := "PlainWarehouse", name := "needs", desc := "(I)I" } : MethodName) ∈ WS := ws_in 521 rfl rfl
set_option maxRecDepth 100000 in
theorem tw_522 : Cond.instanceMethod ({ cls := "PlainWarehouse", name := "needs", desc := "(I)I" } : MethodName) ∈ WS := ws_in 522 rfl rfl
set_option maxRecDepth 100000 in
theorem tw_523 : Cond.selects "PlainWarehouse" ({ cls := "PlainWarehouse", name := "needs", desc := "(I)I" } : MethodName) ({ cls := "PlainWarehouse", name := "needs", desc := "(I)I" } : MethodName) ∈ WS := ws_in 523 rfl rfl
set_option maxRecDepth 100000 in
theorem tw_532 : Cond.codeWith ({ cls := "PlainWarehouseLaw", name := "explained", desc := "(LPlainWarehouse;I[J)I" } : MethodName) method_12_code (4 : Nat) (Option.some FieldType.int) [((0 : Nat), (9 : Nat), (12 : Nat), (24 : Nat))] ∈ WS := ws_in 532 rfl rfl
set_option maxRecDepth 100000 in
theorem tw_533 : Cond.methodLink "PlainWarehouseLaw" (45 : Nat) ({ cls := "PlainWarehouse", name := "explained", desc := "(I)I" } : MethodName) ∈ WS := ws_in 533 rfl rfl
set_option maxRecDepth 100000 in
theorem tw_534 : Cond.instanceMethod ({ cls := "PlainWarehouse", name := "explained", desc := "(I)I" } : MethodName) ∈ WS := ws_in 534 rfl rfl
set_option maxRecDepth 100000 in
theorem tw_535 : Cond.selects "PlainWarehouse" ({ cls := "PlainWarehouse", name := "explained", desc := "(I)I" } : MethodName) ({ cls := "PlainWarehouse", name := "explained", desc := "(I)I" } : MethodName) ∈ WS := ws_in 535 rfl rfl
set_option maxRecDepth 100000 in
theorem tw_539 : Cond.codeWith ({ cls := "PlainWarehouseLaw", name := "told", desc := "(LPlainWarehouse;II[J)I" } : MethodName) method_13_code (5 : Nat) (Option.some FieldType.int) [((0 : Nat), (10 : Nat), (13 : Nat), (24 : Nat)), ((0 : Nat), (10 : Nat), (17 : Nat), (13 : Nat))] ∈ WS := ws_in 539 rfl rfl
set_option maxRecDepth 100000 in
theorem tw_540 : Cond.methodLink "PlainWarehouseLaw" (48 : Nat) ({ cls := "PlainWarehouse", name := "told", desc := "(II)I" } : MethodName) ∈ WS := ws_in 540 rfl rfl
set_option maxRecDepth 100000 in
theorem tw_541 : Cond.instanceMethod ({ cls := "PlainWarehouse", name := "told", desc := "(II)I" } : MethodName) ∈ WS := ws_in 541 rfl rfl
set_option maxRecDepth 100000 in
theorem tw_542 : Cond.selects "PlainWarehouse" ({ cls := "PlainWarehouse", name := "told", desc := "(II)I" } : MethodName) ({ cls := "PlainWarehouse", name := "told", desc := "(II)I" } : MethodName) ∈ WS := ws_in 542 rfl rfl
set_option maxRecDepth 100000 in
theorem tw_547 : Cond.codeWith ({ cls := "PlainWarehouseLaw", name := "back", desc := "(LPlainWarehouse;)I" } : MethodName) method_14_code (2 : Nat) (Option.some FieldType.int) [((0 : Nat), (4 : Nat), (7 : Nat), (54 : Nat))] ∈ WS := ws_in 547 rfl rfl
set_option maxRecDepth 100000 in
theorem tw_548 : Cond.classLink "PlainWarehouseLaw" (54 : Nat) "java/lang/IllegalStateException" ∈ WS := ws_in 548 rfl rfl
set_option maxRecDepth 100000 in
theorem tw_549 : Cond.methodLink "PlainWarehouseLaw" (51 : Nat) ({ cls := "PlainWarehouse", name := "back", desc := "()V" } : MethodName) ∈ WS := ws_in 549 rfl rfl
set_option maxRecDepth 100000 in
theorem tw_550 : Cond.instanceMethod ({ cls := "PlainWarehouse", name := "back", desc := "()V" } : MethodName) ∈ WS := ws_in 550 rfl rfl
set_option maxRecDepth 100000 in
theorem tw_551 : Cond.selects "PlainWarehouse" ({ cls := "PlainWarehouse", name := "back", desc := "()V" } : MethodName) ({ cls := "PlainWarehouse", name := "back", desc := "()V" } : MethodName) ∈ WS := ws_in 551 rfl rfl
set_option maxRecDepth 100000 in
theorem tw_555 : Cond.castable "java/lang/IllegalStateException" "java/lang/IllegalStateException" ∈ NWS := nws_in 555 rfl rfl
abbrev ws_L_event : List Cond := Cond.codeWith y_L_event cc_L_event 7 (some .int) [(0, 14, 17, 13), (0, 14, 21, 15)] :: WS
theorem kf_L_event : Cond.codeWith y_L_event cc_L_event 7 (some .int) [(0, 14, 17, 13), (0, 14, 21, 15)] ∈ WS ∧ Cond.initialized y_L_event.cls ∈ WS ∧ (y_L_event.cls ≠ "java/lang/invoke/MethodHandle" ∧ y_L_event.cls ≠ "java/lang/invoke/VarHandle" ∧ (parseMethodDescriptor y_L_event.desc).map (fun d => d.parameters.length) = some 6) := ⟨tw_245, tw_46, by decide +kernel⟩
def rm_L_event : Room := { frames := 9, cells := 1, slots := 6, locals := 224 }
def m_L_event (a1 : Int32) (a2 : Int32) (a3 : Int32) (a4 : Int32) (σ : SP) (f : Nat → Int64) : Option (Int32 × SP × (Nat → Int64)) :=
  (mb3 (m_P_event a1 a2 a3 a4 σ) fun r ex σ1 => (if ex = "" then (mck 1 (0 : Int32) (mlet (vp_updL f (0 : Int32).toNatClampNeg r.toInt64) fun f1 => some (0, σ1, f1))) else (if ex = "java/lang/IllegalArgumentException" then some (1, σ1, f) else (if ex = "java/lang/UnsupportedOperationException" then some (2, σ1, f) else none))))
set_option maxHeartbeats 4000000 in
set_option maxRecDepth 100000 in
theorem w_L_event {x : JX} {ad bd : Nat → Nat} {cA cL : ClassId} {μ : SM} {qo : Nat} (C : jC x cc_L_event 7 "PlainWarehouseLaw") (hT : (jT x)[0]? = some (cA, .int)) (hTL : (jT x)[1]? = some (cL, .long)) (hR : jR x = rm_L_event) (Y : jYL x) (hX : (jc x).exceptionTable.toList.map (fun h => (h.startPc, h.endPc, h.handlerPc, h.catchType)) = [(0, 14, 17, 13), (0, 14, 21, 15)]) (a1 : Int32) (a2 : Int32) (a3 : Int32) (a4 : Int32) (σ : SP) (f : Nat → Int64) {r : Int32} {σ' : SP} {f' : Nat → Int64} (hr : (jt x).sig.returnType = some .int) (E : jEL x 1 6 (some (.int r)) ((wP ad cA σ') ++ ((wM bd cA μ) ++ [(qo, .inl (cL, 1, .inr (.inl f')))]))) (h : m_L_event a1 a2 a3 a4 σ f = some (r, σ', f')) : jW x 7 0 0 0 [(0, .ref (ad 0)), (1, .int a1), (2, .int a2), (3, .int a3), (4, .int a4), (5, .ref qo)] [] ((wP ad cA σ) ++ ((wM bd cA μ) ++ [(qo, .inl (cL, 1, .inr (.inl f)))])) := by
  unfold m_L_event at h
  refine j_aload C 5 d_L_event_0 rfl rfl ?_
  refine j_iconst (v := 0) C d_L_event_2 rfl (by decide) ?_
  refine j_aload_n C 0 d_L_event_3 rfl rfl rfl ?_
  refine j_iload_n C 1 d_L_event_4 rfl rfl rfl ?_
  refine j_iload_n C 2 d_L_event_5 rfl rfl rfl ?_
  refine j_iload_n C 3 d_L_event_6 rfl rfl rfl ?_
  refine j_iload C 4 d_L_event_7 rfl rfl ?_
  obtain ⟨r, ex, σ1, h1, h⟩ := mb3_some h
  refine jx_callV C Y hR (As := [.int a1, .int a2, .int a3, .int a4]) (ct_P_event (jl x) (jD x) (jT x) hT Y.1 a1 a2 a3 a4 σ h1) kf_P_event (by decide) tw_248 tw_249 tw_250 0 rfl rfl (rest := [.int 0, .ref qo]) rfl rfl (Nat.le_of_ble_eq_true rfl) (by decide) d_L_event_9 (fun e0 => ?_) (fun e0 => ?_)
  · rw [if_pos e0] at h
    refine j_i2l C d_L_event_12 rfl ?_
    refine j_last C (fun t => (wP ad cA σ1) ++ ((wM bd cA μ) ++ [(qo, .inl (cL, 1, .inr (.inl t)))])) 34 1 rfl hTL d_L_event_13 rfl h rfl (fun f1 h => ?_)
    refine j_goto (tgt := 25) C d_L_event_14 (by decide) ?_
    refine j_iconst (v := 0) C d_L_event_25 rfl (by decide) ?_
    cases h
    exact jl_iret C E (by decide) (by decide) hr d_L_event_26
  · rw [if_neg e0] at h
    by_cases e1 : ex = "java/lang/IllegalArgumentException"
    · subst e1
      rw [if_pos rfl] at h
      refine jx_caught C hX [] (0, 14, 17, 13) [(0, 14, 21, 15)] rfl (fun z hz => nomatch hz) (by decide) (by decide) tw_246 tw_275 (fun q => ?_)
      refine j_astore (lv' := [(6, .ref q), (0, .ref (ad 0)), (1, .int a1), (2, .int a2), (3, .int a3), (4, .int a4), (5, .ref qo)]) C d_L_event_17 rfl (by decide) rfl ?_
      refine j_iconst (v := 1) C d_L_event_19 rfl (by decide) ?_
      cases h
      exact jl_iret C E (by decide) (by decide) hr d_L_event_20
    · rw [if_neg e1] at h
      clear e1
      by_cases e1 : ex = "java/lang/UnsupportedOperationException"
      · subst e1
        rw [if_pos rfl] at h
        refine jx_caught C hX [(0, 14, 17, 13)] (0, 14, 21, 15) [] rfl (fun z hz => by cases List.mem_singleton.mp hz; exact ⟨by decide, "java/lang/IllegalArgumentException", tw_246, Y.2.2.2 ("java/lang/UnsupportedOperationException", "java/lang/IllegalArgumentException") (by decide)⟩) (by decide) (by decide) tw_247 tw_344 (fun q => ?_)
        refine j_astore (lv' := [(6, .ref q), (0, .ref (ad 0)), (1, .int a1), (2, .int a2), (3, .int a3), (4, .int a4), (5, .ref qo)]) C d_L_event_21 rfl (by decide) rfl ?_
        refine j_iconst (v := 2) C d_L_event_23 rfl (by decide) ?_
        cases h
        exact jl_iret C E (by decide) (by decide) hr d_L_event_24
      · rw [if_neg e1] at h
        cases h
theorem ct_L_event (l : Launch) (D : va_G) (tys : List (ClassId × FieldType)) {ad bd : Nat → Nat} {cA cL : ClassId} {μ : SM} {qo : Nat} (hT : tys[0]? = some (cA, .int)) (hTL : tys[1]? = some (cL, .long)) (hl : l.stackTraces = false) (a1 : Int32) (a2 : Int32) (a3 : Int32) (a4 : Int32) (σ : SP) (f : Nat → Int64) {r : Int32} {σ' : SP} {f' : Nat → Int64} (h : m_L_event a1 a2 a3 a4 σ f = some (r, σ', f')) : jLM l y_L_event ws_L_event rm_L_event D tys [.ref (ad 0), .int a1, .int a2, .int a3, .int a4, .ref qo] ((wP ad cA σ) ++ ((wM bd cA μ) ++ [(qo, .inl (cL, 1, .inr (.inl f)))])) (some (.int r)) ((wP ad cA σ') ++ ((wM bd cA μ) ++ [(qo, .inl (cL, 1, .inr (.inl f')))])) :=
  jl_of hl (by decide +kernel) rfl (Nat.le_of_ble_eq_true rfl) rfl (fun x _ _ hT' hR C Y hX hr E => w_L_event C (by rw [hT']; exact hT) (by rw [hT']; exact hTL) hR Y hX a1 a2 a3 a4 σ f hr E h)
abbrev ws_L_stock : List Cond := Cond.codeWith y_L_stock cc_L_stock 5 (some .int) [(0, 10, 13, 13)] :: WS
theorem kf_L_stock : Cond.codeWith y_L_stock cc_L_stock 5 (some .int) [(0, 10, 13, 13)] ∈ WS ∧ Cond.initialized y_L_stock.cls ∈ WS ∧ (y_L_stock.cls ≠ "java/lang/invoke/MethodHandle" ∧ y_L_stock.cls ≠ "java/lang/invoke/VarHandle" ∧ (parseMethodDescriptor y_L_stock.desc).map (fun d => d.parameters.length) = some 4) := ⟨tw_364, tw_46, by decide +kernel⟩
def rm_L_stock : Room := { frames := 9, cells := 1, slots := 6, locals := 222 }
def m_L_stock (a1 : Int32) (a2 : Int32) (σ : SP) (f : Nat → Int64) : Option (Int32 × SP × (Nat → Int64)) :=
  (mb3 (m_P_stock a1 a2 σ) fun r ex σ1 => (if ex = "" then (mck 1 (0 : Int32) (mlet (vp_updL f (0 : Int32).toNatClampNeg r.toInt64) fun f1 => some (0, σ1, f1))) else (if ex = "java/lang/IllegalArgumentException" then some (1, σ1, f) else none)))
set_option maxHeartbeats 4000000 in
set_option maxRecDepth 100000 in
theorem w_L_stock {x : JX} {ad bd : Nat → Nat} {cA cL : ClassId} {μ : SM} {qo : Nat} (C : jC x cc_L_stock 5 "PlainWarehouseLaw") (hT : (jT x)[0]? = some (cA, .int)) (hTL : (jT x)[1]? = some (cL, .long)) (hR : jR x = rm_L_stock) (Y : jYL x) (hX : (jc x).exceptionTable.toList.map (fun h => (h.startPc, h.endPc, h.handlerPc, h.catchType)) = [(0, 10, 13, 13)]) (a1 : Int32) (a2 : Int32) (σ : SP) (f : Nat → Int64) {r : Int32} {σ' : SP} {f' : Nat → Int64} (hr : (jt x).sig.returnType = some .int) (E : jEL x 1 6 (some (.int r)) ((wP ad cA σ') ++ ((wM bd cA μ) ++ [(qo, .inl (cL, 1, .inr (.inl f')))]))) (h : m_L_stock a1 a2 σ f = some (r, σ', f')) : jW x 5 0 0 0 [(0, .ref (ad 0)), (1, .int a1), (2, .int a2), (3, .ref qo)] [] ((wP ad cA σ) ++ ((wM bd cA μ) ++ [(qo, .inl (cL, 1, .inr (.inl f)))])) := by
  unfold m_L_stock at h
  refine j_aload_n C 3 d_L_stock_0 rfl rfl rfl ?_
  refine j_iconst (v := 0) C d_L_stock_1 rfl (by decide) ?_
  refine j_aload_n C 0 d_L_stock_2 rfl rfl rfl ?_
  refine j_iload_n C 1 d_L_stock_3 rfl rfl rfl ?_
  refine j_iload_n C 2 d_L_stock_4 rfl rfl rfl ?_
  obtain ⟨r, ex, σ1, h1, h⟩ := mb3_some h
  refine jx_callV C Y hR (As := [.int a1, .int a2]) (ct_P_stock (jl x) (jD x) (jT x) hT Y.1 a1 a2 σ h1) kf_P_stock (by decide) tw_365 tw_366 tw_367 0 rfl rfl (rest := [.int 0, .ref qo]) rfl rfl (Nat.le_of_ble_eq_true rfl) (by decide) d_L_stock_5 (fun e0 => ?_) (fun e0 => ?_)
  · rw [if_pos e0] at h
    refine j_i2l C d_L_stock_8 rfl ?_
    refine j_last C (fun t => (wP ad cA σ1) ++ ((wM bd cA μ) ++ [(qo, .inl (cL, 1, .inr (.inl t)))])) 34 1 rfl hTL d_L_stock_9 rfl h rfl (fun f1 h => ?_)
    refine j_goto (tgt := 17) C d_L_stock_10 (by decide) ?_
    refine j_iconst (v := 0) C d_L_stock_17 rfl (by decide) ?_
    cases h
    exact jl_iret C E (by decide) (by decide) hr d_L_stock_18
  · rw [if_neg e0] at h
    by_cases e1 : ex = "java/lang/IllegalArgumentException"
    · subst e1
      rw [if_pos rfl] at h
      refine jx_caught C hX [] (0, 10, 13, 13) [] rfl (fun z hz => nomatch hz) (by decide) (by decide) tw_246 tw_275 (fun q => ?_)
      refine j_astore (lv' := [(4, .ref q), (0, .ref (ad 0)), (1, .int a1), (2, .int a2), (3, .ref qo)]) C d_L_stock_13 rfl (by decide) rfl ?_
      refine j_iconst (v := 1) C d_L_stock_15 rfl (by decide) ?_
      cases h
      exact jl_iret C E (by decide) (by decide) hr d_L_stock_16
    · rw [if_neg e1] at h
      cases h
theorem ct_L_stock (l : Launch) (D : va_G) (tys : List (ClassId × FieldType)) {ad bd : Nat → Nat} {cA cL : ClassId} {μ : SM} {qo : Nat} (hT : tys[0]? = some (cA, .int)) (hTL : tys[1]? = some (cL, .long)) (hl : l.stackTraces = false) (a1 : Int32) (a2 : Int32) (σ : SP) (f : Nat → Int64) {r : Int32} {σ' : SP} {f' : Nat → Int64} (h : m_L_stock a1 a2 σ f = some (r, σ', f')) : jLM l y_L_stock ws_L_stock rm_L_stock D tys [.ref (ad 0), .int a1, .int a2, .ref qo] ((wP ad cA σ) ++ ((wM bd cA μ) ++ [(qo, .inl (cL, 1, .inr (.inl f)))])) (some (.int r)) ((wP ad cA σ') ++ ((wM bd cA μ) ++ [(qo, .inl (cL, 1, .inr (.inl f')))])) :=
  jl_of hl (by decide +kernel) rfl (Nat.le_of_ble_eq_true rfl) rfl (fun x _ _ hT' hR C Y hX hr E => w_L_stock C (by rw [hT']; exact hT) (by rw [hT']; exact hTL) hR Y hX a1 a2 σ f hr E h)
abbrev ws_L_where : List Cond := Cond.codeWith y_L_where cc_L_where 5 (some .int) [(0, 10, 13, 24), (0, 10, 17, 13)] :: WS
theorem kf_L_where : Cond.codeWith y_L_where cc_L_where 5 (some .int) [(0, 10, 13, 24), (0, 10, 17, 13)] ∈ WS ∧ Cond.initialized y_L_where.cls ∈ WS ∧ (y_L_where.cls ≠ "java/lang/invoke/MethodHandle" ∧ y_L_where.cls ≠ "java/lang/invoke/VarHandle" ∧ (parseMethodDescriptor y_L_where.desc).map (fun d => d.parameters.length) = some 4) := ⟨tw_373, tw_46, by decide +kernel⟩
def rm_L_where : Room := { frames := 9, cells := 1, slots := 6, locals := 222 }
def m_L_where (a1 : Int32) (a2 : Int32) (σ : SP) (f : Nat → Int64) : Option (Int32 × SP × (Nat → Int64)) :=
  (mb3 (m_P_where a1 a2 σ) fun r ex σ1 => (if ex = "" then (mck 1 (0 : Int32) (mlet (vp_updL f (0 : Int32).toNatClampNeg r.toInt64) fun f1 => some (0, σ1, f1))) else (if ex = "java/util/NoSuchElementException" then some (1, σ1, f) else (if ex = "java/lang/IllegalArgumentException" then some (2, σ1, f) else none))))
set_option maxHeartbeats 4000000 in
set_option maxRecDepth 100000 in
theorem w_L_where {x : JX} {ad bd : Nat → Nat} {cA cL : ClassId} {μ : SM} {qo : Nat} (C : jC x cc_L_where 5 "PlainWarehouseLaw") (hT : (jT x)[0]? = some (cA, .int)) (hTL : (jT x)[1]? = some (cL, .long)) (hR : jR x = rm_L_where) (Y : jYL x) (hX : (jc x).exceptionTable.toList.map (fun h => (h.startPc, h.endPc, h.handlerPc, h.catchType)) = [(0, 10, 13, 24), (0, 10, 17, 13)]) (a1 : Int32) (a2 : Int32) (σ : SP) (f : Nat → Int64) {r : Int32} {σ' : SP} {f' : Nat → Int64} (hr : (jt x).sig.returnType = some .int) (E : jEL x 1 6 (some (.int r)) ((wP ad cA σ') ++ ((wM bd cA μ) ++ [(qo, .inl (cL, 1, .inr (.inl f')))]))) (h : m_L_where a1 a2 σ f = some (r, σ', f')) : jW x 5 0 0 0 [(0, .ref (ad 0)), (1, .int a1), (2, .int a2), (3, .ref qo)] [] ((wP ad cA σ) ++ ((wM bd cA μ) ++ [(qo, .inl (cL, 1, .inr (.inl f)))])) := by
  unfold m_L_where at h
  refine j_aload_n C 3 d_L_where_0 rfl rfl rfl ?_
  refine j_iconst (v := 0) C d_L_where_1 rfl (by decide) ?_
  refine j_aload_n C 0 d_L_where_2 rfl rfl rfl ?_
  refine j_iload_n C 1 d_L_where_3 rfl rfl rfl ?_
  refine j_iload_n C 2 d_L_where_4 rfl rfl rfl ?_
  obtain ⟨r, ex, σ1, h1, h⟩ := mb3_some h
  refine jx_callV C Y hR (As := [.int a1, .int a2]) (ct_P_where (jl x) (jD x) (jT x) hT Y.1 a1 a2 σ h1) kf_P_where (by decide) tw_375 tw_376 tw_377 0 rfl rfl (rest := [.int 0, .ref qo]) rfl rfl (Nat.le_of_ble_eq_true rfl) (by decide) d_L_where_5 (fun e0 => ?_) (fun e0 => ?_)
  · rw [if_pos e0] at h
    refine j_i2l C d_L_where_8 rfl ?_
    refine j_last C (fun t => (wP ad cA σ1) ++ ((wM bd cA μ) ++ [(qo, .inl (cL, 1, .inr (.inl t)))])) 34 1 rfl hTL d_L_where_9 rfl h rfl (fun f1 h => ?_)
    refine j_goto (tgt := 21) C d_L_where_10 (by decide) ?_
    refine j_iconst (v := 0) C d_L_where_21 rfl (by decide) ?_
    cases h
    exact jl_iret C E (by decide) (by decide) hr d_L_where_22
  · rw [if_neg e0] at h
    by_cases e1 : ex = "java/util/NoSuchElementException"
    · subst e1
      rw [if_pos rfl] at h
      refine jx_caught C hX [] (0, 10, 13, 24) [(0, 10, 17, 13)] rfl (fun z hz => nomatch hz) (by decide) (by decide) tw_374 tw_385 (fun q => ?_)
      refine j_astore (lv' := [(4, .ref q), (0, .ref (ad 0)), (1, .int a1), (2, .int a2), (3, .ref qo)]) C d_L_where_13 rfl (by decide) rfl ?_
      refine j_iconst (v := 1) C d_L_where_15 rfl (by decide) ?_
      cases h
      exact jl_iret C E (by decide) (by decide) hr d_L_where_16
    · rw [if_neg e1] at h
      clear e1
      by_cases e1 : ex = "java/lang/IllegalArgumentException"
      · subst e1
        rw [if_pos rfl] at h
        refine jx_caught C hX [(0, 10, 13, 24)] (0, 10, 17, 13) [] rfl (fun z hz => by cases List.mem_singleton.mp hz; exact ⟨by decide, "java/util/NoSuchElementException", tw_374, Y.2.2.2 ("java/lang/IllegalArgumentException", "java/util/NoSuchElementException") (by decide)⟩) (by decide) (by decide) tw_246 tw_275 (fun q => ?_)
        refine j_astore (lv' := [(4, .ref q), (0, .ref (ad 0)), (1, .int a1), (2, .int a2), (3, .ref qo)]) C d_L_where_17 rfl (by decide) rfl ?_
        refine j_iconst (v := 2) C d_L_where_19 rfl (by decide) ?_
        cases h
        exact jl_iret C E (by decide) (by decide) hr d_L_where_20
      · rw [if_neg e1] at h
        cases h
theorem ct_L_where (l : Launch) (D : va_G) (tys : List (ClassId × FieldType)) {ad bd : Nat → Nat} {cA cL : ClassId} {μ : SM} {qo : Nat} (hT : tys[0]? = some (cA, .int)) (hTL : tys[1]? = some (cL, .long)) (hl : l.stackTraces = false) (a1 : Int32) (a2 : Int32) (σ : SP) (f : Nat → Int64) {r : Int32} {σ' : SP} {f' : Nat → Int64} (h : m_L_where a1 a2 σ f = some (r, σ', f')) : jLM l y_L_where ws_L_where rm_L_where D tys [.ref (ad 0), .int a1, .int a2, .ref qo] ((wP ad cA σ) ++ ((wM bd cA μ) ++ [(qo, .inl (cL, 1, .inr (.inl f)))])) (some (.int r)) ((wP ad cA σ') ++ ((wM bd cA μ) ++ [(qo, .inl (cL, 1, .inr (.inl f')))])) :=
  jl_of hl (by decide +kernel) rfl (Nat.le_of_ble_eq_true rfl) rfl (fun x _ _ hT' hR C Y hX hr E => w_L_where C (by rw [hT']; exact hT) (by rw [hT']; exact hTL) hR Y hX a1 a2 σ f hr E h)
abbrev ws_L_order : List Cond := Cond.codeWith y_L_order cc_L_order 5 (some .int) [(0, 10, 13, 24), (0, 10, 17, 13)] :: WS
theorem kf_L_order : Cond.codeWith y_L_order cc_L_order 5 (some .int) [(0, 10, 13, 24), (0, 10, 17, 13)] ∈ WS ∧ Cond.initialized y_L_order.cls ∈ WS ∧ (y_L_order.cls ≠ "java/lang/invoke/MethodHandle" ∧ y_L_order.cls ≠ "java/lang/invoke/VarHandle" ∧ (parseMethodDescriptor y_L_order.desc).map (fun d => d.parameters.length) = some 4) := ⟨tw_402, tw_46, by decide +kernel⟩
def rm_L_order : Room := { frames := 9, cells := 1, slots := 6, locals := 222 }
def m_L_order (a1 : Int32) (a2 : Int32) (σ : SP) (f : Nat → Int64) : Option (Int32 × SP × (Nat → Int64)) :=
  (mb3 (m_P_order a1 a2 σ) fun r ex σ1 => (if ex = "" then (mck 1 (0 : Int32) (mlet (vp_updL f (0 : Int32).toNatClampNeg r.toInt64) fun f1 => some (0, σ1, f1))) else (if ex = "java/util/NoSuchElementException" then some (1, σ1, f) else (if ex = "java/lang/IllegalArgumentException" then some (2, σ1, f) else none))))
set_option maxHeartbeats 4000000 in
set_option maxRecDepth 100000 in
theorem w_L_order {x : JX} {ad bd : Nat → Nat} {cA cL : ClassId} {μ : SM} {qo : Nat} (C : jC x cc_L_order 5 "PlainWarehouseLaw") (hT : (jT x)[0]? = some (cA, .int)) (hTL : (jT x)[1]? = some (cL, .long)) (hR : jR x = rm_L_order) (Y : jYL x) (hX : (jc x).exceptionTable.toList.map (fun h => (h.startPc, h.endPc, h.handlerPc, h.catchType)) = [(0, 10, 13, 24), (0, 10, 17, 13)]) (a1 : Int32) (a2 : Int32) (σ : SP) (f : Nat → Int64) {r : Int32} {σ' : SP} {f' : Nat → Int64} (hr : (jt x).sig.returnType = some .int) (E : jEL x 1 6 (some (.int r)) ((wP ad cA σ') ++ ((wM bd cA μ) ++ [(qo, .inl (cL, 1, .inr (.inl f')))]))) (h : m_L_order a1 a2 σ f = some (r, σ', f')) : jW x 5 0 0 0 [(0, .ref (ad 0)), (1, .int a1), (2, .int a2), (3, .ref qo)] [] ((wP ad cA σ) ++ ((wM bd cA μ) ++ [(qo, .inl (cL, 1, .inr (.inl f)))])) := by
  unfold m_L_order at h
  refine j_aload_n C 3 d_L_order_0 rfl rfl rfl ?_
  refine j_iconst (v := 0) C d_L_order_1 rfl (by decide) ?_
  refine j_aload_n C 0 d_L_order_2 rfl rfl rfl ?_
  refine j_iload_n C 1 d_L_order_3 rfl rfl rfl ?_
  refine j_iload_n C 2 d_L_order_4 rfl rfl rfl ?_
  obtain ⟨r, ex, σ1, h1, h⟩ := mb3_some h
  refine jx_callV C Y hR (As := [.int a1, .int a2]) (ct_P_order (jl x) (jD x) (jT x) hT Y.1 a1 a2 σ h1) kf_P_order (by decide) tw_403 tw_404 tw_405 0 rfl rfl (rest := [.int 0, .ref qo]) rfl rfl (Nat.le_of_ble_eq_true rfl) (by decide) d_L_order_5 (fun e0 => ?_) (fun e0 => ?_)
  · rw [if_pos e0] at h
    refine j_i2l C d_L_order_8 rfl ?_
    refine j_last C (fun t => (wP ad cA σ1) ++ ((wM bd cA μ) ++ [(qo, .inl (cL, 1, .inr (.inl t)))])) 34 1 rfl hTL d_L_order_9 rfl h rfl (fun f1 h => ?_)
    refine j_goto (tgt := 21) C d_L_order_10 (by decide) ?_
    refine j_iconst (v := 0) C d_L_order_21 rfl (by decide) ?_
    cases h
    exact jl_iret C E (by decide) (by decide) hr d_L_order_22
  · rw [if_neg e0] at h
    by_cases e1 : ex = "java/util/NoSuchElementException"
    · subst e1
      rw [if_pos rfl] at h
      refine jx_caught C hX [] (0, 10, 13, 24) [(0, 10, 17, 13)] rfl (fun z hz => nomatch hz) (by decide) (by decide) tw_374 tw_385 (fun q => ?_)
      refine j_astore (lv' := [(4, .ref q), (0, .ref (ad 0)), (1, .int a1), (2, .int a2), (3, .ref qo)]) C d_L_order_13 rfl (by decide) rfl ?_
      refine j_iconst (v := 1) C d_L_order_15 rfl (by decide) ?_
      cases h
      exact jl_iret C E (by decide) (by decide) hr d_L_order_16
    · rw [if_neg e1] at h
      clear e1
      by_cases e1 : ex = "java/lang/IllegalArgumentException"
      · subst e1
        rw [if_pos rfl] at h
        refine jx_caught C hX [(0, 10, 13, 24)] (0, 10, 17, 13) [] rfl (fun z hz => by cases List.mem_singleton.mp hz; exact ⟨by decide, "java/util/NoSuchElementException", tw_374, Y.2.2.2 ("java/lang/IllegalArgumentException", "java/util/NoSuchElementException") (by decide)⟩) (by decide) (by decide) tw_246 tw_275 (fun q => ?_)
        refine j_astore (lv' := [(4, .ref q), (0, .ref (ad 0)), (1, .int a1), (2, .int a2), (3, .ref qo)]) C d_L_order_17 rfl (by decide) rfl ?_
        refine j_iconst (v := 2) C d_L_order_19 rfl (by decide) ?_
        cases h
        exact jl_iret C E (by decide) (by decide) hr d_L_order_20
      · rw [if_neg e1] at h
        cases h
theorem ct_L_order (l : Launch) (D : va_G) (tys : List (ClassId × FieldType)) {ad bd : Nat → Nat} {cA cL : ClassId} {μ : SM} {qo : Nat} (hT : tys[0]? = some (cA, .int)) (hTL : tys[1]? = some (cL, .long)) (hl : l.stackTraces = false) (a1 : Int32) (a2 : Int32) (σ : SP) (f : Nat → Int64) {r : Int32} {σ' : SP} {f' : Nat → Int64} (h : m_L_order a1 a2 σ f = some (r, σ', f')) : jLM l y_L_order ws_L_order rm_L_order D tys [.ref (ad 0), .int a1, .int a2, .ref qo] ((wP ad cA σ) ++ ((wM bd cA μ) ++ [(qo, .inl (cL, 1, .inr (.inl f)))])) (some (.int r)) ((wP ad cA σ') ++ ((wM bd cA μ) ++ [(qo, .inl (cL, 1, .inr (.inl f')))])) :=
  jl_of hl (by decide +kernel) rfl (Nat.le_of_ble_eq_true rfl) rfl (fun x _ _ hT' hR C Y hX hr E => w_L_order C (by rw [hT']; exact hT) (by rw [hT']; exact hTL) hR Y hX a1 a2 σ f hr E h)
abbrev ws_L_promise : List Cond := Cond.codeWith y_L_promise cc_L_promise 4 (some .int) [(0, 9, 12, 24)] :: WS
theorem kf_L_promise : Cond.codeWith y_L_promise cc_L_promise 4 (some .int) [(0, 9, 12, 24)] ∈ WS ∧ Cond.initialized y_L_promise.cls ∈ WS ∧ (y_L_promise.cls ≠ "java/lang/invoke/MethodHandle" ∧ y_L_promise.cls ≠ "java/lang/invoke/VarHandle" ∧ (parseMethodDescriptor y_L_promise.desc).map (fun d => d.parameters.length) = some 3) := ⟨tw_417, tw_46, by decide +kernel⟩
def rm_L_promise : Room := { frames := 9, cells := 1, slots := 6, locals := 221 }
def m_L_promise (a1 : Int32) (σ : SP) (f : Nat → Int64) : Option (Int32 × SP × (Nat → Int64)) :=
  (mb3 (m_P_promise a1 σ) fun r ex σ1 => (if ex = "" then (mck 1 (0 : Int32) (mlet (vp_updL f (0 : Int32).toNatClampNeg r.toInt64) fun f1 => some (0, σ1, f1))) else (if ex = "java/util/NoSuchElementException" then some (1, σ1, f) else none)))
set_option maxHeartbeats 4000000 in
set_option maxRecDepth 100000 in
theorem w_L_promise {x : JX} {ad bd : Nat → Nat} {cA cL : ClassId} {μ : SM} {qo : Nat} (C : jC x cc_L_promise 4 "PlainWarehouseLaw") (hT : (jT x)[0]? = some (cA, .int)) (hTL : (jT x)[1]? = some (cL, .long)) (hR : jR x = rm_L_promise) (Y : jYL x) (hX : (jc x).exceptionTable.toList.map (fun h => (h.startPc, h.endPc, h.handlerPc, h.catchType)) = [(0, 9, 12, 24)]) (a1 : Int32) (σ : SP) (f : Nat → Int64) {r : Int32} {σ' : SP} {f' : Nat → Int64} (hr : (jt x).sig.returnType = some .int) (E : jEL x 1 6 (some (.int r)) ((wP ad cA σ') ++ ((wM bd cA μ) ++ [(qo, .inl (cL, 1, .inr (.inl f')))]))) (h : m_L_promise a1 σ f = some (r, σ', f')) : jW x 4 0 0 0 [(0, .ref (ad 0)), (1, .int a1), (2, .ref qo)] [] ((wP ad cA σ) ++ ((wM bd cA μ) ++ [(qo, .inl (cL, 1, .inr (.inl f)))])) := by
  unfold m_L_promise at h
  refine j_aload_n C 2 d_L_promise_0 rfl rfl rfl ?_
  refine j_iconst (v := 0) C d_L_promise_1 rfl (by decide) ?_
  refine j_aload_n C 0 d_L_promise_2 rfl rfl rfl ?_
  refine j_iload_n C 1 d_L_promise_3 rfl rfl rfl ?_
  obtain ⟨r, ex, σ1, h1, h⟩ := mb3_some h
  refine jx_callV C Y hR (As := [.int a1]) (ct_P_promise (jl x) (jD x) (jT x) hT Y.1 a1 σ h1) kf_P_promise (by decide) tw_418 tw_419 tw_420 0 rfl rfl (rest := [.int 0, .ref qo]) rfl rfl (Nat.le_of_ble_eq_true rfl) (by decide) d_L_promise_4 (fun e0 => ?_) (fun e0 => ?_)
  · rw [if_pos e0] at h
    refine j_i2l C d_L_promise_7 rfl ?_
    refine j_last C (fun t => (wP ad cA σ1) ++ ((wM bd cA μ) ++ [(qo, .inl (cL, 1, .inr (.inl t)))])) 34 1 rfl hTL d_L_promise_8 rfl h rfl (fun f1 h => ?_)
    refine j_goto (tgt := 15) C d_L_promise_9 (by decide) ?_
    refine j_iconst (v := 0) C d_L_promise_15 rfl (by decide) ?_
    cases h
    exact jl_iret C E (by decide) (by decide) hr d_L_promise_16
  · rw [if_neg e0] at h
    by_cases e1 : ex = "java/util/NoSuchElementException"
    · subst e1
      rw [if_pos rfl] at h
      refine jx_caught C hX [] (0, 9, 12, 24) [] rfl (fun z hz => nomatch hz) (by decide) (by decide) tw_374 tw_385 (fun q => ?_)
      refine j_astore_n (lv' := [(3, .ref q), (0, .ref (ad 0)), (1, .int a1), (2, .ref qo)]) C d_L_promise_12 rfl rfl (by decide) rfl ?_
      refine j_iconst (v := 1) C d_L_promise_13 rfl (by decide) ?_
      cases h
      exact jl_iret C E (by decide) (by decide) hr d_L_promise_14
    · rw [if_neg e1] at h
      cases h
theorem ct_L_promise (l : Launch) (D : va_G) (tys : List (ClassId × FieldType)) {ad bd : Nat → Nat} {cA cL : ClassId} {μ : SM} {qo : Nat} (hT : tys[0]? = some (cA, .int)) (hTL : tys[1]? = some (cL, .long)) (hl : l.stackTraces = false) (a1 : Int32) (σ : SP) (f : Nat → Int64) {r : Int32} {σ' : SP} {f' : Nat → Int64} (h : m_L_promise a1 σ f = some (r, σ', f')) : jLM l y_L_promise ws_L_promise rm_L_promise D tys [.ref (ad 0), .int a1, .ref qo] ((wP ad cA σ) ++ ((wM bd cA μ) ++ [(qo, .inl (cL, 1, .inr (.inl f)))])) (some (.int r)) ((wP ad cA σ') ++ ((wM bd cA μ) ++ [(qo, .inl (cL, 1, .inr (.inl f')))])) :=
  jl_of hl (by decide +kernel) rfl (Nat.le_of_ble_eq_true rfl) rfl (fun x _ _ hT' hR C Y hX hr E => w_L_promise C (by rw [hT']; exact hT) (by rw [hT']; exact hTL) hR Y hX a1 σ f hr E h)
abbrev ws_L_way : List Cond := Cond.codeWith y_L_way cc_L_way 5 (some .int) [(0, 10, 13, 13)] :: WS
theorem kf_L_way : Cond.codeWith y_L_way cc_L_way 5 (some .int) [(0, 10, 13, 13)] ∈ WS ∧ Cond.initialized y_L_way.cls ∈ WS ∧ (y_L_way.cls ≠ "java/lang/invoke/MethodHandle" ∧ y_L_way.cls ≠ "java/lang/invoke/VarHandle" ∧ (parseMethodDescriptor y_L_way.desc).map (fun d => d.parameters.length) = some 4) := ⟨tw_461, tw_46, by decide +kernel⟩
def rm_L_way : Room := { frames := 9, cells := 1, slots := 6, locals := 222 }
def m_L_way (a1 : Int32) (a2 : Int32) (σ : SP) (f : Nat → Int64) : Option (Int32 × SP × (Nat → Int64)) :=
  (mb3 (m_P_way a1 a2 σ) fun r ex σ1 => (if ex = "" then (mck 1 (0 : Int32) (mlet (vp_updL f (0 : Int32).toNatClampNeg r.toInt64) fun f1 => some (0, σ1, f1))) else (if ex = "java/lang/IllegalArgumentException" then some (1, σ1, f) else none)))
set_option maxHeartbeats 4000000 in
set_option maxRecDepth 100000 in
theorem w_L_way {x : JX} {ad bd : Nat → Nat} {cA cL : ClassId} {μ : SM} {qo : Nat} (C : jC x cc_L_way 5 "PlainWarehouseLaw") (hT : (jT x)[0]? = some (cA, .int)) (hTL : (jT x)[1]? = some (cL, .long)) (hR : jR x = rm_L_way) (Y : jYL x) (hX : (jc x).exceptionTable.toList.map (fun h => (h.startPc, h.endPc, h.handlerPc, h.catchType)) = [(0, 10, 13, 13)]) (a1 : Int32) (a2 : Int32) (σ : SP) (f : Nat → Int64) {r : Int32} {σ' : SP} {f' : Nat → Int64} (hr : (jt x).sig.returnType = some .int) (E : jEL x 1 6 (some (.int r)) ((wP ad cA σ') ++ ((wM bd cA μ) ++ [(qo, .inl (cL, 1, .inr (.inl f')))]))) (h : m_L_way a1 a2 σ f = some (r, σ', f')) : jW x 5 0 0 0 [(0, .ref (ad 0)), (1, .int a1), (2, .int a2), (3, .ref qo)] [] ((wP ad cA σ) ++ ((wM bd cA μ) ++ [(qo, .inl (cL, 1, .inr (.inl f)))])) := by
  unfold m_L_way at h
  refine j_aload_n C 3 d_L_way_0 rfl rfl rfl ?_
  refine j_iconst (v := 0) C d_L_way_1 rfl (by decide) ?_
  refine j_aload_n C 0 d_L_way_2 rfl rfl rfl ?_
  refine j_iload_n C 1 d_L_way_3 rfl rfl rfl ?_
  refine j_iload_n C 2 d_L_way_4 rfl rfl rfl ?_
  obtain ⟨r, ex, σ1, h1, h⟩ := mb3_some h
  refine jx_callV C Y hR (As := [.int a1, .int a2]) (ct_P_way (jl x) (jD x) (jT x) hT Y.1 a1 a2 σ h1) kf_P_way (by decide) tw_462 tw_463 tw_464 0 rfl rfl (rest := [.int 0, .ref qo]) rfl rfl (Nat.le_of_ble_eq_true rfl) (by decide) d_L_way_5 (fun e0 => ?_) (fun e0 => ?_)
  · rw [if_pos e0] at h
    refine j_i2l C d_L_way_8 rfl ?_
    refine j_last C (fun t => (wP ad cA σ1) ++ ((wM bd cA μ) ++ [(qo, .inl (cL, 1, .inr (.inl t)))])) 34 1 rfl hTL d_L_way_9 rfl h rfl (fun f1 h => ?_)
    refine j_goto (tgt := 17) C d_L_way_10 (by decide) ?_
    refine j_iconst (v := 0) C d_L_way_17 rfl (by decide) ?_
    cases h
    exact jl_iret C E (by decide) (by decide) hr d_L_way_18
  · rw [if_neg e0] at h
    by_cases e1 : ex = "java/lang/IllegalArgumentException"
    · subst e1
      rw [if_pos rfl] at h
      refine jx_caught C hX [] (0, 10, 13, 13) [] rfl (fun z hz => nomatch hz) (by decide) (by decide) tw_246 tw_275 (fun q => ?_)
      refine j_astore (lv' := [(4, .ref q), (0, .ref (ad 0)), (1, .int a1), (2, .int a2), (3, .ref qo)]) C d_L_way_13 rfl (by decide) rfl ?_
      refine j_iconst (v := 1) C d_L_way_15 rfl (by decide) ?_
      cases h
      exact jl_iret C E (by decide) (by decide) hr d_L_way_16
    · rw [if_neg e1] at h
      cases h
theorem ct_L_way (l : Launch) (D : va_G) (tys : List (ClassId × FieldType)) {ad bd : Nat → Nat} {cA cL : ClassId} {μ : SM} {qo : Nat} (hT : tys[0]? = some (cA, .int)) (hTL : tys[1]? = some (cL, .long)) (hl : l.stackTraces = false) (a1 : Int32) (a2 : Int32) (σ : SP) (f : Nat → Int64) {r : Int32} {σ' : SP} {f' : Nat → Int64} (h : m_L_way a1 a2 σ f = some (r, σ', f')) : jLM l y_L_way ws_L_way rm_L_way D tys [.ref (ad 0), .int a1, .int a2, .ref qo] ((wP ad cA σ) ++ ((wM bd cA μ) ++ [(qo, .inl (cL, 1, .inr (.inl f)))])) (some (.int r)) ((wP ad cA σ') ++ ((wM bd cA μ) ++ [(qo, .inl (cL, 1, .inr (.inl f')))])) :=
  jl_of hl (by decide +kernel) rfl (Nat.le_of_ble_eq_true rfl) rfl (fun x _ _ hT' hR C Y hX hr E => w_L_way C (by rw [hT']; exact hT) (by rw [hT']; exact hTL) hR Y hX a1 a2 σ f hr E h)
abbrev ws_L_walk : List Cond := Cond.codeWith y_L_walk cc_L_walk 5 (some .int) [(0, 10, 13, 24), (0, 10, 17, 13)] :: WS
theorem kf_L_walk : Cond.codeWith y_L_walk cc_L_walk 5 (some .int) [(0, 10, 13, 24), (0, 10, 17, 13)] ∈ WS ∧ Cond.initialized y_L_walk.cls ∈ WS ∧ (y_L_walk.cls ≠ "java/lang/invoke/MethodHandle" ∧ y_L_walk.cls ≠ "java/lang/invoke/VarHandle" ∧ (parseMethodDescriptor y_L_walk.desc).map (fun d => d.parameters.length) = some 4) := ⟨tw_493, tw_46, by decide +kernel⟩
def rm_L_walk : Room := { frames := 12, cells := 1, slots := 6, locals := 300 }
def m_L_walk (a1 : Int32) (a2 : Int32) (σ : SP) (f : Nat → Int64) : Option (Int32 × SP × (Nat → Int64)) :=
  (mb3 (m_P_walk a1 a2 σ) fun r ex σ1 => (if ex = "" then (mck 1 (0 : Int32) (mlet (vp_updL f (0 : Int32).toNatClampNeg r.toInt64) fun f1 => some (0, σ1, f1))) else (if ex = "java/util/NoSuchElementException" then some (1, σ1, f) else (if ex = "java/lang/IllegalArgumentException" then some (2, σ1, f) else none))))
set_option maxHeartbeats 4000000 in
set_option maxRecDepth 100000 in
theorem w_L_walk {x : JX} {ad bd : Nat → Nat} {cA cL : ClassId} {μ : SM} {qo : Nat} (C : jC x cc_L_walk 5 "PlainWarehouseLaw") (hT : (jT x)[0]? = some (cA, .int)) (hTL : (jT x)[1]? = some (cL, .long)) (hR : jR x = rm_L_walk) (Y : jYL x) (hX : (jc x).exceptionTable.toList.map (fun h => (h.startPc, h.endPc, h.handlerPc, h.catchType)) = [(0, 10, 13, 24), (0, 10, 17, 13)]) (a1 : Int32) (a2 : Int32) (σ : SP) (f : Nat → Int64) {r : Int32} {σ' : SP} {f' : Nat → Int64} (hr : (jt x).sig.returnType = some .int) (E : jEL x 1 6 (some (.int r)) ((wP ad cA σ') ++ ((wM bd cA μ) ++ [(qo, .inl (cL, 1, .inr (.inl f')))]))) (h : m_L_walk a1 a2 σ f = some (r, σ', f')) : jW x 5 0 0 0 [(0, .ref (ad 0)), (1, .int a1), (2, .int a2), (3, .ref qo)] [] ((wP ad cA σ) ++ ((wM bd cA μ) ++ [(qo, .inl (cL, 1, .inr (.inl f)))])) := by
  unfold m_L_walk at h
  refine j_aload_n C 3 d_L_walk_0 rfl rfl rfl ?_
  refine j_iconst (v := 0) C d_L_walk_1 rfl (by decide) ?_
  refine j_aload_n C 0 d_L_walk_2 rfl rfl rfl ?_
  refine j_iload_n C 1 d_L_walk_3 rfl rfl rfl ?_
  refine j_iload_n C 2 d_L_walk_4 rfl rfl rfl ?_
  obtain ⟨r, ex, σ1, h1, h⟩ := mb3_some h
  refine jx_callV C Y hR (As := [.int a1, .int a2]) (ct_P_walk (jl x) (jD x) (jT x) hT Y.1 a1 a2 σ h1) kf_P_walk (by decide) tw_494 tw_495 tw_496 0 rfl rfl (rest := [.int 0, .ref qo]) rfl rfl (Nat.le_of_ble_eq_true rfl) (by decide) d_L_walk_5 (fun e0 => ?_) (fun e0 => ?_)
  · rw [if_pos e0] at h
    refine j_i2l C d_L_walk_8 rfl ?_
    refine j_last C (fun t => (wP ad cA σ1) ++ ((wM bd cA μ) ++ [(qo, .inl (cL, 1, .inr (.inl t)))])) 34 1 rfl hTL d_L_walk_9 rfl h rfl (fun f1 h => ?_)
    refine j_goto (tgt := 21) C d_L_walk_10 (by decide) ?_
    refine j_iconst (v := 0) C d_L_walk_21 rfl (by decide) ?_
    cases h
    exact jl_iret C E (by decide) (by decide) hr d_L_walk_22
  · rw [if_neg e0] at h
    by_cases e1 : ex = "java/util/NoSuchElementException"
    · subst e1
      rw [if_pos rfl] at h
      refine jx_caught C hX [] (0, 10, 13, 24) [(0, 10, 17, 13)] rfl (fun z hz => nomatch hz) (by decide) (by decide) tw_374 tw_385 (fun q => ?_)
      refine j_astore (lv' := [(4, .ref q), (0, .ref (ad 0)), (1, .int a1), (2, .int a2), (3, .ref qo)]) C d_L_walk_13 rfl (by decide) rfl ?_
      refine j_iconst (v := 1) C d_L_walk_15 rfl (by decide) ?_
      cases h
      exact jl_iret C E (by decide) (by decide) hr d_L_walk_16
    · rw [if_neg e1] at h
      clear e1
      by_cases e1 : ex = "java/lang/IllegalArgumentException"
      · subst e1
        rw [if_pos rfl] at h
        refine jx_caught C hX [(0, 10, 13, 24)] (0, 10, 17, 13) [] rfl (fun z hz => by cases List.mem_singleton.mp hz; exact ⟨by decide, "java/util/NoSuchElementException", tw_374, Y.2.2.2 ("java/lang/IllegalArgumentException", "java/util/NoSuchElementException") (by decide)⟩) (by decide) (by decide) tw_246 tw_275 (fun q => ?_)
        refine j_astore (lv' := [(4, .ref q), (0, .ref (ad 0)), (1, .int a1), (2, .int a2), (3, .ref qo)]) C d_L_walk_17 rfl (by decide) rfl ?_
        refine j_iconst (v := 2) C d_L_walk_19 rfl (by decide) ?_
        cases h
        exact jl_iret C E (by decide) (by decide) hr d_L_walk_20
      · rw [if_neg e1] at h
        cases h
theorem ct_L_walk (l : Launch) (D : va_G) (tys : List (ClassId × FieldType)) {ad bd : Nat → Nat} {cA cL : ClassId} {μ : SM} {qo : Nat} (hT : tys[0]? = some (cA, .int)) (hTL : tys[1]? = some (cL, .long)) (hl : l.stackTraces = false) (a1 : Int32) (a2 : Int32) (σ : SP) (f : Nat → Int64) {r : Int32} {σ' : SP} {f' : Nat → Int64} (h : m_L_walk a1 a2 σ f = some (r, σ', f')) : jLM l y_L_walk ws_L_walk rm_L_walk D tys [.ref (ad 0), .int a1, .int a2, .ref qo] ((wP ad cA σ) ++ ((wM bd cA μ) ++ [(qo, .inl (cL, 1, .inr (.inl f)))])) (some (.int r)) ((wP ad cA σ') ++ ((wM bd cA μ) ++ [(qo, .inl (cL, 1, .inr (.inl f')))])) :=
  jl_of hl (by decide +kernel) rfl (Nat.le_of_ble_eq_true rfl) rfl (fun x _ _ hT' hR C Y hX hr E => w_L_walk C (by rw [hT']; exact hT) (by rw [hT']; exact hTL) hR Y hX a1 a2 σ f hr E h)
abbrev ws_L_money : List Cond := Cond.codeWith y_L_money cc_L_money 5 (some .int) [(0, 10, 13, 24), (0, 10, 17, 13)] :: WS
theorem kf_L_money : Cond.codeWith y_L_money cc_L_money 5 (some .int) [(0, 10, 13, 24), (0, 10, 17, 13)] ∈ WS ∧ Cond.initialized y_L_money.cls ∈ WS ∧ (y_L_money.cls ≠ "java/lang/invoke/MethodHandle" ∧ y_L_money.cls ≠ "java/lang/invoke/VarHandle" ∧ (parseMethodDescriptor y_L_money.desc).map (fun d => d.parameters.length) = some 4) := ⟨tw_512, tw_46, by decide +kernel⟩
def rm_L_money : Room := { frames := 9, cells := 1, slots := 6, locals := 222 }
def m_L_money (a1 : Int32) (a2 : Int32) (σ : SP) (f : Nat → Int64) : Option (Int32 × SP × (Nat → Int64)) :=
  (mb3 (m_P_money a1 a2 σ) fun r ex σ1 => (if ex = "" then (mck 1 (0 : Int32) (mlet (vp_updL f (0 : Int32).toNatClampNeg r.toInt64) fun f1 => some (0, σ1, f1))) else (if ex = "java/util/NoSuchElementException" then some (1, σ1, f) else (if ex = "java/lang/IllegalArgumentException" then some (2, σ1, f) else none))))
set_option maxHeartbeats 4000000 in
set_option maxRecDepth 100000 in
theorem w_L_money {x : JX} {ad bd : Nat → Nat} {cA cL : ClassId} {μ : SM} {qo : Nat} (C : jC x cc_L_money 5 "PlainWarehouseLaw") (hT : (jT x)[0]? = some (cA, .int)) (hTL : (jT x)[1]? = some (cL, .long)) (hR : jR x = rm_L_money) (Y : jYL x) (hX : (jc x).exceptionTable.toList.map (fun h => (h.startPc, h.endPc, h.handlerPc, h.catchType)) = [(0, 10, 13, 24), (0, 10, 17, 13)]) (a1 : Int32) (a2 : Int32) (σ : SP) (f : Nat → Int64) {r : Int32} {σ' : SP} {f' : Nat → Int64} (hr : (jt x).sig.returnType = some .int) (E : jEL x 1 6 (some (.int r)) ((wP ad cA σ') ++ ((wM bd cA μ) ++ [(qo, .inl (cL, 1, .inr (.inl f')))]))) (h : m_L_money a1 a2 σ f = some (r, σ', f')) : jW x 5 0 0 0 [(0, .ref (ad 0)), (1, .int a1), (2, .int a2), (3, .ref qo)] [] ((wP ad cA σ) ++ ((wM bd cA μ) ++ [(qo, .inl (cL, 1, .inr (.inl f)))])) := by
  unfold m_L_money at h
  refine j_aload_n C 3 d_L_money_0 rfl rfl rfl ?_
  refine j_iconst (v := 0) C d_L_money_1 rfl (by decide) ?_
  refine j_aload_n C 0 d_L_money_2 rfl rfl rfl ?_
  refine j_iload_n C 1 d_L_money_3 rfl rfl rfl ?_
  refine j_iload_n C 2 d_L_money_4 rfl rfl rfl ?_
  obtain ⟨r, ex, σ1, h1, h⟩ := mb3_some h
  refine jx_callV C Y hR (As := [.int a1, .int a2]) (ct_P_money (jl x) (jD x) (jT x) hT Y.1 a1 a2 σ h1) kf_P_money (by decide) tw_513 tw_514 tw_515 0 rfl rfl (rest := [.int 0, .ref qo]) rfl rfl (Nat.le_of_ble_eq_true rfl) (by decide) d_L_money_5 (fun e0 => ?_) (fun e0 => ?_)
  · rw [if_pos e0] at h
    refine j_i2l C d_L_money_8 rfl ?_
    refine j_last C (fun t => (wP ad cA σ1) ++ ((wM bd cA μ) ++ [(qo, .inl (cL, 1, .inr (.inl t)))])) 34 1 rfl hTL d_L_money_9 rfl h rfl (fun f1 h => ?_)
    refine j_goto (tgt := 21) C d_L_money_10 (by decide) ?_
    refine j_iconst (v := 0) C d_L_money_21 rfl (by decide) ?_
    cases h
    exact jl_iret C E (by decide) (by decide) hr d_L_money_22
  · rw [if_neg e0] at h
    by_cases e1 : ex = "java/util/NoSuchElementException"
    · subst e1
      rw [if_pos rfl] at h
      refine jx_caught C hX [] (0, 10, 13, 24) [(0, 10, 17, 13)] rfl (fun z hz => nomatch hz) (by decide) (by decide) tw_374 tw_385 (fun q => ?_)
      refine j_astore (lv' := [(4, .ref q), (0, .ref (ad 0)), (1, .int a1), (2, .int a2), (3, .ref qo)]) C d_L_money_13 rfl (by decide) rfl ?_
      refine j_iconst (v := 1) C d_L_money_15 rfl (by decide) ?_
      cases h
      exact jl_iret C E (by decide) (by decide) hr d_L_money_16
    · rw [if_neg e1] at h
      clear e1
      by_cases e1 : ex = "java/lang/IllegalArgumentException"
      · subst e1
        rw [if_pos rfl] at h
        refine jx_caught C hX [(0, 10, 13, 24)] (0, 10, 17, 13) [] rfl (fun z hz => by cases List.mem_singleton.mp hz; exact ⟨by decide, "java/util/NoSuchElementException", tw_374, Y.2.2.2 ("java/lang/IllegalArgumentException", "java/util/NoSuchElementException") (by decide)⟩) (by decide) (by decide) tw_246 tw_275 (fun q => ?_)
        refine j_astore (lv' := [(4, .ref q), (0, .ref (ad 0)), (1, .int a1), (2, .int a2), (3, .ref qo)]) C d_L_money_17 rfl (by decide) rfl ?_
        refine j_iconst (v := 2) C d_L_money_19 rfl (by decide) ?_
        cases h
        exact jl_iret C E (by decide) (by decide) hr d_L_money_20
      · rw [if_neg e1] at h
        cases h
theorem ct_L_money (l : Launch) (D : va_G) (tys : List (ClassId × FieldType)) {ad bd : Nat → Nat} {cA cL : ClassId} {μ : SM} {qo : Nat} (hT : tys[0]? = some (cA, .int)) (hTL : tys[1]? = some (cL, .long)) (hl : l.stackTraces = false) (a1 : Int32) (a2 : Int32) (σ : SP) (f : Nat → Int64) {r : Int32} {σ' : SP} {f' : Nat → Int64} (h : m_L_money a1 a2 σ f = some (r, σ', f')) : jLM l y_L_money ws_L_money rm_L_money D tys [.ref (ad 0), .int a1, .int a2, .ref qo] ((wP ad cA σ) ++ ((wM bd cA μ) ++ [(qo, .inl (cL, 1, .inr (.inl f)))])) (some (.int r)) ((wP ad cA σ') ++ ((wM bd cA μ) ++ [(qo, .inl (cL, 1, .inr (.inl f')))])) :=
  jl_of hl (by decide +kernel) rfl (Nat.le_of_ble_eq_true rfl) rfl (fun x _ _ hT' hR C Y hX hr E => w_L_money C (by rw [hT']; exact hT) (by rw [hT']; exact hTL) hR Y hX a1 a2 σ f hr E h)
abbrev ws_L_needs : List Cond := Cond.codeWith y_L_needs cc_L_needs 4 (some .int) [(0, 9, 12, 24)] :: WS
theorem kf_L_needs : Cond.codeWith y_L_needs cc_L_needs 4 (some .int) [(0, 9, 12, 24)] ∈ WS ∧ Cond.initialized y_L_needs.cls ∈ WS ∧ (y_L_needs.cls ≠ "java/lang/invoke/MethodHandle" ∧ y_L_needs.cls ≠ "java/lang/invoke/VarHandle" ∧ (parseMethodDescriptor y_L_needs.desc).map (fun d => d.parameters.length) = some 3) := ⟨tw_520, tw_46, by decide +kernel⟩
def rm_L_needs : Room := { frames := 9, cells := 1, slots := 6, locals := 223 }
def m_L_needs (a1 : Int32) (σ : SP) (f : Nat → Int64) : Option (Int32 × SP × (Nat → Int64)) :=
  (mb3 (m_P_needs a1 σ) fun r ex σ1 => (if ex = "" then (mck 1 (0 : Int32) (mlet (vp_updL f (0 : Int32).toNatClampNeg r.toInt64) fun f1 => some (0, σ1, f1))) else (if ex = "java/util/NoSuchElementException" then some (1, σ1, f) else none)))
set_option maxHeartbeats 4000000 in
set_option maxRecDepth 100000 in
theorem w_L_needs {x : JX} {ad bd : Nat → Nat} {cA cL : ClassId} {μ : SM} {qo : Nat} (C : jC x cc_L_needs 4 "PlainWarehouseLaw") (hT : (jT x)[0]? = some (cA, .int)) (hTL : (jT x)[1]? = some (cL, .long)) (hR : jR x = rm_L_needs) (Y : jYL x) (hX : (jc x).exceptionTable.toList.map (fun h => (h.startPc, h.endPc, h.handlerPc, h.catchType)) = [(0, 9, 12, 24)]) (a1 : Int32) (σ : SP) (f : Nat → Int64) {r : Int32} {σ' : SP} {f' : Nat → Int64} (hr : (jt x).sig.returnType = some .int) (E : jEL x 1 6 (some (.int r)) ((wP ad cA σ') ++ ((wM bd cA μ) ++ [(qo, .inl (cL, 1, .inr (.inl f')))]))) (h : m_L_needs a1 σ f = some (r, σ', f')) : jW x 4 0 0 0 [(0, .ref (ad 0)), (1, .int a1), (2, .ref qo)] [] ((wP ad cA σ) ++ ((wM bd cA μ) ++ [(qo, .inl (cL, 1, .inr (.inl f)))])) := by
  unfold m_L_needs at h
  refine j_aload_n C 2 d_L_needs_0 rfl rfl rfl ?_
  refine j_iconst (v := 0) C d_L_needs_1 rfl (by decide) ?_
  refine j_aload_n C 0 d_L_needs_2 rfl rfl rfl ?_
  refine j_iload_n C 1 d_L_needs_3 rfl rfl rfl ?_
  obtain ⟨r, ex, σ1, h1, h⟩ := mb3_some h
  refine jx_callV C Y hR (As := [.int a1]) (ct_P_needs (jl x) (jD x) (jT x) hT Y.1 a1 σ h1) kf_P_needs (by decide) tw_521 tw_522 tw_523 0 rfl rfl (rest := [.int 0, .ref qo]) rfl rfl (Nat.le_of_ble_eq_true rfl) (by decide) d_L_needs_4 (fun e0 => ?_) (fun e0 => ?_)
  · rw [if_pos e0] at h
    refine j_i2l C d_L_needs_7 rfl ?_
    refine j_last C (fun t => (wP ad cA σ1) ++ ((wM bd cA μ) ++ [(qo, .inl (cL, 1, .inr (.inl t)))])) 34 1 rfl hTL d_L_needs_8 rfl h rfl (fun f1 h => ?_)
    refine j_goto (tgt := 15) C d_L_needs_9 (by decide) ?_
    refine j_iconst (v := 0) C d_L_needs_15 rfl (by decide) ?_
    cases h
    exact jl_iret C E (by decide) (by decide) hr d_L_needs_16
  · rw [if_neg e0] at h
    by_cases e1 : ex = "java/util/NoSuchElementException"
    · subst e1
      rw [if_pos rfl] at h
      refine jx_caught C hX [] (0, 9, 12, 24) [] rfl (fun z hz => nomatch hz) (by decide) (by decide) tw_374 tw_385 (fun q => ?_)
      refine j_astore_n (lv' := [(3, .ref q), (0, .ref (ad 0)), (1, .int a1), (2, .ref qo)]) C d_L_needs_12 rfl rfl (by decide) rfl ?_
      refine j_iconst (v := 1) C d_L_needs_13 rfl (by decide) ?_
      cases h
      exact jl_iret C E (by decide) (by decide) hr d_L_needs_14
    · rw [if_neg e1] at h
      cases h
theorem ct_L_needs (l : Launch) (D : va_G) (tys : List (ClassId × FieldType)) {ad bd : Nat → Nat} {cA cL : ClassId} {μ : SM} {qo : Nat} (hT : tys[0]? = some (cA, .int)) (hTL : tys[1]? = some (cL, .long)) (hl : l.stackTraces = false) (a1 : Int32) (σ : SP) (f : Nat → Int64) {r : Int32} {σ' : SP} {f' : Nat → Int64} (h : m_L_needs a1 σ f = some (r, σ', f')) : jLM l y_L_needs ws_L_needs rm_L_needs D tys [.ref (ad 0), .int a1, .ref qo] ((wP ad cA σ) ++ ((wM bd cA μ) ++ [(qo, .inl (cL, 1, .inr (.inl f)))])) (some (.int r)) ((wP ad cA σ') ++ ((wM bd cA μ) ++ [(qo, .inl (cL, 1, .inr (.inl f')))])) :=
  jl_of hl (by decide +kernel) rfl (Nat.le_of_ble_eq_true rfl) rfl (fun x _ _ hT' hR C Y hX hr E => w_L_needs C (by rw [hT']; exact hT) (by rw [hT']; exact hTL) hR Y hX a1 σ f hr E h)
abbrev ws_L_explained : List Cond := Cond.codeWith y_L_explained cc_L_explained 4 (some .int) [(0, 9, 12, 24)] :: WS
theorem kf_L_explained : Cond.codeWith y_L_explained cc_L_explained 4 (some .int) [(0, 9, 12, 24)] ∈ WS ∧ Cond.initialized y_L_explained.cls ∈ WS ∧ (y_L_explained.cls ≠ "java/lang/invoke/MethodHandle" ∧ y_L_explained.cls ≠ "java/lang/invoke/VarHandle" ∧ (parseMethodDescriptor y_L_explained.desc).map (fun d => d.parameters.length) = some 3) := ⟨tw_532, tw_46, by decide +kernel⟩
def rm_L_explained : Room := { frames := 9, cells := 1, slots := 6, locals := 222 }
def m_L_explained (a1 : Int32) (σ : SP) (f : Nat → Int64) : Option (Int32 × SP × (Nat → Int64)) :=
  (mb3 (m_P_explained a1 σ) fun r ex σ1 => (if ex = "" then (mck 1 (0 : Int32) (mlet (vp_updL f (0 : Int32).toNatClampNeg r.toInt64) fun f1 => some (0, σ1, f1))) else (if ex = "java/util/NoSuchElementException" then some (1, σ1, f) else none)))
set_option maxHeartbeats 4000000 in
set_option maxRecDepth 100000 in
theorem w_L_explained {x : JX} {ad bd : Nat → Nat} {cA cL : ClassId} {μ : SM} {qo : Nat} (C : jC x cc_L_explained 4 "PlainWarehouseLaw") (hT : (jT x)[0]? = some (cA, .int)) (hTL : (jT x)[1]? = some (cL, .long)) (hR : jR x = rm_L_explained) (Y : jYL x) (hX : (jc x).exceptionTable.toList.map (fun h => (h.startPc, h.endPc, h.handlerPc, h.catchType)) = [(0, 9, 12, 24)]) (a1 : Int32) (σ : SP) (f : Nat → Int64) {r : Int32} {σ' : SP} {f' : Nat → Int64} (hr : (jt x).sig.returnType = some .int) (E : jEL x 1 6 (some (.int r)) ((wP ad cA σ') ++ ((wM bd cA μ) ++ [(qo, .inl (cL, 1, .inr (.inl f')))]))) (h : m_L_explained a1 σ f = some (r, σ', f')) : jW x 4 0 0 0 [(0, .ref (ad 0)), (1, .int a1), (2, .ref qo)] [] ((wP ad cA σ) ++ ((wM bd cA μ) ++ [(qo, .inl (cL, 1, .inr (.inl f)))])) := by
  unfold m_L_explained at h
  refine j_aload_n C 2 d_L_explained_0 rfl rfl rfl ?_
  refine j_iconst (v := 0) C d_L_explained_1 rfl (by decide) ?_
  refine j_aload_n C 0 d_L_explained_2 rfl rfl rfl ?_
  refine j_iload_n C 1 d_L_explained_3 rfl rfl rfl ?_
  obtain ⟨r, ex, σ1, h1, h⟩ := mb3_some h
  refine jx_callV C Y hR (As := [.int a1]) (ct_P_explained (jl x) (jD x) (jT x) hT Y.1 a1 σ h1) kf_P_explained (by decide) tw_533 tw_534 tw_535 0 rfl rfl (rest := [.int 0, .ref qo]) rfl rfl (Nat.le_of_ble_eq_true rfl) (by decide) d_L_explained_4 (fun e0 => ?_) (fun e0 => ?_)
  · rw [if_pos e0] at h
    refine j_i2l C d_L_explained_7 rfl ?_
    refine j_last C (fun t => (wP ad cA σ1) ++ ((wM bd cA μ) ++ [(qo, .inl (cL, 1, .inr (.inl t)))])) 34 1 rfl hTL d_L_explained_8 rfl h rfl (fun f1 h => ?_)
    refine j_goto (tgt := 15) C d_L_explained_9 (by decide) ?_
    refine j_iconst (v := 0) C d_L_explained_15 rfl (by decide) ?_
    cases h
    exact jl_iret C E (by decide) (by decide) hr d_L_explained_16
  · rw [if_neg e0] at h
    by_cases e1 : ex = "java/util/NoSuchElementException"
    · subst e1
      rw [if_pos rfl] at h
      refine jx_caught C hX [] (0, 9, 12, 24) [] rfl (fun z hz => nomatch hz) (by decide) (by decide) tw_374 tw_385 (fun q => ?_)
      refine j_astore_n (lv' := [(3, .ref q), (0, .ref (ad 0)), (1, .int a1), (2, .ref qo)]) C d_L_explained_12 rfl rfl (by decide) rfl ?_
      refine j_iconst (v := 1) C d_L_explained_13 rfl (by decide) ?_
      cases h
      exact jl_iret C E (by decide) (by decide) hr d_L_explained_14
    · rw [if_neg e1] at h
      cases h
theorem ct_L_explained (l : Launch) (D : va_G) (tys : List (ClassId × FieldType)) {ad bd : Nat → Nat} {cA cL : ClassId} {μ : SM} {qo : Nat} (hT : tys[0]? = some (cA, .int)) (hTL : tys[1]? = some (cL, .long)) (hl : l.stackTraces = false) (a1 : Int32) (σ : SP) (f : Nat → Int64) {r : Int32} {σ' : SP} {f' : Nat → Int64} (h : m_L_explained a1 σ f = some (r, σ', f')) : jLM l y_L_explained ws_L_explained rm_L_explained D tys [.ref (ad 0), .int a1, .ref qo] ((wP ad cA σ) ++ ((wM bd cA μ) ++ [(qo, .inl (cL, 1, .inr (.inl f)))])) (some (.int r)) ((wP ad cA σ') ++ ((wM bd cA μ) ++ [(qo, .inl (cL, 1, .inr (.inl f')))])) :=
  jl_of hl (by decide +kernel) rfl (Nat.le_of_ble_eq_true rfl) rfl (fun x _ _ hT' hR C Y hX hr E => w_L_explained C (by rw [hT']; exact hT) (by rw [hT']; exact hTL) hR Y hX a1 σ f hr E h)
abbrev ws_L_told : List Cond := Cond.codeWith y_L_told cc_L_told 5 (some .int) [(0, 10, 13, 24), (0, 10, 17, 13)] :: WS
theorem kf_L_told : Cond.codeWith y_L_told cc_L_told 5 (some .int) [(0, 10, 13, 24), (0, 10, 17, 13)] ∈ WS ∧ Cond.initialized y_L_told.cls ∈ WS ∧ (y_L_told.cls ≠ "java/lang/invoke/MethodHandle" ∧ y_L_told.cls ≠ "java/lang/invoke/VarHandle" ∧ (parseMethodDescriptor y_L_told.desc).map (fun d => d.parameters.length) = some 4) := ⟨tw_539, tw_46, by decide +kernel⟩
def rm_L_told : Room := { frames := 9, cells := 1, slots := 6, locals := 222 }
def m_L_told (a1 : Int32) (a2 : Int32) (σ : SP) (f : Nat → Int64) : Option (Int32 × SP × (Nat → Int64)) :=
  (mb2 (m_P_told a1 a2 σ) fun r ex => (if ex = "" then (mck 1 (0 : Int32) (mlet (vp_updL f (0 : Int32).toNatClampNeg r.toInt64) fun f1 => some (0, σ, f1))) else (if ex = "java/util/NoSuchElementException" then some (1, σ, f) else (if ex = "java/lang/IllegalArgumentException" then some (2, σ, f) else none))))
set_option maxHeartbeats 4000000 in
set_option maxRecDepth 100000 in
theorem w_L_told {x : JX} {ad bd : Nat → Nat} {cA cL : ClassId} {μ : SM} {qo : Nat} (C : jC x cc_L_told 5 "PlainWarehouseLaw") (hT : (jT x)[0]? = some (cA, .int)) (hTL : (jT x)[1]? = some (cL, .long)) (hR : jR x = rm_L_told) (Y : jYL x) (hX : (jc x).exceptionTable.toList.map (fun h => (h.startPc, h.endPc, h.handlerPc, h.catchType)) = [(0, 10, 13, 24), (0, 10, 17, 13)]) (a1 : Int32) (a2 : Int32) (σ : SP) (f : Nat → Int64) {r : Int32} {σ' : SP} {f' : Nat → Int64} (hr : (jt x).sig.returnType = some .int) (E : jEL x 1 6 (some (.int r)) ((wP ad cA σ') ++ ((wM bd cA μ) ++ [(qo, .inl (cL, 1, .inr (.inl f')))]))) (h : m_L_told a1 a2 σ f = some (r, σ', f')) : jW x 5 0 0 0 [(0, .ref (ad 0)), (1, .int a1), (2, .int a2), (3, .ref qo)] [] ((wP ad cA σ) ++ ((wM bd cA μ) ++ [(qo, .inl (cL, 1, .inr (.inl f)))])) := by
  unfold m_L_told at h
  refine j_aload_n C 3 d_L_told_0 rfl rfl rfl ?_
  refine j_iconst (v := 0) C d_L_told_1 rfl (by decide) ?_
  refine j_aload_n C 0 d_L_told_2 rfl rfl rfl ?_
  refine j_iload_n C 1 d_L_told_3 rfl rfl rfl ?_
  refine j_iload_n C 2 d_L_told_4 rfl rfl rfl ?_
  obtain ⟨r, ex, h1, h⟩ := mb2_some h
  refine jx_callV C Y hR (As := [.int a1, .int a2]) (ct_P_told (jl x) (jD x) (jT x) hT Y.1 a1 a2 σ h1) kf_P_told (by decide) tw_540 tw_541 tw_542 0 rfl rfl (rest := [.int 0, .ref qo]) rfl rfl (Nat.le_of_ble_eq_true rfl) (by decide) d_L_told_5 (fun e0 => ?_) (fun e0 => ?_)
  · rw [if_pos e0] at h
    refine j_i2l C d_L_told_8 rfl ?_
    refine j_last C (fun t => (wP ad cA σ) ++ ((wM bd cA μ) ++ [(qo, .inl (cL, 1, .inr (.inl t)))])) 34 1 rfl hTL d_L_told_9 rfl h rfl (fun f1 h => ?_)
    refine j_goto (tgt := 21) C d_L_told_10 (by decide) ?_
    refine j_iconst (v := 0) C d_L_told_21 rfl (by decide) ?_
    cases h
    exact jl_iret C E (by decide) (by decide) hr d_L_told_22
  · rw [if_neg e0] at h
    by_cases e1 : ex = "java/util/NoSuchElementException"
    · subst e1
      rw [if_pos rfl] at h
      refine jx_caught C hX [] (0, 10, 13, 24) [(0, 10, 17, 13)] rfl (fun z hz => nomatch hz) (by decide) (by decide) tw_374 tw_385 (fun q => ?_)
      refine j_astore (lv' := [(4, .ref q), (0, .ref (ad 0)), (1, .int a1), (2, .int a2), (3, .ref qo)]) C d_L_told_13 rfl (by decide) rfl ?_
      refine j_iconst (v := 1) C d_L_told_15 rfl (by decide) ?_
      cases h
      exact jl_iret C E (by decide) (by decide) hr d_L_told_16
    · rw [if_neg e1] at h
      clear e1
      by_cases e1 : ex = "java/lang/IllegalArgumentException"
      · subst e1
        rw [if_pos rfl] at h
        refine jx_caught C hX [(0, 10, 13, 24)] (0, 10, 17, 13) [] rfl (fun z hz => by cases List.mem_singleton.mp hz; exact ⟨by decide, "java/util/NoSuchElementException", tw_374, Y.2.2.2 ("java/lang/IllegalArgumentException", "java/util/NoSuchElementException") (by decide)⟩) (by decide) (by decide) tw_246 tw_275 (fun q => ?_)
        refine j_astore (lv' := [(4, .ref q), (0, .ref (ad 0)), (1, .int a1), (2, .int a2), (3, .ref qo)]) C d_L_told_17 rfl (by decide) rfl ?_
        refine j_iconst (v := 2) C d_L_told_19 rfl (by decide) ?_
        cases h
        exact jl_iret C E (by decide) (by decide) hr d_L_told_20
      · rw [if_neg e1] at h
        cases h
theorem ct_L_told (l : Launch) (D : va_G) (tys : List (ClassId × FieldType)) {ad bd : Nat → Nat} {cA cL : ClassId} {μ : SM} {qo : Nat} (hT : tys[0]? = some (cA, .int)) (hTL : tys[1]? = some (cL, .long)) (hl : l.stackTraces = false) (a1 : Int32) (a2 : Int32) (σ : SP) (f : Nat → Int64) {r : Int32} {σ' : SP} {f' : Nat → Int64} (h : m_L_told a1 a2 σ f = some (r, σ', f')) : jLM l y_L_told ws_L_told rm_L_told D tys [.ref (ad 0), .int a1, .int a2, .ref qo] ((wP ad cA σ) ++ ((wM bd cA μ) ++ [(qo, .inl (cL, 1, .inr (.inl f)))])) (some (.int r)) ((wP ad cA σ') ++ ((wM bd cA μ) ++ [(qo, .inl (cL, 1, .inr (.inl f')))])) :=
  jl_of hl (by decide +kernel) rfl (Nat.le_of_ble_eq_true rfl) rfl (fun x _ _ hT' hR C Y hX hr E => w_L_told C (by rw [hT']; exact hT) (by rw [hT']; exact hTL) hR Y hX a1 a2 σ f hr E h)
abbrev ws_L_back : List Cond := Cond.codeWith y_L_back cc_L_back 2 (some .int) [(0, 4, 7, 54)] :: WS
theorem kf_L_back : Cond.codeWith y_L_back cc_L_back 2 (some .int) [(0, 4, 7, 54)] ∈ WS ∧ Cond.initialized y_L_back.cls ∈ WS ∧ (y_L_back.cls ≠ "java/lang/invoke/MethodHandle" ∧ y_L_back.cls ≠ "java/lang/invoke/VarHandle" ∧ (parseMethodDescriptor y_L_back.desc).map (fun d => d.parameters.length) = some 1) := ⟨tw_547, tw_46, by decide +kernel⟩
def rm_L_back : Room := { frames := 9, cells := 1, slots := 6, locals := 220 }
def m_L_back (σ : SP) : Option (Int32 × SP) :=
  (mb2 (m_P_back σ) fun ex σ1 => (if ex = "" then some (0, σ1) else (if ex = "java/lang/IllegalStateException" then some (1, σ1) else none)))
set_option maxHeartbeats 4000000 in
set_option maxRecDepth 100000 in
theorem w_L_back {x : JX} {ad bd : Nat → Nat} {cA cL : ClassId} {μ : SM} {qo : Nat} (C : jC x cc_L_back 2 "PlainWarehouseLaw") (hT : (jT x)[0]? = some (cA, .int)) (hTL : (jT x)[1]? = some (cL, .long)) (hR : jR x = rm_L_back) (Y : jYL x) (hX : (jc x).exceptionTable.toList.map (fun h => (h.startPc, h.endPc, h.handlerPc, h.catchType)) = [(0, 4, 7, 54)]) (σ : SP) {f : Nat → Int64} {r : Int32} {σ' : SP} (hr : (jt x).sig.returnType = some .int) (E : jEL x 1 6 (some (.int r)) ((wP ad cA σ') ++ ((wM bd cA μ) ++ [(qo, .inl (cL, 1, .inr (.inl f)))]))) (h : m_L_back σ = some (r, σ')) : jW x 2 0 0 0 [(0, .ref (ad 0))] [] ((wP ad cA σ) ++ ((wM bd cA μ) ++ [(qo, .inl (cL, 1, .inr (.inl f)))])) := by
  unfold m_L_back at h
  refine j_aload_n C 0 d_L_back_0 rfl rfl rfl ?_
  obtain ⟨ex, σ1, h1, h⟩ := mb2_some h
  refine jx_callV C Y hR (As := []) (ct_P_back (jl x) (jD x) (jT x) hT Y.1 σ h1) kf_P_back (by decide) tw_549 tw_550 tw_551 0 rfl rfl (rest := []) rfl rfl (Nat.le_of_ble_eq_true rfl) (by decide) d_L_back_1 (fun e0 => ?_) (fun e0 => ?_)
  · rw [if_pos e0] at h
    refine j_goto (tgt := 10) C d_L_back_4 (by decide) ?_
    refine j_iconst (v := 0) C d_L_back_10 rfl (by decide) ?_
    cases h
    exact jl_iret C E (by decide) (by decide) hr d_L_back_11
  · rw [if_neg e0] at h
    by_cases e1 : ex = "java/lang/IllegalStateException"
    · subst e1
      rw [if_pos rfl] at h
      refine jx_caught C hX [] (0, 4, 7, 54) [] rfl (fun z hz => nomatch hz) (by decide) (by decide) tw_548 tw_555 (fun q => ?_)
      refine j_astore_n (lv' := [(1, .ref q), (0, .ref (ad 0))]) C d_L_back_7 rfl rfl (by decide) rfl ?_
      refine j_iconst (v := 1) C d_L_back_8 rfl (by decide) ?_
      cases h
      exact jl_iret C E (by decide) (by decide) hr d_L_back_9
    · rw [if_neg e1] at h
      cases h
theorem ct_L_back (l : Launch) (D : va_G) (tys : List (ClassId × FieldType)) {ad bd : Nat → Nat} {cA cL : ClassId} {μ : SM} {qo : Nat} (hT : tys[0]? = some (cA, .int)) (hTL : tys[1]? = some (cL, .long)) (hl : l.stackTraces = false) (σ : SP) {f : Nat → Int64} {r : Int32} {σ' : SP} (h : m_L_back σ = some (r, σ')) : jLM l y_L_back ws_L_back rm_L_back D tys [.ref (ad 0)] ((wP ad cA σ) ++ ((wM bd cA μ) ++ [(qo, .inl (cL, 1, .inr (.inl f)))])) (some (.int r)) ((wP ad cA σ') ++ ((wM bd cA μ) ++ [(qo, .inl (cL, 1, .inr (.inl f)))])) :=
  jl_of hl (by decide +kernel) rfl (Nat.le_of_ble_eq_true rfl) rfl (fun x _ _ hT' hR C Y hX hr E => w_L_back C (by rw [hT']; exact hT) (by rw [hT']; exact hTL) hR Y hX σ hr E h)
