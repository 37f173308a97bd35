set_option maxRecDepth 100000 in
theorem tw_18 : Cond.selects "PlainWarehouse" (⟨"PlainWarehouse", "keep", "(IIII)V"⟩ : MethodName) (⟨"PlainWarehouse", "keep", "(IIII)V"⟩ : MethodName) ∈ WS := ws_in 18 rfl rfl
set_option maxRecDepth 100000 in
theorem tw_19 : Cond.selects "PlainWarehouse" (⟨"PlainWarehouse", "hasSoMany", "(I)Z"⟩ : MethodName) (⟨"PlainWarehouse", "hasSoMany", "(I)Z"⟩ : MethodName) ∈ WS := ws_in 19 rfl rfl
set_option maxRecDepth 100000 in
theorem tw_21 : Cond.selects "PlainWarehouse" (⟨"PlainWarehouse", "areAllTold", "(I)Z"⟩ : MethodName) (⟨"PlainWarehouse", "areAllTold", "(I)Z"⟩ : MethodName) ∈ WS := ws_in 21 rfl rfl
set_option maxRecDepth 100000 in
theorem tw_22 : Cond.selects "PlainWarehouse$Fillings" (⟨"PlainWarehouse$Fillings", "most", "(LPlainWarehouse$House;I)I"⟩ : MethodName) (⟨"PlainWarehouse$Fillings", "most", "(LPlainWarehouse$House;I)I"⟩ : MethodName) ∈ WS := ws_in 22 rfl rfl
set_option maxRecDepth 100000 in
theorem tw_26 : Cond.selects "PlainWarehouse$Ways" (⟨"PlainWarehouse$Ways", "measure", "(LPlainWarehouse$House;)V"⟩ : MethodName) (⟨"PlainWarehouse$Ways", "measure", "(LPlainWarehouse$House;)V"⟩ : MethodName) ∈ WS := ws_in 26 rfl rfl
set_option maxRecDepth 100000 in
theorem tw_29 : Cond.selects "PlainWarehouse$Ways" (⟨"PlainWarehouse$Ways", "between", "(II)I"⟩ : MethodName) (⟨"PlainWarehouse$Ways", "between", "(II)I"⟩ : MethodName) ∈ WS := ws_in 29 rfl rfl
set_option maxRecDepth 100000 in
theorem tw_30 : Cond.selects "PlainWarehouse$House" (⟨"PlainWarehouse$House", "placesOfUnitsGivenTo", "(I)I"⟩ : MethodName) (⟨"PlainWarehouse$House", "placesOfUnitsGivenTo", "(I)I"⟩ : MethodName) ∈ WS := ws_in 30 rfl rfl
set_option maxRecDepth 100000 in
theorem tw_31 : Cond.selects "PlainWarehouse$Ways" (⟨"PlainWarehouse$Ways", "fewestThrough", "(II)I"⟩ : MethodName) (⟨"PlainWarehouse$Ways", "fewestThrough", "(II)I"⟩ : MethodName) ∈ WS := ws_in 31 rfl rfl
set_option maxRecDepth 100000 in
theorem tw_32 : Cond.selects "PlainWarehouse" (⟨"PlainWarehouse", "isEvent", "(I)Z"⟩ : MethodName) (⟨"PlainWarehouse", "isEvent", "(I)Z"⟩ : MethodName) ∈ WS := ws_in 32 rfl rfl
set_option maxRecDepth 100000 in
theorem tw_55 : Cond.initialized "java/lang/IllegalArgumentException" ∈ WS := ws_in 55 rfl rfl
set_option maxRecDepth 100000 in
theorem tw_56 : Cond.initialized "java/lang/UnsupportedOperationException" ∈ WS := ws_in 56 rfl rfl
set_option maxRecDepth 100000 in
theorem tw_58 : Cond.initialized "java/util/NoSuchElementException" ∈ WS := ws_in 58 rfl rfl
set_option maxRecDepth 100000 in
theorem tw_62 : Cond.initialized "java/lang/IllegalStateException" ∈ WS := ws_in 62 rfl rfl
set_option maxRecDepth 100000 in
theorem tw_78 : Cond.fieldLinkNest "PlainWarehouse" (96 : Nat) "PlainWarehouse$House" "placeOf" "[I" "PlainWarehouse" ∈ NWS := nws_in 78 rfl rfl
set_option maxRecDepth 100000 in
theorem tw_85 : Cond.fieldLinkNest "PlainWarehouse" (110 : Nat) "PlainWarehouse$House" "goodWanted" "[I" "PlainWarehouse" ∈ NWS := nws_in 85 rfl rfl
set_option maxRecDepth 100000 in
theorem tw_88 : Cond.fieldLinkNest "PlainWarehouse" (107 : Nat) "PlainWarehouse$House" "got" "[I" "PlainWarehouse" ∈ NWS := nws_in 88 rfl rfl
set_option maxRecDepth 100000 in
theorem tw_90 : Cond.fieldLinkNest "PlainWarehouse" (154 : Nat) "PlainWarehouse$House" "cents" "[I" "PlainWarehouse" ∈ NWS := nws_in 90 rfl rfl
set_option maxRecDepth 100000 in
theorem tw_147 : Cond.fieldLink "PlainWarehouse" (30 : Nat) "PlainWarehouse" "fillings" "LPlainWarehouse$Fillings;" ∈ WS := ws_in 147 rfl rfl
set_option maxRecDepth 100000 in
theorem tw_148 : Cond.fieldLink "PlainWarehouse" (37 : Nat) "PlainWarehouse" "ways" "LPlainWarehouse$Ways;" ∈ WS := ws_in 148 rfl rfl
set_option maxRecDepth 100000 in
theorem tw_252 : Cond.methodLink "PlainWarehouse" (41 : Nat) ({ cls := "PlainWarehouse", name := "isInRange", desc := "(IIII)Z" } : MethodName) ∈ WS := ws_in 252 rfl rfl
set_option maxRecDepth 100000 in
theorem tw_253 : Cond.static ({ cls := "PlainWarehouse", name := "isInRange", desc := "(IIII)Z" } : MethodName) ∈ WS := ws_in 253 rfl rfl
set_option maxRecDepth 100000 in
theorem tw_273 : Cond.classLink "PlainWarehouse" (45 : Nat) "java/lang/IllegalArgumentException" ∈ WS := ws_in 273 rfl rfl
set_option maxRecDepth 100000 in
theorem tw_342 : Cond.classLink "PlainWarehouse" (52 : Nat) "java/lang/UnsupportedOperationException" ∈ WS := ws_in 342 rfl rfl
set_option maxRecDepth 100000 in
theorem tw_358 : Cond.methodLink "PlainWarehouse" (64 : Nat) ({ cls := "PlainWarehouse", name := "keep", desc := "(IIII)V" } : MethodName) ∈ WS := ws_in 358 rfl rfl
set_option maxRecDepth 100000 in
theorem tw_360 : Cond.instanceMethod ({ cls := "PlainWarehouse", name := "keep", desc := "(IIII)V" } : MethodName) ∈ WS := ws_in 360 rfl rfl
set_option maxRecDepth 100000 in
theorem tw_379 : Cond.methodLink "PlainWarehouse" (83 : Nat) ({ cls := "PlainWarehouse", name := "hasSoMany", desc := "(I)Z" } : MethodName) ∈ WS := ws_in 379 rfl rfl
set_option maxRecDepth 100000 in
theorem tw_381 : Cond.instanceMethod ({ cls := "PlainWarehouse", name := "hasSoMany", desc := "(I)Z" } : MethodName) ∈ WS := ws_in 381 rfl rfl
set_option maxRecDepth 100000 in
theorem tw_383 : Cond.classLink "PlainWarehouse" (86 : Nat) "java/util/NoSuchElementException" ∈ WS := ws_in 383 rfl rfl
set_option maxRecDepth 100000 in
theorem tw_409 : Cond.methodLinkNest "PlainWarehouse" (104 : Nat) ({ cls := "PlainWarehouse$House", name := "isFull", desc := "(I)Z" } : MethodName) "PlainWarehouse" ∈ NWS := nws_in 409 rfl rfl
set_option maxRecDepth 100000 in
theorem tw_410 : Cond.methodLinkNest "PlainWarehouse" (113 : Nat) ({ cls := "PlainWarehouse$House", name := "freeUnits", desc := "(I)I" } : MethodName) "PlainWarehouse" ∈ NWS := nws_in 410 rfl rfl
set_option maxRecDepth 100000 in
theorem tw_422 : Cond.methodLink "PlainWarehouse" (119 : Nat) ({ cls := "PlainWarehouse", name := "areAllTold", desc := "(I)Z" } : MethodName) ∈ WS := ws_in 422 rfl rfl
set_option maxRecDepth 100000 in
theorem tw_424 : Cond.instanceMethod ({ cls := "PlainWarehouse", name := "areAllTold", desc := "(I)Z" } : MethodName) ∈ WS := ws_in 424 rfl rfl
set_option maxRecDepth 100000 in
theorem tw_430 : Cond.methodLink "PlainWarehouse" (124 : Nat) ({ cls := "java/lang/Integer", name := "bitCount", desc := "(I)I" } : MethodName) ∈ WS := ws_in 430 rfl rfl
set_option maxRecDepth 100000 in
theorem tw_436 : Cond.methodLinkNest "PlainWarehouse" (129 : Nat) ({ cls := "PlainWarehouse$Fillings", name := "most", desc := "(LPlainWarehouse$House;I)I" } : MethodName) "PlainWarehouse" ∈ NWS := nws_in 436 rfl rfl
set_option maxRecDepth 100000 in
theorem tw_438 : Cond.instanceMethod ({ cls := "PlainWarehouse$Fillings", name := "most", desc := "(LPlainWarehouse$House;I)I" } : MethodName) ∈ WS := ws_in 438 rfl rfl
set_option maxRecDepth 100000 in
theorem tw_466 : Cond.methodLinkNest "PlainWarehouse" (133 : Nat) ({ cls := "PlainWarehouse$Ways", name := "measure", desc := "(LPlainWarehouse$House;)V" } : MethodName) "PlainWarehouse" ∈ NWS := nws_in 466 rfl rfl
set_option maxRecDepth 100000 in
theorem tw_468 : Cond.instanceMethod ({ cls := "PlainWarehouse$Ways", name := "measure", desc := "(LPlainWarehouse$House;)V" } : MethodName) ∈ WS := ws_in 468 rfl rfl
set_option maxRecDepth 100000 in
theorem tw_483 : Cond.methodLinkNest "PlainWarehouse" (137 : Nat) ({ cls := "PlainWarehouse$Ways", name := "between", desc := "(II)I" } : MethodName) "PlainWarehouse" ∈ NWS := nws_in 483 rfl rfl
set_option maxRecDepth 100000 in
theorem tw_485 : Cond.instanceMethod ({ cls := "PlainWarehouse$Ways", name := "between", desc := "(II)I" } : MethodName) ∈ WS := ws_in 485 rfl rfl
set_option maxRecDepth 100000 in
theorem tw_487 : Cond.methodLink "PlainWarehouse" (140 : Nat) ({ cls := "PlainWarehouse", name := "orNone", desc := "(I)I" } : MethodName) ∈ WS := ws_in 487 rfl rfl
set_option maxRecDepth 100000 in
theorem tw_488 : Cond.static ({ cls := "PlainWarehouse", name := "orNone", desc := "(I)I" } : MethodName) ∈ WS := ws_in 488 rfl rfl
set_option maxRecDepth 100000 in
theorem tw_498 : Cond.methodLinkNest "PlainWarehouse" (143 : Nat) ({ cls := "PlainWarehouse$House", name := "placesOfUnitsGivenTo", desc := "(I)I" } : MethodName) "PlainWarehouse" ∈ NWS := nws_in 498 rfl rfl
set_option maxRecDepth 100000 in
theorem tw_500 : Cond.instanceMethod ({ cls := "PlainWarehouse$House", name := "placesOfUnitsGivenTo", desc := "(I)I" } : MethodName) ∈ WS := ws_in 500 rfl rfl
set_option maxRecDepth 100000 in
theorem tw_502 : Cond.methodLinkNest "PlainWarehouse" (146 : Nat) ({ cls := "PlainWarehouse$Ways", name := "fewestThrough", desc := "(II)I" } : MethodName) "PlainWarehouse" ∈ NWS := nws_in 502 rfl rfl
set_option maxRecDepth 100000 in
theorem tw_504 : Cond.instanceMethod ({ cls := "PlainWarehouse$Ways", name := "fewestThrough", desc := "(II)I" } : MethodName) ∈ WS := ws_in 504 rfl rfl
set_option maxRecDepth 100000 in
theorem tw_525 : Cond.methodLink "PlainWarehouse" (157 : Nat) ({ cls := "PlainWarehouse", name := "isEvent", desc := "(I)Z" } : MethodName) ∈ WS := ws_in 525 rfl rfl
set_option maxRecDepth 100000 in
theorem tw_527 : Cond.instanceMethod ({ cls := "PlainWarehouse", name := "isEvent", desc := "(I)Z" } : MethodName) ∈ WS := ws_in 527 rfl rfl
set_option maxRecDepth 100000 in
theorem tw_553 : Cond.classLink "PlainWarehouse" (171 : Nat) "java/lang/IllegalStateException" ∈ WS := ws_in 553 rfl rfl
def rm_P_event : Room := { frames := 8, cells := 1, slots := 6, locals := 200 }
def m_P_event (a1 : Int32) (a2 : Int32) (a3 : Int32) (a4 : Int32) (σ : SP) : Option (Int32 × String × SP) :=
  (mb1 (m_P_isInRange a1 a2 a3 a4) fun r1 => (if r1 = 0 then some (0, "java/lang/IllegalArgumentException", σ) else (if (g_ec σ) < (60 : Int32) then (mb1 (m_P_replay (g_ec σ) σ) fun σ3 => (mb2 (m_H_take a1 a2 a3 a4 σ3) fun r5 σ6 => (if r5 = 0 then (mlet (u_rc σ6 ((g_rc σ6) + (1 : Int32))) fun σ10 => some ((0 : Int32), "", σ10)) else (mb1 (m_P_keep a1 a2 a3 a4 σ6) fun σ8 => some ((1 : Int32), "", σ8))))) else some (0, "java/lang/UnsupportedOperationException", σ))))
set_option maxHeartbeats 4000000 in
set_option maxRecDepth 100000 in
theorem w_P_event {x : JX} {ad : Nat → Nat} {cA : ClassId} {wr : va_W} (C : jC x cc_P_event 5 "PlainWarehouse") (hT : (jT x)[0]? = some (cA, .int)) (hR : jR x = rm_P_event) (Y : jY x)  (a1 : Int32) (a2 : Int32) (a3 : Int32) (a4 : Int32) (σ : SP) {r : Int32} {ex : String} {σ' : SP} (hr : (jt x).sig.returnType = some .int) (E : jEX x 1 6 (some (.int r)) ex ((wP ad cA σ') ++ wr)) (h : m_P_event a1 a2 a3 a4 σ = some (r, ex, σ')) : jW x 5 0 0 0 [(0, .ref (ad 0)), (1, .int a1), (2, .int a2), (3, .int a3), (4, .int a4)] [] ((wP ad cA σ) ++ wr) := by
  unfold m_P_event at h
  refine j_iload_n C 1 d_P_event_0 rfl rfl rfl ?_
  refine j_iload_n C 2 d_P_event_1 rfl rfl rfl ?_
  refine j_iload_n C 3 d_P_event_2 rfl rfl rfl ?_
  refine j_iload C 4 d_P_event_3 rfl rfl ?_
  obtain ⟨r1, h2, h⟩ := mb1_some h
  refine j_callS C hR (As := [.int a1, .int a2, .int a3, .int a4]) (ct_P_isInRange (jl x) (jD x) (jT x) a1 a2 a3 a4 h2) kf_P_isInRange (by decide) tw_252 tw_253 (rest := []) rfl rfl (Nat.le_of_ble_eq_true rfl) (by decide) ⟨rfl, rfl⟩ d_P_event_5 rfl (st1 := [.int r1]) rfl ?_
  refine j_if_ne (tgt := 21) C d_P_event_8 (by decide) rfl h (fun h => ?_) (fun h => ?_)
  · refine j_aload_n C 0 d_P_event_21 rfl rfl rfl ?_
    refine j_get C in_P 0 rfl rfl 1 (by decide) tw_144 rfl (v := .int (g_ec σ)) rfl d_P_event_22 rfl ?_
    refine j_bipush (v := 60) C d_P_event_25 rfl (by decide) ?_
    refine j_icmp_lt (tgt := 40) C d_P_event_27 (by decide) rfl h (fun h => ?_) (fun h => ?_)
    · refine j_aload_n C 0 d_P_event_40 rfl rfl rfl ?_
      refine j_aload_n C 0 d_P_event_41 rfl rfl rfl ?_
      refine j_get C in_P 0 rfl rfl 1 (by decide) tw_144 rfl (v := .int (g_ec σ)) rfl d_P_event_42 rfl ?_
      obtain ⟨σ3, h4, h⟩ := mb1_some h
      refine j_callV C hR (As := [.int (g_ec σ)]) (ct_P_replay (jl x) (jD x) (jT x) hT (g_ec σ) σ h4) kf_P_replay (by decide) tw_166 tw_168 tw_0 0 rfl rfl (rest := []) rfl rfl (Nat.le_of_ble_eq_true rfl) (by decide) ⟨rfl, rfl⟩ d_P_event_45 rfl (st1 := []) rfl ?_
      refine j_aload_n C 0 d_P_event_48 rfl rfl rfl ?_
      refine j_get C in_P 0 rfl rfl 3 (by decide) tw_146 rfl (v := .ref (ad 2)) rfl d_P_event_49 rfl ?_
      refine j_iload_n C 1 d_P_event_52 rfl rfl rfl ?_
      refine j_iload_n C 2 d_P_event_53 rfl rfl rfl ?_
      refine j_iload_n C 3 d_P_event_54 rfl rfl rfl ?_
      refine j_iload C 4 d_P_event_55 rfl rfl ?_
      obtain ⟨r5, σ6, h7, h⟩ := mb2_some h
      refine j_callVN C hR (As := [.int a1, .int a2, .int a3, .int a4]) (ct_H_take (jl x) (jD x) (jT x) hT a1 a2 a3 a4 σ3 h7) kf_H_take (by decide) tw_181 tw_183 tw_3 2 rfl rfl (rest := []) rfl rfl (Nat.le_of_ble_eq_true rfl) (by decide) ⟨rfl, rfl⟩ d_P_event_57 rfl (st1 := [.int r5]) rfl ?_
      refine j_if_ne (tgt := 75) C d_P_event_60 (by decide) rfl h (fun h => ?_) (fun h => ?_)
      · refine j_aload_n C 0 d_P_event_75 rfl rfl rfl ?_
        refine j_iload_n C 1 d_P_event_76 rfl rfl rfl ?_
        refine j_iload_n C 2 d_P_event_77 rfl rfl rfl ?_
        refine j_iload_n C 3 d_P_event_78 rfl rfl rfl ?_
        refine j_iload C 4 d_P_event_79 rfl rfl ?_
        obtain ⟨σ8, h9, h⟩ := mb1_some h
        refine j_callV C hR (As := [.int a1, .int a2, .int a3, .int a4]) (ct_P_keep (jl x) (jD x) (jT x) hT a1 a2 a3 a4 σ6 h9) kf_P_keep (by decide) tw_358 tw_360 tw_18 0 rfl rfl (rest := []) rfl rfl (Nat.le_of_ble_eq_true rfl) (by decide) ⟨rfl, rfl⟩ d_P_event_81 rfl (st1 := []) rfl ?_
        refine j_iconst (v := 1) C d_P_event_84 rfl (by decide) ?_
        cases h
        exact jx_iret C E (by decide) (by decide) hr d_P_event_85
      · refine j_aload_n C 0 d_P_event_63 rfl rfl rfl ?_
        refine j_dup C d_P_event_64 rfl rfl ?_
        refine j_get C in_P 0 rfl rfl 2 (by decide) tw_145 rfl (v := .int (g_rc σ6)) rfl d_P_event_65 rfl ?_
        refine j_iconst (v := 1) C d_P_event_68 rfl (by decide) ?_
        refine j_iadd C d_P_event_69 rfl ?_
        refine j_put C in_P ty_P_ok nm_P 0 rfl rfl 2 (by decide) tw_145 rfl rfl rfl (Nat.le_of_ble_eq_true rfl) (fun t => (wP ad cA t) ++ wr) d_P_event_70 rfl h rfl (fun σ10 h => ?_)
        refine j_iconst (v := 0) C d_P_event_73 rfl (by decide) ?_
        cases h
        exact jx_iret C E (by decide) (by decide) hr d_P_event_74
    · cases h
      exact jx_throw C Y hR (tx := "there are sixty events") E (by decide) (by decide +kernel) tw_342 tw_56 (by decide) xat_56 d_P_event_30 d_P_event_33 d_P_event_34 d_P_event_36 d_P_event_39 (by decide) (Nat.le_of_ble_eq_true rfl) (by decide) (by decide) (by decide) (by decide)
  · cases h
    exact jx_throw C Y hR (tx := "the kind or a number of the event is outside its range") E (by decide) (by decide +kernel) tw_273 tw_55 (by decide) xat_49 d_P_event_11 d_P_event_14 d_P_event_15 d_P_event_17 d_P_event_20 (by decide) (Nat.le_of_ble_eq_true rfl) (by decide) (by decide) (by decide) (by decide)
theorem ct_P_event (l : Launch) (D : va_G) (tys : List (ClassId × FieldType)) {ad : Nat → Nat} {cA : ClassId} {wr : va_W} (hT : tys[0]? = some (cA, .int)) (hl : l.stackTraces = false)  (a1 : Int32) (a2 : Int32) (a3 : Int32) (a4 : Int32) (σ : SP) {r : Int32} {ex : String} {σ' : SP} (h : m_P_event a1 a2 a3 a4 σ = some (r, ex, σ')) : jXM l y_P_event ws_P_event rm_P_event D tys [.ref (ad 0), .int a1, .int a2, .int a3, .int a4] ((wP ad cA σ) ++ wr) (some (.int r)) ex ((wP ad cA σ') ++ wr) :=
  jx_of hl (by decide +kernel) rfl (Nat.le_of_ble_eq_true rfl) rfl (fun x _ _ hT' hR C Y hr E => w_P_event C (by rw [hT']; exact hT) hR Y a1 a2 a3 a4 σ hr E h)
def rm_P_stock : Room := { frames := 8, cells := 1, slots := 6, locals := 200 }
def k_P_stock_44 (p1 : Int32) (p2 : Int32) (σ : SP) : Option (Int32 × String × SP) :=
  (mb1 (m_P_replay (g_ec σ) σ) fun σ1 => (mb1 (m_H_unitsAt p1 p2 σ1) fun r3 => some (r3, "", σ1)))
def k_P_stock_22 (p1 : Int32) (p2 : Int32) (σ : SP) : Option (Int32 × String × SP) :=
  (if p2 = (-1 : Int32) then (k_P_stock_44 p1 p2 σ) else (mb1 (m_P_isGood p2) fun r5 => (if r5 = 0 then some (0, "java/lang/IllegalArgumentException", σ) else (k_P_stock_44 p1 p2 σ))))
def m_P_stock (a1 : Int32) (a2 : Int32) (σ : SP) : Option (Int32 × String × SP) :=
  (if a1 = (-1 : Int32) then (k_P_stock_22 a1 a2 σ) else (mb1 (m_P_isPlace a1) fun r7 => (if r7 = 0 then some (0, "java/lang/IllegalArgumentException", σ) else (k_P_stock_22 a1 a2 σ))))
set_option maxHeartbeats 4000000 in
set_option maxRecDepth 100000 in
theorem wk_P_stock_44 {x : JX} {ad : Nat → Nat} {cA : ClassId} {wr : va_W} (C : jC x cc_P_stock 3 "PlainWarehouse") (hT : (jT x)[0]? = some (cA, .int)) (hR : jR x = rm_P_stock) (Y : jY x)  (p1 : Int32) (p2 : Int32) (σ : SP) {r : Int32} {ex : String} {σ' : SP} (hr : (jt x).sig.returnType = some .int) (E : jEX x 1 6 (some (.int r)) ex ((wP ad cA σ') ++ wr)) (h : k_P_stock_44 p1 p2 σ = some (r, ex, σ')) : jW x 3 0 0 44 [(0, .ref (ad 0)), (1, .int p1), (2, .int p2)] [] ((wP ad cA σ) ++ wr) := by
  unfold k_P_stock_44 at h
  refine j_aload_n C 0 d_P_stock_44 rfl rfl rfl ?_
  refine j_aload_n C 0 d_P_stock_45 rfl rfl rfl ?_
  refine j_get C in_P 0 rfl rfl 1 (by decide) tw_144 rfl (v := .int (g_ec σ)) rfl d_P_stock_46 rfl ?_
  obtain ⟨σ1, h2, h⟩ := mb1_some h
  refine j_callV C hR (As := [.int (g_ec σ)]) (ct_P_replay (jl x) (jD x) (jT x) hT (g_ec σ) σ h2) kf_P_replay (by decide) tw_166 tw_168 tw_0 0 rfl rfl (rest := []) rfl rfl (Nat.le_of_ble_eq_true rfl) (by decide) ⟨rfl, rfl⟩ d_P_stock_49 rfl (st1 := []) rfl ?_
  refine j_aload_n C 0 d_P_stock_52 rfl rfl rfl ?_
  refine j_get C in_P 0 rfl rfl 3 (by decide) tw_146 rfl (v := .ref (ad 2)) rfl d_P_stock_53 rfl ?_
  refine j_iload_n C 1 d_P_stock_56 rfl rfl rfl ?_
  refine j_iload_n C 2 d_P_stock_57 rfl rfl rfl ?_
  obtain ⟨r3, h4, h⟩ := mb1_some h
  refine j_callVN C hR (As := [.int p1, .int p2]) (ct_H_unitsAt (jl x) (jD x) (jT x) hT p1 p2 σ1 h4) kf_H_unitsAt (by decide) tw_220 tw_222 tw_12 2 rfl rfl (rest := []) rfl rfl (Nat.le_of_ble_eq_true rfl) (by decide) ⟨rfl, rfl⟩ d_P_stock_58 rfl (st1 := [.int r3]) rfl ?_
  cases h
  exact jx_iret C E (by decide) (by decide) hr d_P_stock_61
set_option maxHeartbeats 4000000 in
set_option maxRecDepth 100000 in
theorem wk_P_stock_22 {x : JX} {ad : Nat → Nat} {cA : ClassId} {wr : va_W} (C : jC x cc_P_stock 3 "PlainWarehouse") (hT : (jT x)[0]? = some (cA, .int)) (hR : jR x = rm_P_stock) (Y : jY x)  (p1 : Int32) (p2 : Int32) (σ : SP) {r : Int32} {ex : String} {σ' : SP} (hr : (jt x).sig.returnType = some .int) (E : jEX x 1 6 (some (.int r)) ex ((wP ad cA σ') ++ wr)) (h : k_P_stock_22 p1 p2 σ = some (r, ex, σ')) : jW x 3 0 0 22 [(0, .ref (ad 0)), (1, .int p1), (2, .int p2)] [] ((wP ad cA σ) ++ wr) := by
  unfold k_P_stock_22 at h
  refine j_iload_n C 2 d_P_stock_22 rfl rfl rfl ?_
  refine j_iconst (v := (-1)) C d_P_stock_23 rfl (by decide) ?_
  refine j_icmp_eq (tgt := 44) C d_P_stock_24 (by decide) rfl h (fun h => ?_) (fun h => ?_)
  · exact j_sub [0, 1, 2] rfl (wk_P_stock_44 C hT hR Y p1 p2 σ hr E h)
  · refine j_iload_n C 2 d_P_stock_27 rfl rfl rfl ?_
    obtain ⟨r5, h6, h⟩ := mb1_some h
    refine j_callS C hR (As := [.int p2]) (ct_P_isGood (jl x) (jD x) (jT x) p2 h6) kf_P_isGood (by decide) tw_261 tw_262 (rest := []) rfl rfl (Nat.le_of_ble_eq_true rfl) (by decide) ⟨rfl, rfl⟩ d_P_stock_28 rfl (st1 := [.int r5]) rfl ?_
    refine j_if_ne (tgt := 44) C d_P_stock_31 (by decide) rfl h (fun h => ?_) (fun h => ?_)
    · exact j_sub [0, 1, 2] rfl (wk_P_stock_44 C hT hR Y p1 p2 σ hr E h)
    · cases h
      exact jx_throw C Y hR (tx := "no such good") E (by decide) (by decide +kernel) tw_273 tw_55 (by decide) xat_49 d_P_stock_34 d_P_stock_37 d_P_stock_38 d_P_stock_40 d_P_stock_43 (by decide) (Nat.le_of_ble_eq_true rfl) (by decide) (by decide) (by decide) (by decide)
set_option maxHeartbeats 4000000 in
set_option maxRecDepth 100000 in
theorem w_P_stock {x : JX} {ad : Nat → Nat} {cA : ClassId} {wr : va_W} (C : jC x cc_P_stock 3 "PlainWarehouse") (hT : (jT x)[0]? = some (cA, .int)) (hR : jR x = rm_P_stock) (Y : jY x)  (a1 : Int32) (a2 : Int32) (σ : SP) {r : Int32} {ex : String} {σ' : SP} (hr : (jt x).sig.returnType = some .int) (E : jEX x 1 6 (some (.int r)) ex ((wP ad cA σ') ++ wr)) (h : m_P_stock a1 a2 σ = some (r, ex, σ')) : jW x 3 0 0 0 [(0, .ref (ad 0)), (1, .int a1), (2, .int a2)] [] ((wP ad cA σ) ++ wr) := by
  unfold m_P_stock at h
  refine j_iload_n C 1 d_P_stock_0 rfl rfl rfl ?_
  refine j_iconst (v := (-1)) C d_P_stock_1 rfl (by decide) ?_
  refine j_icmp_eq (tgt := 22) C d_P_stock_2 (by decide) rfl h (fun h => ?_) (fun h => ?_)
  · exact j_sub [0, 1, 2] rfl (wk_P_stock_22 C hT hR Y a1 a2 σ hr E h)
  · refine j_iload_n C 1 d_P_stock_5 rfl rfl rfl ?_
    obtain ⟨r7, h8, h⟩ := mb1_some h
    refine j_callS C hR (As := [.int a1]) (ct_P_isPlace (jl x) (jD x) (jT x) a1 h8) kf_P_isPlace (by decide) tw_264 tw_265 (rest := []) rfl rfl (Nat.le_of_ble_eq_true rfl) (by decide) ⟨rfl, rfl⟩ d_P_stock_6 rfl (st1 := [.int r7]) rfl ?_
    refine j_if_ne (tgt := 22) C d_P_stock_9 (by decide) rfl h (fun h => ?_) (fun h => ?_)
    · exact j_sub [0, 1, 2] rfl (wk_P_stock_22 C hT hR Y a1 a2 σ hr E h)
    · cases h
      exact jx_throw C Y hR (tx := "no such place") E (by decide) (by decide +kernel) tw_273 tw_55 (by decide) xat_49 d_P_stock_12 d_P_stock_15 d_P_stock_16 d_P_stock_18 d_P_stock_21 (by decide) (Nat.le_of_ble_eq_true rfl) (by decide) (by decide) (by decide) (by decide)
theorem ct_P_stock (l : Launch) (D : va_G) (tys : List (ClassId × FieldType)) {ad : Nat → Nat} {cA : ClassId} {wr : va_W} (hT : tys[0]? = some (cA, .int)) (hl : l.stackTraces = false)  (a1 : Int32) (a2 : Int32) (σ : SP) {r : Int32} {ex : String} {σ' : SP} (h : m_P_stock a1 a2 σ = some (r, ex, σ')) : jXM l y_P_stock ws_P_stock rm_P_stock D tys [.ref (ad 0), .int a1, .int a2] ((wP ad cA σ) ++ wr) (some (.int r)) ex ((wP ad cA σ') ++ wr) :=
  jx_of hl (by decide +kernel) rfl (Nat.le_of_ble_eq_true rfl) rfl (fun x _ _ hT' hR C Y hr E => w_P_stock C (by rw [hT']; exact hT) hR Y a1 a2 σ hr E h)
def rm_P_where : Room := { frames := 8, cells := 1, slots := 6, locals := 200 }
def m_P_where (a1 : Int32) (a2 : Int32) (σ : SP) : Option (Int32 × String × SP) :=
  (mb1 (m_P_hasSoMany a2 σ) fun r1 => (if r1 = 0 then some (0, "java/util/NoSuchElementException", σ) else (mb1 (m_P_isUnit a1) fun r3 => (if r3 = 0 then some (0, "java/lang/IllegalArgumentException", σ) else (mb1 (m_P_replay a2 σ) fun σ5 => (mrd 20 (g_pl σ5) a1 fun r7 => some (r7, "", σ5)))))))
set_option maxHeartbeats 4000000 in
set_option maxRecDepth 100000 in
theorem w_P_where {x : JX} {ad : Nat → Nat} {cA : ClassId} {wr : va_W} (C : jC x cc_P_where 3 "PlainWarehouse") (hT : (jT x)[0]? = some (cA, .int)) (hR : jR x = rm_P_where) (Y : jY x)  (a1 : Int32) (a2 : Int32) (σ : SP) {r : Int32} {ex : String} {σ' : SP} (hr : (jt x).sig.returnType = some .int) (E : jEX x 1 6 (some (.int r)) ex ((wP ad cA σ') ++ wr)) (h : m_P_where a1 a2 σ = some (r, ex, σ')) : jW x 3 0 0 0 [(0, .ref (ad 0)), (1, .int a1), (2, .int a2)] [] ((wP ad cA σ) ++ wr) := by
  unfold m_P_where at h
  refine j_aload_n C 0 d_P_where_0 rfl rfl rfl ?_
  refine j_iload_n C 2 d_P_where_1 rfl rfl rfl ?_
  obtain ⟨r1, h2, h⟩ := mb1_some h
  refine j_callV C hR (As := [.int a2]) (ct_P_hasSoMany (jl x) (jD x) (jT x) hT a2 σ h2) kf_P_hasSoMany (by decide) tw_379 tw_381 tw_19 0 rfl rfl (rest := []) rfl rfl (Nat.le_of_ble_eq_true rfl) (by decide) ⟨rfl, rfl⟩ d_P_where_2 rfl (st1 := [.int r1]) rfl ?_
  refine j_if_ne (tgt := 18) C d_P_where_5 (by decide) rfl h (fun h => ?_) (fun h => ?_)
  · refine j_iload_n C 1 d_P_where_18 rfl rfl rfl ?_
    obtain ⟨r3, h4, h⟩ := mb1_some h
    refine j_callS C hR (As := [.int a1]) (ct_P_isUnit (jl x) (jD x) (jT x) a1 h4) kf_P_isUnit (by decide) tw_255 tw_256 (rest := []) rfl rfl (Nat.le_of_ble_eq_true rfl) (by decide) ⟨rfl, rfl⟩ d_P_where_19 rfl (st1 := [.int r3]) rfl ?_
    refine j_if_ne (tgt := 35) C d_P_where_22 (by decide) rfl h (fun h => ?_) (fun h => ?_)
    · refine j_aload_n C 0 d_P_where_35 rfl rfl rfl ?_
      refine j_iload_n C 2 d_P_where_36 rfl rfl rfl ?_
      obtain ⟨σ5, h6, h⟩ := mb1_some h
      refine j_callV C hR (As := [.int a2]) (ct_P_replay (jl x) (jD x) (jT x) hT a2 σ h6) kf_P_replay (by decide) tw_166 tw_168 tw_0 0 rfl rfl (rest := []) rfl rfl (Nat.le_of_ble_eq_true rfl) (by decide) ⟨rfl, rfl⟩ d_P_where_37 rfl (st1 := []) rfl ?_
      refine j_aload_n C 0 d_P_where_40 rfl rfl rfl ?_
      refine j_get C in_P 0 rfl rfl 3 (by decide) tw_146 rfl (v := .ref (ad 2)) rfl d_P_where_41 rfl ?_
      refine j_getN C in_H 2 rfl rfl 0 (by decide) tw_78 rfl (v := .ref (ad 3)) rfl d_P_where_44 rfl ?_
      refine j_iload_n C 1 d_P_where_47 rfl rfl rfl ?_
      refine j_iald C 3 0 rfl hT d_P_where_48 rfl h (fun r7 h => ?_)
      cases h
      exact jx_iret C E (by decide) (by decide) hr d_P_where_49
    · cases h
      exact jx_throw C Y hR (tx := "no such unit") E (by decide) (by decide +kernel) tw_273 tw_55 (by decide) xat_49 d_P_where_25 d_P_where_28 d_P_where_29 d_P_where_31 d_P_where_34 (by decide) (Nat.le_of_ble_eq_true rfl) (by decide) (by decide) (by decide) (by decide)
  · cases h
    exact jx_throwN (bts := prog_18_method_4_code) (ix := 13) C Y hR (by decide +kernel) (by decide +kernel) (by decide +kernel) (by decide +kernel) (tx := "not so many events") E (by decide) (by decide +kernel) tw_383 tw_58 (by decide) xat_90 d_P_where_8 d_P_where_11 d_P_where_12 d_P_where_14 d_P_where_17 (by decide) (Nat.le_of_ble_eq_true rfl) (by decide) (by decide) (by decide) (by decide)
theorem ct_P_where (l : Launch) (D : va_G) (tys : List (ClassId × FieldType)) {ad : Nat → Nat} {cA : ClassId} {wr : va_W} (hT : tys[0]? = some (cA, .int)) (hl : l.stackTraces = false)  (a1 : Int32) (a2 : Int32) (σ : SP) {r : Int32} {ex : String} {σ' : SP} (h : m_P_where a1 a2 σ = some (r, ex, σ')) : jXM l y_P_where ws_P_where rm_P_where D tys [.ref (ad 0), .int a1, .int a2] ((wP ad cA σ) ++ wr) (some (.int r)) ex ((wP ad cA σ') ++ wr) :=
  jx_of hl (by decide +kernel) rfl (Nat.le_of_ble_eq_true rfl) rfl (fun x _ _ hT' hR C Y hr E => w_P_where C (by rw [hT']; exact hT) hR Y a1 a2 σ hr E h)
def rm_P_order : Room := { frames := 8, cells := 1, slots := 6, locals := 200 }
def m_P_order (a1 : Int32) (a2 : Int32) (σ : SP) : Option (Int32 × String × SP) :=
  (mb1 (m_P_replay (g_ec σ) σ) fun σ1 => (mb1 (m_H_isTold a1 σ1) fun r3 => (if r3 = 0 then some (0, "java/util/NoSuchElementException", σ1) else (if a2 = 0 then (mb1 (m_H_isFull a1 σ1) fun r5 => (if r5 = 0 then some ((0 : Int32), "", σ1) else some ((1 : Int32), "", σ1))) else (if a2 = 1 then (mrd 10 (g_gt σ1) a1 fun r7 => some (r7, "", σ1)) else (if a2 = 2 then (mrd 10 (g_gw σ1) a1 fun r8 => some (r8, "", σ1)) else (if a2 = 3 then (mrd 10 (g_gw σ1) a1 fun r9 => (mb1 (m_H_freeUnits r9 σ1) fun r10 => some (r10, "", σ1))) else some (0, "java/lang/IllegalArgumentException", σ1))))))))
set_option maxHeartbeats 4000000 in
set_option maxRecDepth 100000 in
theorem w_P_order {x : JX} {ad : Nat → Nat} {cA : ClassId} {wr : va_W} (C : jC x cc_P_order 3 "PlainWarehouse") (hT : (jT x)[0]? = some (cA, .int)) (hR : jR x = rm_P_order) (Y : jY x)  (a1 : Int32) (a2 : Int32) (σ : SP) {r : Int32} {ex : String} {σ' : SP} (hr : (jt x).sig.returnType = some .int) (E : jEX x 1 6 (some (.int r)) ex ((wP ad cA σ') ++ wr)) (h : m_P_order a1 a2 σ = some (r, ex, σ')) : jW x 3 0 0 0 [(0, .ref (ad 0)), (1, .int a1), (2, .int a2)] [] ((wP ad cA σ) ++ wr) := by
  unfold m_P_order at h
  refine j_aload_n C 0 d_P_order_0 rfl rfl rfl ?_
  refine j_aload_n C 0 d_P_order_1 rfl rfl rfl ?_
  refine j_get C in_P 0 rfl rfl 1 (by decide) tw_144 rfl (v := .int (g_ec σ)) rfl d_P_order_2 rfl ?_
  obtain ⟨σ1, h2, h⟩ := mb1_some h
  refine j_callV C hR (As := [.int (g_ec σ)]) (ct_P_replay (jl x) (jD x) (jT x) hT (g_ec σ) σ h2) kf_P_replay (by decide) tw_166 tw_168 tw_0 0 rfl rfl (rest := []) rfl rfl (Nat.le_of_ble_eq_true rfl) (by decide) ⟨rfl, rfl⟩ d_P_order_5 rfl (st1 := []) rfl ?_
  refine j_aload_n C 0 d_P_order_8 rfl rfl rfl ?_
  refine j_get C in_P 0 rfl rfl 3 (by decide) tw_146 rfl (v := .ref (ad 2)) rfl d_P_order_9 rfl ?_
  refine j_iload_n C 1 d_P_order_12 rfl rfl rfl ?_
  obtain ⟨r3, h4, h⟩ := mb1_some h
  refine j_callVN C hR (As := [.int a1]) (ct_H_isTold (jl x) (jD x) (jT x) hT a1 σ1 h4) kf_H_isTold (by decide) tw_407 tw_199 tw_7 2 rfl rfl (rest := []) rfl rfl (Nat.le_of_ble_eq_true rfl) (by decide) ⟨rfl, rfl⟩ d_P_order_13 rfl (st1 := [.int r3]) rfl ?_
  refine j_if_ne (tgt := 29) C d_P_order_16 (by decide) rfl h (fun h => ?_) (fun h => ?_)
  · refine j_iload_n C 2 d_P_order_29 rfl rfl rfl ?_
    refine j_tsw (k := 0) (tgt := 60) C d_P_order_30 (by decide) (by decide) rfl (by decide) h (fun h => ?_) (fun n0 h => ?_)
    · refine j_aload_n C 0 d_P_order_60 rfl rfl rfl ?_
      refine j_get C in_P 0 rfl rfl 3 (by decide) tw_146 rfl (v := .ref (ad 2)) rfl d_P_order_61 rfl ?_
      refine j_iload_n C 1 d_P_order_64 rfl rfl rfl ?_
      obtain ⟨r5, h6, h⟩ := mb1_some h
      refine j_callVN C hR (As := [.int a1]) (ct_H_isFull (jl x) (jD x) (jT x) hT a1 σ1 h6) kf_H_isFull (by decide) tw_409 tw_237 tw_15 2 rfl rfl (rest := []) rfl rfl (Nat.le_of_ble_eq_true rfl) (by decide) ⟨rfl, rfl⟩ d_P_order_65 rfl (st1 := [.int r5]) rfl ?_
      refine j_if_eq (tgt := 75) C d_P_order_68 (by decide) rfl h (fun h => ?_) (fun h => ?_)
      · refine j_iconst (v := 0) C d_P_order_75 rfl (by decide) ?_
        cases h
        exact jx_iret C E (by decide) (by decide) hr d_P_order_76
      · refine j_iconst (v := 1) C d_P_order_71 rfl (by decide) ?_
        refine j_goto (tgt := 76) C d_P_order_72 (by decide) ?_
        cases h
        exact jx_iret C E (by decide) (by decide) hr d_P_order_76
    refine j_tsw (k := 1) (tgt := 77) C d_P_order_30 (by decide) (by decide) rfl (by decide) h (fun h => ?_) (fun n1 h => ?_)
    · refine j_aload_n C 0 d_P_order_77 rfl rfl rfl ?_
      refine j_get C in_P 0 rfl rfl 3 (by decide) tw_146 rfl (v := .ref (ad 2)) rfl d_P_order_78 rfl ?_
      refine j_getN C in_H 2 rfl rfl 5 (by decide) tw_88 rfl (v := .ref (ad 8)) rfl d_P_order_81 rfl ?_
      refine j_iload_n C 1 d_P_order_84 rfl rfl rfl ?_
      refine j_iald C 8 0 rfl hT d_P_order_85 rfl h (fun r7 h => ?_)
      cases h
      exact jx_iret C E (by decide) (by decide) hr d_P_order_86
    refine j_tsw (k := 2) (tgt := 87) C d_P_order_30 (by decide) (by decide) rfl (by decide) h (fun h => ?_) (fun n2 h => ?_)
    · refine j_aload_n C 0 d_P_order_87 rfl rfl rfl ?_
      refine j_get C in_P 0 rfl rfl 3 (by decide) tw_146 rfl (v := .ref (ad 2)) rfl d_P_order_88 rfl ?_
      refine j_getN C in_H 2 rfl rfl 4 (by decide) tw_85 rfl (v := .ref (ad 7)) rfl d_P_order_91 rfl ?_
      refine j_iload_n C 1 d_P_order_94 rfl rfl rfl ?_
      refine j_iald C 7 0 rfl hT d_P_order_95 rfl h (fun r8 h => ?_)
      cases h
      exact jx_iret C E (by decide) (by decide) hr d_P_order_96
    refine j_tsw (k := 3) (tgt := 97) C d_P_order_30 (by decide) (by decide) rfl (by decide) h (fun h => ?_) (fun n3 h => ?_)
    · refine j_aload_n C 0 d_P_order_97 rfl rfl rfl ?_
      refine j_get C in_P 0 rfl rfl 3 (by decide) tw_146 rfl (v := .ref (ad 2)) rfl d_P_order_98 rfl ?_
      refine j_aload_n C 0 d_P_order_101 rfl rfl rfl ?_
      refine j_get C in_P 0 rfl rfl 3 (by decide) tw_146 rfl (v := .ref (ad 2)) rfl d_P_order_102 rfl ?_
      refine j_getN C in_H 2 rfl rfl 4 (by decide) tw_85 rfl (v := .ref (ad 7)) rfl d_P_order_105 rfl ?_
      refine j_iload_n C 1 d_P_order_108 rfl rfl rfl ?_
      refine j_iald C 7 0 rfl hT d_P_order_109 rfl h (fun r9 h => ?_)
      obtain ⟨r10, h11, h⟩ := mb1_some h
      refine j_callVN C hR (As := [.int r9]) (ct_H_freeUnits (jl x) (jD x) (jT x) hT r9 σ1 h11) kf_H_freeUnits (by decide) tw_410 tw_412 tw_20 2 rfl rfl (rest := []) rfl rfl (Nat.le_of_ble_eq_true rfl) (by decide) ⟨rfl, rfl⟩ d_P_order_110 rfl (st1 := [.int r10]) rfl ?_
      cases h
      exact jx_iret C E (by decide) (by decide) hr d_P_order_113
    refine j_tswD (tgt := 114) C d_P_order_30 (by have q0 := tiNe (z := 0) (by decide) n0; have q1 := tiNe (z := 1) (by decide) n1; have q2 := tiNe (z := 2) (by decide) n2; have q3 := tiNe (z := 3) (by decide) n3; omega) (by decide) ?_
    cases h
    exact jx_throw C Y hR (tx := "an order tells 0 to 3") E (by decide) (by decide +kernel) tw_273 tw_55 (by decide) xat_49 d_P_order_114 d_P_order_117 d_P_order_118 d_P_order_120 d_P_order_123 (by decide) (Nat.le_of_ble_eq_true rfl) (by decide) (by decide) (by decide) (by decide)
  · cases h
    exact jx_throwN (bts := prog_18_method_4_code) (ix := 13) C Y hR (by decide +kernel) (by decide +kernel) (by decide +kernel) (by decide +kernel) (tx := "the order was not told") E (by decide) (by decide +kernel) tw_383 tw_58 (by decide) xat_90 d_P_order_19 d_P_order_22 d_P_order_23 d_P_order_25 d_P_order_28 (by decide) (Nat.le_of_ble_eq_true rfl) (by decide) (by decide) (by decide) (by decide)
theorem ct_P_order (l : Launch) (D : va_G) (tys : List (ClassId × FieldType)) {ad : Nat → Nat} {cA : ClassId} {wr : va_W} (hT : tys[0]? = some (cA, .int)) (hl : l.stackTraces = false)  (a1 : Int32) (a2 : Int32) (σ : SP) {r : Int32} {ex : String} {σ' : SP} (h : m_P_order a1 a2 σ = some (r, ex, σ')) : jXM l y_P_order ws_P_order rm_P_order D tys [.ref (ad 0), .int a1, .int a2] ((wP ad cA σ) ++ wr) (some (.int r)) ex ((wP ad cA σ') ++ wr) :=
  jx_of hl (by decide +kernel) rfl (Nat.le_of_ble_eq_true rfl) rfl (fun x _ _ hT' hR C Y hr E => w_P_order C (by rw [hT']; exact hT) hR Y a1 a2 σ hr E h)
def rm_P_promise : Room := { frames := 8, cells := 1, slots := 6, locals := 200 }
def m_P_promise (a1 : Int32) (σ : SP) : Option (Int32 × String × SP) :=
  (mb1 (m_P_replay (g_ec σ) σ) fun σ1 => (mb1 (m_P_areAllTold a1 σ1) fun r3 => (if r3 = 0 then some (0, "java/util/NoSuchElementException", σ1) else (mb1 (m_JI_bitCount a1) fun r5 => (if r5 ≤ (6 : Int32) then (mb2 (m_F_most a1 σ1) fun r7 σ8 => some (r7, "", σ8)) else some ((-1 : Int32), "", σ1))))))
set_option maxHeartbeats 4000000 in
set_option maxRecDepth 100000 in
theorem w_P_promise {x : JX} {ad : Nat → Nat} {cA : ClassId} {wr : va_W} (C : jC x cc_P_promise 2 "PlainWarehouse") (hT : (jT x)[0]? = some (cA, .int)) (hR : jR x = rm_P_promise) (Y : jY x)  (a1 : Int32) (σ : SP) {r : Int32} {ex : String} {σ' : SP} (hr : (jt x).sig.returnType = some .int) (E : jEX x 1 6 (some (.int r)) ex ((wP ad cA σ') ++ wr)) (h : m_P_promise a1 σ = some (r, ex, σ')) : jW x 2 0 0 0 [(0, .ref (ad 0)), (1, .int a1)] [] ((wP ad cA σ) ++ wr) := by
  unfold m_P_promise at h
  refine j_aload_n C 0 d_P_promise_0 rfl rfl rfl ?_
  refine j_aload_n C 0 d_P_promise_1 rfl rfl rfl ?_
  refine j_get C in_P 0 rfl rfl 1 (by decide) tw_144 rfl (v := .int (g_ec σ)) rfl d_P_promise_2 rfl ?_
  obtain ⟨σ1, h2, h⟩ := mb1_some h
  refine j_callV C hR (As := [.int (g_ec σ)]) (ct_P_replay (jl x) (jD x) (jT x) hT (g_ec σ) σ h2) kf_P_replay (by decide) tw_166 tw_168 tw_0 0 rfl rfl (rest := []) rfl rfl (Nat.le_of_ble_eq_true rfl) (by decide) ⟨rfl, rfl⟩ d_P_promise_5 rfl (st1 := []) rfl ?_
  refine j_aload_n C 0 d_P_promise_8 rfl rfl rfl ?_
  refine j_iload_n C 1 d_P_promise_9 rfl rfl rfl ?_
  obtain ⟨r3, h4, h⟩ := mb1_some h
  refine j_callV C hR (As := [.int a1]) (ct_P_areAllTold (jl x) (jD x) (jT x) hT a1 σ1 h4) kf_P_areAllTold (by decide) tw_422 tw_424 tw_21 0 rfl rfl (rest := []) rfl rfl (Nat.le_of_ble_eq_true rfl) (by decide) ⟨rfl, rfl⟩ d_P_promise_10 rfl (st1 := [.int r3]) rfl ?_
  refine j_if_ne (tgt := 26) C d_P_promise_13 (by decide) rfl h (fun h => ?_) (fun h => ?_)
  · refine j_iload_n C 1 d_P_promise_26 rfl rfl rfl ?_
    obtain ⟨r5, h6, h⟩ := mb1_some h
    refine j_callS C hR (As := [.int a1]) (ct_JI_bitCount (jl x) (jD x) (jT x) a1 h6) kf_JI_bitCount (by decide) tw_430 tw_431 (rest := []) rfl rfl (Nat.le_of_ble_eq_true rfl) (by decide) ⟨rfl, rfl⟩ d_P_promise_27 rfl (st1 := [.int r5]) rfl ?_
    refine j_bipush (v := 6) C d_P_promise_30 rfl (by decide) ?_
    refine j_icmp_le (tgt := 37) C d_P_promise_32 (by decide) rfl h (fun h => ?_) (fun h => ?_)
    · refine j_aload_n C 0 d_P_promise_37 rfl rfl rfl ?_
      refine j_get C in_P 0 rfl rfl 4 (by decide) tw_147 rfl (v := .ref (ad 11)) rfl d_P_promise_38 rfl ?_
      refine j_aload_n C 0 d_P_promise_41 rfl rfl rfl ?_
      refine j_get C in_P 0 rfl rfl 3 (by decide) tw_146 rfl (v := .ref (ad 2)) rfl d_P_promise_42 rfl ?_
      refine j_iload_n C 1 d_P_promise_45 rfl rfl rfl ?_
      obtain ⟨r7, σ8, h9, h⟩ := mb2_some h
      refine j_callVN C hR (As := [.ref (ad 2), .int a1]) (ct_F_most (jl x) (jD x) (jT x) hT a1 σ1 h9) kf_F_most (by decide) tw_436 tw_438 tw_22 11 rfl rfl (rest := []) rfl rfl (Nat.le_of_ble_eq_true rfl) (by decide) ⟨rfl, rfl⟩ d_P_promise_46 rfl (st1 := [.int r7]) rfl ?_
      cases h
      exact jx_iret C E (by decide) (by decide) hr d_P_promise_49
    · refine j_iconst (v := (-1)) C d_P_promise_35 rfl (by decide) ?_
      cases h
      exact jx_iret C E (by decide) (by decide) hr d_P_promise_36
  · cases h
    exact jx_throwN (bts := prog_18_method_4_code) (ix := 13) C Y hR (by decide +kernel) (by decide +kernel) (by decide +kernel) (by decide +kernel) (tx := "an order in the set was not told") E (by decide) (by decide +kernel) tw_383 tw_58 (by decide) xat_90 d_P_promise_16 d_P_promise_19 d_P_promise_20 d_P_promise_22 d_P_promise_25 (by decide) (Nat.le_of_ble_eq_true rfl) (by decide) (by decide) (by decide) (by decide)
theorem ct_P_promise (l : Launch) (D : va_G) (tys : List (ClassId × FieldType)) {ad : Nat → Nat} {cA : ClassId} {wr : va_W} (hT : tys[0]? = some (cA, .int)) (hl : l.stackTraces = false)  (a1 : Int32) (σ : SP) {r : Int32} {ex : String} {σ' : SP} (h : m_P_promise a1 σ = some (r, ex, σ')) : jXM l y_P_promise ws_P_promise rm_P_promise D tys [.ref (ad 0), .int a1] ((wP ad cA σ) ++ wr) (some (.int r)) ex ((wP ad cA σ') ++ wr) :=
  jx_of hl (by decide +kernel) rfl (Nat.le_of_ble_eq_true rfl) rfl (fun x _ _ hT' hR C Y hr E => w_P_promise C (by rw [hT']; exact hT) hR Y a1 σ hr E h)
def rm_P_way : Room := { frames := 8, cells := 1, slots := 6, locals := 200 }
def m_P_way (a1 : Int32) (a2 : Int32) (σ : SP) : Option (Int32 × String × SP) :=
  (mb1 (m_P_isPlace a1) fun r1 => (if r1 = 0 then some (0, "java/lang/IllegalArgumentException", σ) else (mb1 (m_P_isPlace a2) fun r3 => (if r3 = 0 then some (0, "java/lang/IllegalArgumentException", σ) else (mb1 (m_P_replay (g_ec σ) σ) fun σ5 => (mb1 (m_Y_measure σ5) fun σ7 => (mb1 (m_Y_between a1 a2 σ7) fun r9 => (mb1 (m_P_orNone r9) fun r11 => some (r11, "", σ7)))))))))
set_option maxHeartbeats 4000000 in
set_option maxRecDepth 100000 in
theorem w_P_way {x : JX} {ad : Nat → Nat} {cA : ClassId} {wr : va_W} (C : jC x cc_P_way 3 "PlainWarehouse") (hT : (jT x)[0]? = some (cA, .int)) (hR : jR x = rm_P_way) (Y : jY x)  (a1 : Int32) (a2 : Int32) (σ : SP) {r : Int32} {ex : String} {σ' : SP} (hr : (jt x).sig.returnType = some .int) (E : jEX x 1 6 (some (.int r)) ex ((wP ad cA σ') ++ wr)) (h : m_P_way a1 a2 σ = some (r, ex, σ')) : jW x 3 0 0 0 [(0, .ref (ad 0)), (1, .int a1), (2, .int a2)] [] ((wP ad cA σ) ++ wr) := by
  unfold m_P_way at h
  refine j_iload_n C 1 d_P_way_0 rfl rfl rfl ?_
  obtain ⟨r1, h2, h⟩ := mb1_some h
  refine j_callS C hR (As := [.int a1]) (ct_P_isPlace (jl x) (jD x) (jT x) a1 h2) kf_P_isPlace (by decide) tw_264 tw_265 (rest := []) rfl rfl (Nat.le_of_ble_eq_true rfl) (by decide) ⟨rfl, rfl⟩ d_P_way_1 rfl (st1 := [.int r1]) rfl ?_
  refine j_if_eq (tgt := 14) C d_P_way_4 (by decide) rfl h (fun h => ?_) (fun h => ?_)
  · cases h
    exact jx_throw C Y hR (tx := "no such place") E (by decide) (by decide +kernel) tw_273 tw_55 (by decide) xat_49 d_P_way_14 d_P_way_17 d_P_way_18 d_P_way_20 d_P_way_23 (by decide) (Nat.le_of_ble_eq_true rfl) (by decide) (by decide) (by decide) (by decide)
  · refine j_iload_n C 2 d_P_way_7 rfl rfl rfl ?_
    obtain ⟨r3, h4, h⟩ := mb1_some h
    refine j_callS C hR (As := [.int a2]) (ct_P_isPlace (jl x) (jD x) (jT x) a2 h4) kf_P_isPlace (by decide) tw_264 tw_265 (rest := []) rfl rfl (Nat.le_of_ble_eq_true rfl) (by decide) ⟨rfl, rfl⟩ d_P_way_8 rfl (st1 := [.int r3]) rfl ?_
    refine j_if_ne (tgt := 24) C d_P_way_11 (by decide) rfl h (fun h => ?_) (fun h => ?_)
    · refine j_aload_n C 0 d_P_way_24 rfl rfl rfl ?_
      refine j_aload_n C 0 d_P_way_25 rfl rfl rfl ?_
      refine j_get C in_P 0 rfl rfl 1 (by decide) tw_144 rfl (v := .int (g_ec σ)) rfl d_P_way_26 rfl ?_
      obtain ⟨σ5, h6, h⟩ := mb1_some h
      refine j_callV C hR (As := [.int (g_ec σ)]) (ct_P_replay (jl x) (jD x) (jT x) hT (g_ec σ) σ h6) kf_P_replay (by decide) tw_166 tw_168 tw_0 0 rfl rfl (rest := []) rfl rfl (Nat.le_of_ble_eq_true rfl) (by decide) ⟨rfl, rfl⟩ d_P_way_29 rfl (st1 := []) rfl ?_
      refine j_aload_n C 0 d_P_way_32 rfl rfl rfl ?_
      refine j_get C in_P 0 rfl rfl 5 (by decide) tw_148 rfl (v := .ref (ad 16)) rfl d_P_way_33 rfl ?_
      refine j_aload_n C 0 d_P_way_36 rfl rfl rfl ?_
      refine j_get C in_P 0 rfl rfl 3 (by decide) tw_146 rfl (v := .ref (ad 2)) rfl d_P_way_37 rfl ?_
      obtain ⟨σ7, h8, h⟩ := mb1_some h
      refine j_callVN C hR (As := [.ref (ad 2)]) (ct_Y_measure (jl x) (jD x) (jT x) hT  σ5 h8) kf_Y_measure (by decide) tw_466 tw_468 tw_26 16 rfl rfl (rest := []) rfl rfl (Nat.le_of_ble_eq_true rfl) (by decide) ⟨rfl, rfl⟩ d_P_way_40 rfl (st1 := []) rfl ?_
      refine j_aload_n C 0 d_P_way_43 rfl rfl rfl ?_
      refine j_get C in_P 0 rfl rfl 5 (by decide) tw_148 rfl (v := .ref (ad 16)) rfl d_P_way_44 rfl ?_
      refine j_iload_n C 1 d_P_way_47 rfl rfl rfl ?_
      refine j_iload_n C 2 d_P_way_48 rfl rfl rfl ?_
      obtain ⟨r9, h10, h⟩ := mb1_some h
      refine j_callVN C hR (As := [.int a1, .int a2]) (ct_Y_between (jl x) (jD x) (jT x) hT a1 a2 σ7 h10) kf_Y_between (by decide) tw_483 tw_485 tw_29 16 rfl rfl (rest := []) rfl rfl (Nat.le_of_ble_eq_true rfl) (by decide) ⟨rfl, rfl⟩ d_P_way_49 rfl (st1 := [.int r9]) rfl ?_
      obtain ⟨r11, h12, h⟩ := mb1_some h
      refine j_callS C hR (As := [.int r9]) (ct_P_orNone (jl x) (jD x) (jT x) r9 h12) kf_P_orNone (by decide) tw_487 tw_488 (rest := []) rfl rfl (Nat.le_of_ble_eq_true rfl) (by decide) ⟨rfl, rfl⟩ d_P_way_52 rfl (st1 := [.int r11]) rfl ?_
      cases h
      exact jx_iret C E (by decide) (by decide) hr d_P_way_55
    · cases h
      exact jx_throw C Y hR (tx := "no such place") E (by decide) (by decide +kernel) tw_273 tw_55 (by decide) xat_49 d_P_way_14 d_P_way_17 d_P_way_18 d_P_way_20 d_P_way_23 (by decide) (Nat.le_of_ble_eq_true rfl) (by decide) (by decide) (by decide) (by decide)
theorem ct_P_way (l : Launch) (D : va_G) (tys : List (ClassId × FieldType)) {ad : Nat → Nat} {cA : ClassId} {wr : va_W} (hT : tys[0]? = some (cA, .int)) (hl : l.stackTraces = false)  (a1 : Int32) (a2 : Int32) (σ : SP) {r : Int32} {ex : String} {σ' : SP} (h : m_P_way a1 a2 σ = some (r, ex, σ')) : jXM l y_P_way ws_P_way rm_P_way D tys [.ref (ad 0), .int a1, .int a2] ((wP ad cA σ) ++ wr) (some (.int r)) ex ((wP ad cA σ') ++ wr) :=
  jx_of hl (by decide +kernel) rfl (Nat.le_of_ble_eq_true rfl) rfl (fun x _ _ hT' hR C Y hr E => w_P_way C (by rw [hT']; exact hT) hR Y a1 a2 σ hr E h)
def rm_P_walk : Room := { frames := 11, cells := 1, slots := 6, locals := 277 }
def m_P_walk (a1 : Int32) (a2 : Int32) (σ : SP) : Option (Int32 × String × SP) :=
  (mb1 (m_P_replay (g_ec σ) σ) fun σ1 => (mb1 (m_H_isTold a1 σ1) fun r3 => (if r3 = 0 then some (0, "java/util/NoSuchElementException", σ1) else (mb1 (m_P_isPlace a2) fun r5 => (if r5 = 0 then some (0, "java/lang/IllegalArgumentException", σ1) else (mb1 (m_H_placesOfUnitsGivenTo a1 σ1) fun r7 => (mb1 (m_JI_bitCount r7) fun r9 => (if r9 ≤ (4 : Int32) then (mb1 (m_Y_measure σ1) fun σ11 => (mb1 (m_Y_fewestThrough a2 r7 σ11) fun r13 => (mb1 (m_P_orNone r13) fun r15 => some (r15, "", σ11)))) else some ((-2 : Int32), "", σ1)))))))))
set_option maxHeartbeats 4000000 in
set_option maxRecDepth 100000 in
theorem w_P_walk {x : JX} {ad : Nat → Nat} {cA : ClassId} {wr : va_W} (C : jC x cc_P_walk 4 "PlainWarehouse") (hT : (jT x)[0]? = some (cA, .int)) (hR : jR x = rm_P_walk) (Y : jY x)  (a1 : Int32) (a2 : Int32) (σ : SP) {r : Int32} {ex : String} {σ' : SP} (hr : (jt x).sig.returnType = some .int) (E : jEX x 1 6 (some (.int r)) ex ((wP ad cA σ') ++ wr)) (h : m_P_walk a1 a2 σ = some (r, ex, σ')) : jW x 4 0 0 0 [(0, .ref (ad 0)), (1, .int a1), (2, .int a2)] [] ((wP ad cA σ) ++ wr) := by
  unfold m_P_walk at h
  refine j_aload_n C 0 d_P_walk_0 rfl rfl rfl ?_
  refine j_aload_n C 0 d_P_walk_1 rfl rfl rfl ?_
  refine j_get C in_P 0 rfl rfl 1 (by decide) tw_144 rfl (v := .int (g_ec σ)) rfl d_P_walk_2 rfl ?_
  obtain ⟨σ1, h2, h⟩ := mb1_some h
  refine j_callV C hR (As := [.int (g_ec σ)]) (ct_P_replay (jl x) (jD x) (jT x) hT (g_ec σ) σ h2) kf_P_replay (by decide) tw_166 tw_168 tw_0 0 rfl rfl (rest := []) rfl rfl (Nat.le_of_ble_eq_true rfl) (by decide) ⟨rfl, rfl⟩ d_P_walk_5 rfl (st1 := []) rfl ?_
  refine j_aload_n C 0 d_P_walk_8 rfl rfl rfl ?_
  refine j_get C in_P 0 rfl rfl 3 (by decide) tw_146 rfl (v := .ref (ad 2)) rfl d_P_walk_9 rfl ?_
  refine j_iload_n C 1 d_P_walk_12 rfl rfl rfl ?_
  obtain ⟨r3, h4, h⟩ := mb1_some h
  refine j_callVN C hR (As := [.int a1]) (ct_H_isTold (jl x) (jD x) (jT x) hT a1 σ1 h4) kf_H_isTold (by decide) tw_407 tw_199 tw_7 2 rfl rfl (rest := []) rfl rfl (Nat.le_of_ble_eq_true rfl) (by decide) ⟨rfl, rfl⟩ d_P_walk_13 rfl (st1 := [.int r3]) rfl ?_
  refine j_if_ne (tgt := 29) C d_P_walk_16 (by decide) rfl h (fun h => ?_) (fun h => ?_)
  · refine j_iload_n C 2 d_P_walk_29 rfl rfl rfl ?_
    obtain ⟨r5, h6, h⟩ := mb1_some h
    refine j_callS C hR (As := [.int a2]) (ct_P_isPlace (jl x) (jD x) (jT x) a2 h6) kf_P_isPlace (by decide) tw_264 tw_265 (rest := []) rfl rfl (Nat.le_of_ble_eq_true rfl) (by decide) ⟨rfl, rfl⟩ d_P_walk_30 rfl (st1 := [.int r5]) rfl ?_
    refine j_if_ne (tgt := 46) C d_P_walk_33 (by decide) rfl h (fun h => ?_) (fun h => ?_)
    · refine j_aload_n C 0 d_P_walk_46 rfl rfl rfl ?_
      refine j_get C in_P 0 rfl rfl 3 (by decide) tw_146 rfl (v := .ref (ad 2)) rfl d_P_walk_47 rfl ?_
      refine j_iload_n C 1 d_P_walk_50 rfl rfl rfl ?_
      obtain ⟨r7, h8, h⟩ := mb1_some h
      refine j_callVN C hR (As := [.int a1]) (ct_H_placesOfUnitsGivenTo (jl x) (jD x) (jT x) hT a1 σ1 h8) kf_H_placesOfUnitsGivenTo (by decide) tw_498 tw_500 tw_30 2 rfl rfl (rest := []) rfl rfl (Nat.le_of_ble_eq_true rfl) (by decide) ⟨rfl, rfl⟩ d_P_walk_51 rfl (st1 := [.int r7]) rfl ?_
      refine j_istore_n (lv' := [(3, .int r7), (0, .ref (ad 0)), (1, .int a1), (2, .int a2)]) C d_P_walk_54 rfl rfl (by decide) rfl ?_
      refine j_iload_n C 0 d_P_walk_55 rfl rfl rfl ?_
      obtain ⟨r9, h10, h⟩ := mb1_some h
      refine j_callS C hR (As := [.int r7]) (ct_JI_bitCount (jl x) (jD x) (jT x) r7 h10) kf_JI_bitCount (by decide) tw_430 tw_431 (rest := []) rfl rfl (Nat.le_of_ble_eq_true rfl) (by decide) ⟨rfl, rfl⟩ d_P_walk_56 rfl (st1 := [.int r9]) rfl ?_
      refine j_iconst (v := 4) C d_P_walk_59 rfl (by decide) ?_
      refine j_icmp_le (tgt := 66) C d_P_walk_60 (by decide) rfl h (fun h => ?_) (fun h => ?_)
      · refine j_aload_n C 1 d_P_walk_66 rfl rfl rfl ?_
        refine j_get C in_P 0 rfl rfl 5 (by decide) tw_148 rfl (v := .ref (ad 16)) rfl d_P_walk_67 rfl ?_
        refine j_aload_n C 1 d_P_walk_70 rfl rfl rfl ?_
        refine j_get C in_P 0 rfl rfl 3 (by decide) tw_146 rfl (v := .ref (ad 2)) rfl d_P_walk_71 rfl ?_
        obtain ⟨σ11, h12, h⟩ := mb1_some h
        refine j_callVN C hR (As := [.ref (ad 2)]) (ct_Y_measure (jl x) (jD x) (jT x) hT  σ1 h12) kf_Y_measure (by decide) tw_466 tw_468 tw_26 16 rfl rfl (rest := []) rfl rfl (Nat.le_of_ble_eq_true rfl) (by decide) ⟨rfl, rfl⟩ d_P_walk_74 rfl (st1 := []) rfl ?_
        refine j_aload_n C 1 d_P_walk_77 rfl rfl rfl ?_
        refine j_get C in_P 0 rfl rfl 5 (by decide) tw_148 rfl (v := .ref (ad 16)) rfl d_P_walk_78 rfl ?_
        refine j_iload_n C 3 d_P_walk_81 rfl rfl rfl ?_
        refine j_iload_n C 0 d_P_walk_82 rfl rfl rfl ?_
        obtain ⟨r13, h14, h⟩ := mb1_some h
        refine j_callVN C hR (As := [.int a2, .int r7]) (ct_Y_fewestThrough (jl x) (jD x) (jT x) hT a2 r7 σ11 h14) kf_Y_fewestThrough (by decide) tw_502 tw_504 tw_31 16 rfl rfl (rest := []) rfl rfl (Nat.le_of_ble_eq_true rfl) (by decide) ⟨rfl, rfl⟩ d_P_walk_83 rfl (st1 := [.int r13]) rfl ?_
        obtain ⟨r15, h16, h⟩ := mb1_some h
        refine j_callS C hR (As := [.int r13]) (ct_P_orNone (jl x) (jD x) (jT x) r13 h16) kf_P_orNone (by decide) tw_487 tw_488 (rest := []) rfl rfl (Nat.le_of_ble_eq_true rfl) (by decide) ⟨rfl, rfl⟩ d_P_walk_86 rfl (st1 := [.int r15]) rfl ?_
        cases h
        exact jx_iret C E (by decide) (by decide) hr d_P_walk_89
      · refine j_bipush (v := (-2)) C d_P_walk_63 rfl (by decide) ?_
        cases h
        exact jx_iret C E (by decide) (by decide) hr d_P_walk_65
    · cases h
      exact jx_throw C Y hR (tx := "no such place") E (by decide) (by decide +kernel) tw_273 tw_55 (by decide) xat_49 d_P_walk_36 d_P_walk_39 d_P_walk_40 d_P_walk_42 d_P_walk_45 (by decide) (Nat.le_of_ble_eq_true rfl) (by decide) (by decide) (by decide) (by decide)
  · cases h
    exact jx_throwN (bts := prog_18_method_4_code) (ix := 13) C Y hR (by decide +kernel) (by decide +kernel) (by decide +kernel) (by decide +kernel) (tx := "the order was not told") E (by decide) (by decide +kernel) tw_383 tw_58 (by decide) xat_90 d_P_walk_19 d_P_walk_22 d_P_walk_23 d_P_walk_25 d_P_walk_28 (by decide) (Nat.le_of_ble_eq_true rfl) (by decide) (by decide) (by decide) (by decide)
theorem ct_P_walk (l : Launch) (D : va_G) (tys : List (ClassId × FieldType)) {ad : Nat → Nat} {cA : ClassId} {wr : va_W} (hT : tys[0]? = some (cA, .int)) (hl : l.stackTraces = false)  (a1 : Int32) (a2 : Int32) (σ : SP) {r : Int32} {ex : String} {σ' : SP} (h : m_P_walk a1 a2 σ = some (r, ex, σ')) : jXM l y_P_walk ws_P_walk rm_P_walk D tys [.ref (ad 0), .int a1, .int a2] ((wP ad cA σ) ++ wr) (some (.int r)) ex ((wP ad cA σ') ++ wr) :=
  jx_of hl (by decide +kernel) rfl (Nat.le_of_ble_eq_true rfl) rfl (fun x _ _ hT' hR C Y hr E => w_P_walk C (by rw [hT']; exact hT) hR Y a1 a2 σ hr E h)
def rm_P_money : Room := { frames := 8, cells := 1, slots := 6, locals := 200 }
def m_P_money (a1 : Int32) (a2 : Int32) (σ : SP) : Option (Int32 × String × SP) :=
  (mb1 (m_P_hasSoMany a2 σ) fun r1 => (if r1 = 0 then some (0, "java/util/NoSuchElementException", σ) else (mb1 (m_P_isOwner a1) fun r3 => (if r3 = 0 then some (0, "java/lang/IllegalArgumentException", σ) else (mb1 (m_P_replay a2 σ) fun σ5 => (mrd 4 (g_ce σ5) a1 fun r7 => some (r7, "", σ5)))))))
set_option maxHeartbeats 4000000 in
set_option maxRecDepth 100000 in
theorem w_P_money {x : JX} {ad : Nat → Nat} {cA : ClassId} {wr : va_W} (C : jC x cc_P_money 3 "PlainWarehouse") (hT : (jT x)[0]? = some (cA, .int)) (hR : jR x = rm_P_money) (Y : jY x)  (a1 : Int32) (a2 : Int32) (σ : SP) {r : Int32} {ex : String} {σ' : SP} (hr : (jt x).sig.returnType = some .int) (E : jEX x 1 6 (some (.int r)) ex ((wP ad cA σ') ++ wr)) (h : m_P_money a1 a2 σ = some (r, ex, σ')) : jW x 3 0 0 0 [(0, .ref (ad 0)), (1, .int a1), (2, .int a2)] [] ((wP ad cA σ) ++ wr) := by
  unfold m_P_money at h
  refine j_aload_n C 0 d_P_money_0 rfl rfl rfl ?_
  refine j_iload_n C 2 d_P_money_1 rfl rfl rfl ?_
  obtain ⟨r1, h2, h⟩ := mb1_some h
  refine j_callV C hR (As := [.int a2]) (ct_P_hasSoMany (jl x) (jD x) (jT x) hT a2 σ h2) kf_P_hasSoMany (by decide) tw_379 tw_381 tw_19 0 rfl rfl (rest := []) rfl rfl (Nat.le_of_ble_eq_true rfl) (by decide) ⟨rfl, rfl⟩ d_P_money_2 rfl (st1 := [.int r1]) rfl ?_
  refine j_if_ne (tgt := 18) C d_P_money_5 (by decide) rfl h (fun h => ?_) (fun h => ?_)
  · refine j_iload_n C 1 d_P_money_18 rfl rfl rfl ?_
    obtain ⟨r3, h4, h⟩ := mb1_some h
    refine j_callS C hR (As := [.int a1]) (ct_P_isOwner (jl x) (jD x) (jT x) a1 h4) kf_P_isOwner (by decide) tw_270 tw_271 (rest := []) rfl rfl (Nat.le_of_ble_eq_true rfl) (by decide) ⟨rfl, rfl⟩ d_P_money_19 rfl (st1 := [.int r3]) rfl ?_
    refine j_if_ne (tgt := 35) C d_P_money_22 (by decide) rfl h (fun h => ?_) (fun h => ?_)
    · refine j_aload_n C 0 d_P_money_35 rfl rfl rfl ?_
      refine j_iload_n C 2 d_P_money_36 rfl rfl rfl ?_
      obtain ⟨σ5, h6, h⟩ := mb1_some h
      refine j_callV C hR (As := [.int a2]) (ct_P_replay (jl x) (jD x) (jT x) hT a2 σ h6) kf_P_replay (by decide) tw_166 tw_168 tw_0 0 rfl rfl (rest := []) rfl rfl (Nat.le_of_ble_eq_true rfl) (by decide) ⟨rfl, rfl⟩ d_P_money_37 rfl (st1 := []) rfl ?_
      refine j_aload_n C 0 d_P_money_40 rfl rfl rfl ?_
      refine j_get C in_P 0 rfl rfl 3 (by decide) tw_146 rfl (v := .ref (ad 2)) rfl d_P_money_41 rfl ?_
      refine j_getN C in_H 2 rfl rfl 6 (by decide) tw_90 rfl (v := .ref (ad 9)) rfl d_P_money_44 rfl ?_
      refine j_iload_n C 1 d_P_money_47 rfl rfl rfl ?_
      refine j_iald C 9 0 rfl hT d_P_money_48 rfl h (fun r7 h => ?_)
      cases h
      exact jx_iret C E (by decide) (by decide) hr d_P_money_49
    · cases h
      exact jx_throw C Y hR (tx := "no such owner") E (by decide) (by decide +kernel) tw_273 tw_55 (by decide) xat_49 d_P_money_25 d_P_money_28 d_P_money_29 d_P_money_31 d_P_money_34 (by decide) (Nat.le_of_ble_eq_true rfl) (by decide) (by decide) (by decide) (by decide)
  · cases h
    exact jx_throwN (bts := prog_18_method_4_code) (ix := 13) C Y hR (by decide +kernel) (by decide +kernel) (by decide +kernel) (by decide +kernel) (tx := "not so many events") E (by decide) (by decide +kernel) tw_383 tw_58 (by decide) xat_90 d_P_money_8 d_P_money_11 d_P_money_12 d_P_money_14 d_P_money_17 (by decide) (Nat.le_of_ble_eq_true rfl) (by decide) (by decide) (by decide) (by decide)
theorem ct_P_money (l : Launch) (D : va_G) (tys : List (ClassId × FieldType)) {ad : Nat → Nat} {cA : ClassId} {wr : va_W} (hT : tys[0]? = some (cA, .int)) (hl : l.stackTraces = false)  (a1 : Int32) (a2 : Int32) (σ : SP) {r : Int32} {ex : String} {σ' : SP} (h : m_P_money a1 a2 σ = some (r, ex, σ')) : jXM l y_P_money ws_P_money rm_P_money D tys [.ref (ad 0), .int a1, .int a2] ((wP ad cA σ) ++ wr) (some (.int r)) ex ((wP ad cA σ') ++ wr) :=
  jx_of hl (by decide +kernel) rfl (Nat.le_of_ble_eq_true rfl) rfl (fun x _ _ hT' hR C Y hr E => w_P_money C (by rw [hT']; exact hT) hR Y a1 a2 σ hr E h)
def rm_P_needs : Room := { frames := 8, cells := 1, slots := 6, locals := 200 }
def b_P_needs_29 (v2 : Int32) (v3 : Int32) (σ : SP) : Option ((Int32 × Int32 × SP) ⊕ (Int32 × Int32 × SP)) :=
  (if (g_ec σ) ≤ v3 then some (.inr (v2, v3, σ)) else (mb2 (m_P_takeKept v3 σ) fun r5 σ6 => (if r5 = 0 then some (.inl ((v2 + 1), (v3 + 1), σ6)) else some (.inl (v2, (v3 + 1), σ6)))))
def m_P_needs (a1 : Int32) (σ : SP) : Option (Int32 × String × SP) :=
  (mb1 (m_P_isEvent a1 σ) fun r1 => (if r1 = 0 then some (0, "java/util/NoSuchElementException", σ) else (mb1 (m_P_replay a1 σ) fun σ3 => (mb3 (lp (fun s => b_P_needs_29 s.1 s.2.1 s.2.2) FU ((0 : Int32), (a1 + (1 : Int32)), σ3)) fun w8 w9 σ10 => some (w8, "", σ10)))))
set_option maxHeartbeats 4000000 in
set_option maxRecDepth 100000 in
theorem wb_P_needs_29 {x : JX} {ad : Nat → Nat} {cA : ClassId} {wr : va_W} (C : jC x cc_P_needs 4 "PlainWarehouse") (hT : (jT x)[0]? = some (cA, .int)) (hR : jR x = rm_P_needs) (Y : jY x)  (σ : SP) (v2 : Int32) (v3 : Int32) {o : (Int32 × Int32 × SP) ⊕ (Int32 × Int32 × SP)} (h : b_P_needs_29 v2 v3 σ = some o) (kc : ∀ (u2 : Int32) (u3 : Int32) (τ : SP), o = .inl (u2, u3, τ) → jW x 4 0 0 29 [(0, .ref (ad 0)), (2, .int u2), (3, .int u3)] [] ((wP ad cA τ) ++ wr)) (ke : ∀ (u2 : Int32) (u3 : Int32) (τ : SP), o = .inr (u2, u3, τ) → jW x 4 0 0 54 [(0, .ref (ad 0)), (2, .int u2), (3, .int u3)] [] ((wP ad cA τ) ++ wr)) : jW x 4 0 0 29 [(0, .ref (ad 0)), (2, .int v2), (3, .int v3)] [] ((wP ad cA σ) ++ wr) := by
  unfold b_P_needs_29 at h
  refine j_iload_n C 2 d_P_needs_29 rfl rfl rfl ?_
  refine j_aload_n C 0 d_P_needs_30 rfl rfl rfl ?_
  refine j_get C in_P 0 rfl rfl 1 (by decide) tw_144 rfl (v := .int (g_ec σ)) rfl d_P_needs_31 rfl ?_
  refine j_icmp_ge (tgt := 54) C d_P_needs_34 (by decide) rfl h (fun h => ?_) (fun h => ?_)
  · cases h
    refine j_sub [0, 1, 2] rfl (ke _ _ _ rfl)
  · refine j_aload_n C 0 d_P_needs_37 rfl rfl rfl ?_
    refine j_iload_n C 2 d_P_needs_38 rfl rfl rfl ?_
    obtain ⟨r5, σ6, h7, h⟩ := mb2_some h
    refine j_callV C hR (As := [.int v3]) (ct_P_takeKept (jl x) (jD x) (jT x) hT v3 σ h7) kf_P_takeKept (by decide) tw_177 tw_179 tw_2 0 rfl rfl (rest := []) rfl rfl (Nat.le_of_ble_eq_true rfl) (by decide) ⟨rfl, rfl⟩ d_P_needs_39 rfl (st1 := [.int r5]) rfl ?_
    refine j_if_ne (tgt := 48) C d_P_needs_42 (by decide) rfl h (fun h => ?_) (fun h => ?_)
    · refine j_iinc (v' := (v3 + 1)) (lv' := [(3, .int (v3 + 1)), (0, .ref (ad 0)), (2, .int v2)]) C 2 d_P_needs_48 rfl rfl rfl (by decide) rfl ?_
      refine j_goto (tgt := 29) C d_P_needs_51 (by decide) ?_
      cases h
      refine j_sub [1, 2, 0] rfl (kc _ _ _ rfl)
    · refine j_iinc (v' := (v2 + 1)) (lv' := [(2, .int (v2 + 1)), (0, .ref (ad 0)), (3, .int v3)]) C 1 d_P_needs_45 rfl rfl rfl (by decide) rfl ?_
      refine j_iinc (v' := (v3 + 1)) (lv' := [(3, .int (v3 + 1)), (2, .int (v2 + 1)), (0, .ref (ad 0))]) C 2 d_P_needs_48 rfl rfl rfl (by decide) rfl ?_
      refine j_goto (tgt := 29) C d_P_needs_51 (by decide) ?_
      cases h
      refine j_sub [2, 1, 0] rfl (kc _ _ _ rfl)
set_option maxRecDepth 100000 in
theorem wl_P_needs_29 {x : JX} {ad : Nat → Nat} {cA : ClassId} {wr : va_W} (C : jC x cc_P_needs 4 "PlainWarehouse") (hT : (jT x)[0]? = some (cA, .int)) (hR : jR x = rm_P_needs) (Y : jY x)  (σ : SP) (v2 : Int32) (v3 : Int32) {u2 : Int32} {u3 : Int32} {τ : SP} (n : Nat) (h : lp (fun s => b_P_needs_29 s.1 s.2.1 s.2.2) n (v2, v3, σ) = some (u2, u3, τ)) (K : jW x 4 0 0 54 [(0, .ref (ad 0)), (2, .int u2), (3, .int u3)] [] ((wP ad cA τ) ++ wr)) : jW x 4 0 0 29 [(0, .ref (ad 0)), (2, .int v2), (3, .int v3)] [] ((wP ad cA σ) ++ wr) :=
  j_lp (Pr := fun s => jW x 4 0 0 29 [(0, .ref (ad 0)), (2, .int s.1), (3, .int s.2.1)] [] ((wP ad cA s.2.2) ++ wr)) (K := fun s => jW x 4 0 0 54 [(0, .ref (ad 0)), (2, .int s.1), (3, .int s.2.1)] [] ((wP ad cA s.2.2) ++ wr)) (fun s o h kc ke => wb_P_needs_29 C hT hR Y  s.2.2 s.1 s.2.1 h (fun u2 u3 τ e => kc _ e) (fun u2 u3 τ e => ke _ e)) n _ _ h K
set_option maxHeartbeats 4000000 in
set_option maxRecDepth 100000 in
theorem w_P_needs {x : JX} {ad : Nat → Nat} {cA : ClassId} {wr : va_W} (C : jC x cc_P_needs 4 "PlainWarehouse") (hT : (jT x)[0]? = some (cA, .int)) (hR : jR x = rm_P_needs) (Y : jY x)  (a1 : Int32) (σ : SP) {r : Int32} {ex : String} {σ' : SP} (hr : (jt x).sig.returnType = some .int) (E : jEX x 1 6 (some (.int r)) ex ((wP ad cA σ') ++ wr)) (h : m_P_needs a1 σ = some (r, ex, σ')) : jW x 4 0 0 0 [(0, .ref (ad 0)), (1, .int a1)] [] ((wP ad cA σ) ++ wr) := by
  unfold m_P_needs at h
  refine j_aload_n C 0 d_P_needs_0 rfl rfl rfl ?_
  refine j_iload_n C 1 d_P_needs_1 rfl rfl rfl ?_
  obtain ⟨r1, h2, h⟩ := mb1_some h
  refine j_callV C hR (As := [.int a1]) (ct_P_isEvent (jl x) (jD x) (jT x) hT a1 σ h2) kf_P_isEvent (by decide) tw_525 tw_527 tw_32 0 rfl rfl (rest := []) rfl rfl (Nat.le_of_ble_eq_true rfl) (by decide) ⟨rfl, rfl⟩ d_P_needs_2 rfl (st1 := [.int r1]) rfl ?_
  refine j_if_ne (tgt := 18) C d_P_needs_5 (by decide) rfl h (fun h => ?_) (fun h => ?_)
  · refine j_aload_n C 0 d_P_needs_18 rfl rfl rfl ?_
    refine j_iload_n C 1 d_P_needs_19 rfl rfl rfl ?_
    obtain ⟨σ3, h4, h⟩ := mb1_some h
    refine j_callV C hR (As := [.int a1]) (ct_P_replay (jl x) (jD x) (jT x) hT a1 σ h4) kf_P_replay (by decide) tw_166 tw_168 tw_0 0 rfl rfl (rest := []) rfl rfl (Nat.le_of_ble_eq_true rfl) (by decide) ⟨rfl, rfl⟩ d_P_needs_20 rfl (st1 := []) rfl ?_
    refine j_iconst (v := 0) C d_P_needs_23 rfl (by decide) ?_
    refine j_istore_n (lv' := [(2, .int (0 : Int32)), (0, .ref (ad 0)), (1, .int a1)]) C d_P_needs_24 rfl rfl (by decide) rfl ?_
    refine j_iload_n C 2 d_P_needs_25 rfl rfl rfl ?_
    refine j_iconst (v := 1) C d_P_needs_26 rfl (by decide) ?_
    refine j_iadd C d_P_needs_27 rfl ?_
    refine j_istore_n (lv' := [(3, .int (a1 + (1 : Int32))), (2, .int (0 : Int32)), (0, .ref (ad 0)), (1, .int a1)]) C d_P_needs_28 rfl rfl (by decide) rfl ?_
    obtain ⟨w8, w9, σ10, h11, h⟩ := mb3_some h
    refine j_sub [2, 1, 0] rfl (wl_P_needs_29 C hT hR Y  σ3 (0 : Int32) (a1 + (1 : Int32)) FU h11 ?_)
    refine j_iload_n C 1 d_P_needs_54 rfl rfl rfl ?_
    cases h
    exact jx_iret C E (by decide) (by decide) hr d_P_needs_55
  · cases h
    exact jx_throwN (bts := prog_18_method_4_code) (ix := 13) C Y hR (by decide +kernel) (by decide +kernel) (by decide +kernel) (by decide +kernel) (tx := "no such event") E (by decide) (by decide +kernel) tw_383 tw_58 (by decide) xat_90 d_P_needs_8 d_P_needs_11 d_P_needs_12 d_P_needs_14 d_P_needs_17 (by decide) (Nat.le_of_ble_eq_true rfl) (by decide) (by decide) (by decide) (by decide)
theorem ct_P_needs (l : Launch) (D : va_G) (tys : List (ClassId × FieldType)) {ad : Nat → Nat} {cA : ClassId} {wr : va_W} (hT : tys[0]? = some (cA, .int)) (hl : l.stackTraces = false)  (a1 : Int32) (σ : SP) {r : Int32} {ex : String} {σ' : SP} (h : m_P_needs a1 σ = some (r, ex, σ')) : jXM l y_P_needs ws_P_needs rm_P_needs D tys [.ref (ad 0), .int a1] ((wP ad cA σ) ++ wr) (some (.int r)) ex ((wP ad cA σ') ++ wr) :=
  jx_of hl (by decide +kernel) rfl (Nat.le_of_ble_eq_true rfl) rfl (fun x _ _ hT' hR C Y hr E => w_P_needs C (by rw [hT']; exact hT) hR Y a1 σ hr E h)
def rm_P_explained : Room := { frames := 8, cells := 1, slots := 6, locals := 200 }
def b_P_explained_27 (v2 : Int32) (σ : SP) : Option ((Int32 × SP) ⊕ (Nat × Int32 × SP)) :=
  (if (g_ec σ) ≤ v2 then some (.inr (1, v2, σ)) else (mb2 (m_P_takeKept v2 σ) fun r5 σ6 => (if r5 = 0 then some (.inr (0, v2, σ6)) else some (.inl ((v2 + 1), σ6)))))
def m_P_explained (a1 : Int32) (σ : SP) : Option (Int32 × String × SP) :=
  (mb1 (m_P_isEvent a1 σ) fun r1 => (if r1 = 0 then some (0, "java/util/NoSuchElementException", σ) else (mb1 (m_P_replay a1 σ) fun σ3 => (mb3 (lp (fun s => b_P_explained_27 s.1 s.2) FU ((a1 + (1 : Int32)), σ3)) fun tg11 w8 σ9 => (if tg11 = 0 then some (w8, "", σ9) else some ((-1 : Int32), "", σ9))))))
set_option maxHeartbeats 4000000 in
set_option maxRecDepth 100000 in
theorem wb_P_explained_27 {x : JX} {ad : Nat → Nat} {cA : ClassId} {wr : va_W} (C : jC x cc_P_explained 3 "PlainWarehouse") (hT : (jT x)[0]? = some (cA, .int)) (hR : jR x = rm_P_explained) (Y : jY x)  (σ : SP) (v2 : Int32) {o : (Int32 × SP) ⊕ (Nat × Int32 × SP)} (h : b_P_explained_27 v2 σ = some o) (kc : ∀ (u2 : Int32) (τ : SP), o = .inl (u2, τ) → jW x 3 0 0 27 [(0, .ref (ad 0)), (2, .int u2)] [] ((wP ad cA τ) ++ wr)) (ke0 : ∀ (u2 : Int32) (τ : SP), o = .inr (0, u2, τ) → jW x 3 0 0 43 [(0, .ref (ad 0)), (2, .int u2)] [] ((wP ad cA τ) ++ wr)) (ke1 : ∀ (u2 : Int32) (τ : SP), o = .inr (1, u2, τ) → jW x 3 0 0 51 [(0, .ref (ad 0)), (2, .int u2)] [] ((wP ad cA τ) ++ wr)) : jW x 3 0 0 27 [(0, .ref (ad 0)), (2, .int v2)] [] ((wP ad cA σ) ++ wr) := by
  unfold b_P_explained_27 at h
  refine j_iload_n C 1 d_P_explained_27 rfl rfl rfl ?_
  refine j_aload_n C 0 d_P_explained_28 rfl rfl rfl ?_
  refine j_get C in_P 0 rfl rfl 1 (by decide) tw_144 rfl (v := .int (g_ec σ)) rfl d_P_explained_29 rfl ?_
  refine j_icmp_ge (tgt := 51) C d_P_explained_32 (by decide) rfl h (fun h => ?_) (fun h => ?_)
  · cases h
    refine j_sub [0, 1] rfl (ke1 _ _ rfl)
  · refine j_aload_n C 0 d_P_explained_35 rfl rfl rfl ?_
    refine j_iload_n C 1 d_P_explained_36 rfl rfl rfl ?_
    obtain ⟨r5, σ6, h7, h⟩ := mb2_some h
    refine j_callV C hR (As := [.int v2]) (ct_P_takeKept (jl x) (jD x) (jT x) hT v2 σ h7) kf_P_takeKept (by decide) tw_177 tw_179 tw_2 0 rfl rfl (rest := []) rfl rfl (Nat.le_of_ble_eq_true rfl) (by decide) ⟨rfl, rfl⟩ d_P_explained_37 rfl (st1 := [.int r5]) rfl ?_
    refine j_if_ne (tgt := 45) C d_P_explained_40 (by decide) rfl h (fun h => ?_) (fun h => ?_)
    · refine j_iinc (v' := (v2 + 1)) (lv' := [(2, .int (v2 + 1)), (0, .ref (ad 0))]) C 1 d_P_explained_45 rfl rfl rfl (by decide) rfl ?_
      refine j_goto (tgt := 27) C d_P_explained_48 (by decide) ?_
      cases h
      refine j_sub [1, 0] rfl (kc _ _ rfl)
    · cases h
      refine j_sub [0, 1] rfl (ke0 _ _ rfl)
set_option maxRecDepth 100000 in
theorem wl_P_explained_27 {x : JX} {ad : Nat → Nat} {cA : ClassId} {wr : va_W} (C : jC x cc_P_explained 3 "PlainWarehouse") (hT : (jT x)[0]? = some (cA, .int)) (hR : jR x = rm_P_explained) (Y : jY x)  (σ : SP) (v2 : Int32) {u2 : Int32} {τ : SP} {tg : Nat} (n : Nat) (h : lp (fun s => b_P_explained_27 s.1 s.2) n (v2, σ) = some (tg, u2, τ)) (K0 : tg = 0 → jW x 3 0 0 43 [(0, .ref (ad 0)), (2, .int u2)] [] ((wP ad cA τ) ++ wr)) (K1 : ¬ tg = 0 → jW x 3 0 0 51 [(0, .ref (ad 0)), (2, .int u2)] [] ((wP ad cA τ) ++ wr)) : jW x 3 0 0 27 [(0, .ref (ad 0)), (2, .int v2)] [] ((wP ad cA σ) ++ wr) :=
  j_lp (Pr := fun s => jW x 3 0 0 27 [(0, .ref (ad 0)), (2, .int s.1)] [] ((wP ad cA s.2) ++ wr)) (K := fun s => (s.1 = 0 → jW x 3 0 0 43 [(0, .ref (ad 0)), (2, .int s.2.1)] [] ((wP ad cA s.2.2) ++ wr)) ∧ (¬ s.1 = 0 → jW x 3 0 0 51 [(0, .ref (ad 0)), (2, .int s.2.1)] [] ((wP ad cA s.2.2) ++ wr))) (fun s o h kc ke => wb_P_explained_27 C hT hR Y  s.2 s.1 h (fun u2 τ e => kc _ e) (fun u2 τ e => (ke _ e).1 rfl) (fun u2 τ e => (ke _ e).2 Nat.one_ne_zero)) n _ _ h ⟨K0, K1⟩
set_option maxHeartbeats 4000000 in
set_option maxRecDepth 100000 in
theorem w_P_explained {x : JX} {ad : Nat → Nat} {cA : ClassId} {wr : va_W} (C : jC x cc_P_explained 3 "PlainWarehouse") (hT : (jT x)[0]? = some (cA, .int)) (hR : jR x = rm_P_explained) (Y : jY x)  (a1 : Int32) (σ : SP) {r : Int32} {ex : String} {σ' : SP} (hr : (jt x).sig.returnType = some .int) (E : jEX x 1 6 (some (.int r)) ex ((wP ad cA σ') ++ wr)) (h : m_P_explained a1 σ = some (r, ex, σ')) : jW x 3 0 0 0 [(0, .ref (ad 0)), (1, .int a1)] [] ((wP ad cA σ) ++ wr) := by
  unfold m_P_explained at h
  refine j_aload_n C 0 d_P_explained_0 rfl rfl rfl ?_
  refine j_iload_n C 1 d_P_explained_1 rfl rfl rfl ?_
  obtain ⟨r1, h2, h⟩ := mb1_some h
  refine j_callV C hR (As := [.int a1]) (ct_P_isEvent (jl x) (jD x) (jT x) hT a1 σ h2) kf_P_isEvent (by decide) tw_525 tw_527 tw_32 0 rfl rfl (rest := []) rfl rfl (Nat.le_of_ble_eq_true rfl) (by decide) ⟨rfl, rfl⟩ d_P_explained_2 rfl (st1 := [.int r1]) rfl ?_
  refine j_if_ne (tgt := 18) C d_P_explained_5 (by decide) rfl h (fun h => ?_) (fun h => ?_)
  · refine j_aload_n C 0 d_P_explained_18 rfl rfl rfl ?_
    refine j_iload_n C 1 d_P_explained_19 rfl rfl rfl ?_
    obtain ⟨σ3, h4, h⟩ := mb1_some h
    refine j_callV C hR (As := [.int a1]) (ct_P_replay (jl x) (jD x) (jT x) hT a1 σ h4) kf_P_replay (by decide) tw_166 tw_168 tw_0 0 rfl rfl (rest := []) rfl rfl (Nat.le_of_ble_eq_true rfl) (by decide) ⟨rfl, rfl⟩ d_P_explained_20 rfl (st1 := []) rfl ?_
    refine j_iload_n C 1 d_P_explained_23 rfl rfl rfl ?_
    refine j_iconst (v := 1) C d_P_explained_24 rfl (by decide) ?_
    refine j_iadd C d_P_explained_25 rfl ?_
    refine j_istore_n (lv' := [(2, .int (a1 + (1 : Int32))), (0, .ref (ad 0)), (1, .int a1)]) C d_P_explained_26 rfl rfl (by decide) rfl ?_
    obtain ⟨tg11, w8, σ9, h10, h⟩ := mb3_some h
    refine j_sub [1, 0] rfl (wl_P_explained_27 C hT hR Y  σ3 (a1 + (1 : Int32)) FU h10 (fun q => ?_) (fun q => ?_))
    · rw [if_pos q] at h
      refine j_iload_n C 1 d_P_explained_43 rfl rfl rfl ?_
      cases h
      exact jx_iret C E (by decide) (by decide) hr d_P_explained_44
    · rw [if_neg q] at h
      refine j_iconst (v := (-1)) C d_P_explained_51 rfl (by decide) ?_
      cases h
      exact jx_iret C E (by decide) (by decide) hr d_P_explained_52
  · cases h
    exact jx_throwN (bts := prog_18_method_4_code) (ix := 13) C Y hR (by decide +kernel) (by decide +kernel) (by decide +kernel) (by decide +kernel) (tx := "no such event") E (by decide) (by decide +kernel) tw_383 tw_58 (by decide) xat_90 d_P_explained_8 d_P_explained_11 d_P_explained_12 d_P_explained_14 d_P_explained_17 (by decide) (Nat.le_of_ble_eq_true rfl) (by decide) (by decide) (by decide) (by decide)
theorem ct_P_explained (l : Launch) (D : va_G) (tys : List (ClassId × FieldType)) {ad : Nat → Nat} {cA : ClassId} {wr : va_W} (hT : tys[0]? = some (cA, .int)) (hl : l.stackTraces = false)  (a1 : Int32) (σ : SP) {r : Int32} {ex : String} {σ' : SP} (h : m_P_explained a1 σ = some (r, ex, σ')) : jXM l y_P_explained ws_P_explained rm_P_explained D tys [.ref (ad 0), .int a1] ((wP ad cA σ) ++ wr) (some (.int r)) ex ((wP ad cA σ') ++ wr) :=
  jx_of hl (by decide +kernel) rfl (Nat.le_of_ble_eq_true rfl) rfl (fun x _ _ hT' hR C Y hr E => w_P_explained C (by rw [hT']; exact hT) hR Y a1 σ hr E h)
def rm_P_told : Room := { frames := 8, cells := 1, slots := 6, locals := 200 }
def m_P_told (a1 : Int32) (a2 : Int32) (σ : SP) : Option (Int32 × String) :=
  (mb1 (m_P_isEvent a1 σ) fun r1 => (if r1 = 0 then some (0, "java/util/NoSuchElementException") else (mb1 (m_P_isWithin a2 (0 : Int32) (3 : Int32)) fun r3 => (if r3 = 0 then some (0, "java/lang/IllegalArgumentException") else (mrd 240 (g_row σ) ((a1 * (4 : Int32)) + a2) fun r5 => some (r5, ""))))))
set_option maxHeartbeats 4000000 in
set_option maxRecDepth 100000 in
theorem w_P_told {x : JX} {ad : Nat → Nat} {cA : ClassId} {wr : va_W} (C : jC x cc_P_told 3 "PlainWarehouse") (hT : (jT x)[0]? = some (cA, .int)) (hR : jR x = rm_P_told) (Y : jY x)  (a1 : Int32) (a2 : Int32) (σ : SP) {r : Int32} {ex : String} (hr : (jt x).sig.returnType = some .int) (E : jEX x 1 6 (some (.int r)) ex ((wP ad cA σ) ++ wr)) (h : m_P_told a1 a2 σ = some (r, ex)) : jW x 3 0 0 0 [(0, .ref (ad 0)), (1, .int a1), (2, .int a2)] [] ((wP ad cA σ) ++ wr) := by
  unfold m_P_told at h
  refine j_aload_n C 0 d_P_told_0 rfl rfl rfl ?_
  refine j_iload_n C 1 d_P_told_1 rfl rfl rfl ?_
  obtain ⟨r1, h2, h⟩ := mb1_some h
  refine j_callV C hR (As := [.int a1]) (ct_P_isEvent (jl x) (jD x) (jT x) hT a1 σ h2) kf_P_isEvent (by decide) tw_525 tw_527 tw_32 0 rfl rfl (rest := []) rfl rfl (Nat.le_of_ble_eq_true rfl) (by decide) ⟨rfl, rfl⟩ d_P_told_2 rfl (st1 := [.int r1]) rfl ?_
  refine j_if_ne (tgt := 18) C d_P_told_5 (by decide) rfl h (fun h => ?_) (fun h => ?_)
  · refine j_iload_n C 2 d_P_told_18 rfl rfl rfl ?_
    refine j_iconst (v := 0) C d_P_told_19 rfl (by decide) ?_
    refine j_iconst (v := 3) C d_P_told_20 rfl (by decide) ?_
    obtain ⟨r3, h4, h⟩ := mb1_some h
    refine j_callS C hR (As := [.int a2, .int (0 : Int32), .int (3 : Int32)]) (ct_P_isWithin (jl x) (jD x) (jT x) a2 (0 : Int32) (3 : Int32) h4) kf_P_isWithin (by decide) tw_258 tw_259 (rest := []) rfl rfl (Nat.le_of_ble_eq_true rfl) (by decide) ⟨rfl, rfl⟩ d_P_told_21 rfl (st1 := [.int r3]) rfl ?_
    refine j_if_ne (tgt := 37) C d_P_told_24 (by decide) rfl h (fun h => ?_) (fun h => ?_)
    · refine j_aload_n C 0 d_P_told_37 rfl rfl rfl ?_
      refine j_get C in_P 0 rfl rfl 0 (by decide) tw_143 rfl (v := .ref (ad 1)) rfl d_P_told_38 rfl ?_
      refine j_iload_n C 1 d_P_told_41 rfl rfl rfl ?_
      refine j_iconst (v := 4) C d_P_told_42 rfl (by decide) ?_
      refine j_imul C d_P_told_43 rfl ?_
      refine j_iload_n C 2 d_P_told_44 rfl rfl rfl ?_
      refine j_iadd C d_P_told_45 rfl ?_
      refine j_iald C 1 0 rfl hT d_P_told_46 rfl h (fun r5 h => ?_)
      cases h
      exact jx_iret C E (by decide) (by decide) hr d_P_told_47
    · cases h
      exact jx_throw C Y hR (tx := "an event tells 0 to 3") E (by decide) (by decide +kernel) tw_273 tw_55 (by decide) xat_49 d_P_told_27 d_P_told_30 d_P_told_31 d_P_told_33 d_P_told_36 (by decide) (Nat.le_of_ble_eq_true rfl) (by decide) (by decide) (by decide) (by decide)
  · cases h
    exact jx_throwN (bts := prog_18_method_4_code) (ix := 13) C Y hR (by decide +kernel) (by decide +kernel) (by decide +kernel) (by decide +kernel) (tx := "no such event") E (by decide) (by decide +kernel) tw_383 tw_58 (by decide) xat_90 d_P_told_8 d_P_told_11 d_P_told_12 d_P_told_14 d_P_told_17 (by decide) (Nat.le_of_ble_eq_true rfl) (by decide) (by decide) (by decide) (by decide)
theorem ct_P_told (l : Launch) (D : va_G) (tys : List (ClassId × FieldType)) {ad : Nat → Nat} {cA : ClassId} {wr : va_W} (hT : tys[0]? = some (cA, .int)) (hl : l.stackTraces = false)  (a1 : Int32) (a2 : Int32) (σ : SP) {r : Int32} {ex : String} (h : m_P_told a1 a2 σ = some (r, ex)) : jXM l y_P_told ws_P_told rm_P_told D tys [.ref (ad 0), .int a1, .int a2] ((wP ad cA σ) ++ wr) (some (.int r)) ex ((wP ad cA σ) ++ wr) :=
  jx_of hl (by decide +kernel) rfl (Nat.le_of_ble_eq_true rfl) rfl (fun x _ _ hT' hR C Y hr E => w_P_told C (by rw [hT']; exact hT) hR Y a1 a2 σ hr E h)
def rm_P_back : Room := { frames := 8, cells := 1, slots := 6, locals := 200 }
def m_P_back (σ : SP) : Option (String × SP) :=
  (if (g_ec σ) = 0 then some ("java/lang/IllegalStateException", σ) else (mlet (u_ec σ ((g_ec σ) - (1 : Int32))) fun σ1 => some ("", σ1)))
set_option maxHeartbeats 4000000 in
set_option maxRecDepth 100000 in
theorem w_P_back {x : JX} {ad : Nat → Nat} {cA : ClassId} {wr : va_W} (C : jC x cc_P_back 1 "PlainWarehouse") (hT : (jT x)[0]? = some (cA, .int)) (hR : jR x = rm_P_back) (Y : jY x)  (σ : SP) {ex : String} {σ' : SP} (hr : (jt x).sig.returnType = none) (E : jEX x 1 6 none ex ((wP ad cA σ') ++ wr)) (h : m_P_back σ = some (ex, σ')) : jW x 1 0 0 0 [(0, .ref (ad 0))] [] ((wP ad cA σ) ++ wr) := by
  unfold m_P_back at h
  refine j_aload_n C 0 d_P_back_0 rfl rfl rfl ?_
  refine j_get C in_P 0 rfl rfl 1 (by decide) tw_144 rfl (v := .int (g_ec σ)) rfl d_P_back_1 rfl ?_
  refine j_if_ne (tgt := 17) C d_P_back_4 (by decide) rfl h (fun h => ?_) (fun h => ?_)
  · refine j_aload_n C 0 d_P_back_17 rfl rfl rfl ?_
    refine j_dup C d_P_back_18 rfl rfl ?_
    refine j_get C in_P 0 rfl rfl 1 (by decide) tw_144 rfl (v := .int (g_ec σ)) rfl d_P_back_19 rfl ?_
    refine j_iconst (v := 1) C d_P_back_22 rfl (by decide) ?_
    refine j_isub C d_P_back_23 rfl ?_
    refine j_put C in_P ty_P_ok nm_P 0 rfl rfl 1 (by decide) tw_144 rfl rfl rfl (Nat.le_of_ble_eq_true rfl) (fun t => (wP ad cA t) ++ wr) d_P_back_24 rfl h rfl (fun σ1 h => ?_)
    cases h
    exact jx_vret C E (by decide) (by decide) hr d_P_back_27
  · cases h
    exact jx_throw C Y hR (tx := "there is no event") E (by decide) (by decide +kernel) tw_553 tw_62 (by decide) xat_175 d_P_back_7 d_P_back_10 d_P_back_11 d_P_back_13 d_P_back_16 (by decide) (Nat.le_of_ble_eq_true rfl) (by decide) (by decide) (by decide) (by decide)
theorem ct_P_back (l : Launch) (D : va_G) (tys : List (ClassId × FieldType)) {ad : Nat → Nat} {cA : ClassId} {wr : va_W} (hT : tys[0]? = some (cA, .int)) (hl : l.stackTraces = false)  (σ : SP) {ex : String} {σ' : SP} (h : m_P_back σ = some (ex, σ')) : jXM l y_P_back ws_P_back rm_P_back D tys [.ref (ad 0)] ((wP ad cA σ) ++ wr) none ex ((wP ad cA σ') ++ wr) :=
  jx_of hl (by decide +kernel) rfl (Nat.le_of_ble_eq_true rfl) rfl (fun x _ _ hT' hR C Y hr E => w_P_back C (by rw [hT']; exact hT) hR Y σ hr E h)
