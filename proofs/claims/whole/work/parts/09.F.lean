set_option maxRecDepth 100000 in
theorem tw_20 : Cond.selects "PlainWarehouse$House" (⟨"PlainWarehouse$House", "freeUnits", "(I)I"⟩ : MethodName) (⟨"PlainWarehouse$House", "freeUnits", "(I)I"⟩ : MethodName) ∈ WS := ws_in 20 rfl rfl
set_option maxRecDepth 100000 in
theorem tw_23 : Cond.selects "PlainWarehouse$Fillings" (⟨"PlainWarehouse$Fillings", "countFree", "(LPlainWarehouse$House;)V"⟩ : MethodName) (⟨"PlainWarehouse$Fillings", "countFree", "(LPlainWarehouse$House;)V"⟩ : MethodName) ∈ WS := ws_in 23 rfl rfl
set_option maxRecDepth 100000 in
theorem tw_24 : Cond.selects "PlainWarehouse$Fillings" (⟨"PlainWarehouse$Fillings", "chooseOpen", "(LPlainWarehouse$House;I)V"⟩ : MethodName) (⟨"PlainWarehouse$Fillings", "chooseOpen", "(LPlainWarehouse$House;I)V"⟩ : MethodName) ∈ WS := ws_in 24 rfl rfl
set_option maxRecDepth 100000 in
theorem tw_25 : Cond.selects "PlainWarehouse$Fillings" (⟨"PlainWarehouse$Fillings", "isEnoughFor", "(I)Z"⟩ : MethodName) (⟨"PlainWarehouse$Fillings", "isEnoughFor", "(I)Z"⟩ : MethodName) ∈ WS := ws_in 25 rfl rfl
set_option maxRecDepth 100000 in
theorem tw_27 : Cond.selects "PlainWarehouse$Ways" (⟨"PlainWarehouse$Ways", "layLinks", "(LPlainWarehouse$House;)V"⟩ : MethodName) (⟨"PlainWarehouse$Ways", "layLinks", "(LPlainWarehouse$House;)V"⟩ : MethodName) ∈ WS := ws_in 27 rfl rfl
set_option maxRecDepth 100000 in
theorem tw_28 : Cond.selects "PlainWarehouse$Ways" (⟨"PlainWarehouse$Ways", "shortenVia", "(II)V"⟩ : MethodName) (⟨"PlainWarehouse$Ways", "shortenVia", "(II)V"⟩ : MethodName) ∈ WS := ws_in 28 rfl rfl
set_option maxRecDepth 100000 in
theorem tw_60 : Cond.initialized "java/lang/System" ∈ WS := ws_in 60 rfl rfl
set_option maxRecDepth 100000 in
theorem tw_61 : Cond.initialized "java/lang/Math" ∈ WS := ws_in 61 rfl rfl
set_option maxRecDepth 100000 in
theorem tw_82 : Cond.fieldLinkNest "PlainWarehouse$Fillings" (58 : Nat) "PlainWarehouse$House" "wanted" "[I" "PlainWarehouse" ∈ NWS := nws_in 82 rfl rfl
set_option maxRecDepth 100000 in
theorem tw_84 : Cond.fieldLinkNest "PlainWarehouse$Fillings" (64 : Nat) "PlainWarehouse$House" "goodWanted" "[I" "PlainWarehouse" ∈ NWS := nws_in 84 rfl rfl
set_option maxRecDepth 100000 in
theorem tw_87 : Cond.fieldLinkNest "PlainWarehouse$Fillings" (61 : Nat) "PlainWarehouse$House" "got" "[I" "PlainWarehouse" ∈ NWS := nws_in 87 rfl rfl
set_option maxRecDepth 100000 in
theorem tw_92 : Cond.fieldLinkNest "PlainWarehouse$Ways" (23 : Nat) "PlainWarehouse$House" "link" "[I" "PlainWarehouse" ∈ NWS := nws_in 92 rfl rfl
set_option maxRecDepth 100000 in
theorem tw_117 : Cond.fieldLink "PlainWarehouse$Fillings" (9 : Nat) "PlainWarehouse$Fillings" "lacking" "[I" ∈ WS := ws_in 117 rfl rfl
set_option maxRecDepth 100000 in
theorem tw_118 : Cond.fieldLink "PlainWarehouse$Fillings" (15 : Nat) "PlainWarehouse$Fillings" "goods" "[I" ∈ WS := ws_in 118 rfl rfl
set_option maxRecDepth 100000 in
theorem tw_119 : Cond.fieldLink "PlainWarehouse$Fillings" (18 : Nat) "PlainWarehouse$Fillings" "free" "[I" ∈ WS := ws_in 119 rfl rfl
set_option maxRecDepth 100000 in
theorem tw_120 : Cond.fieldLink "PlainWarehouse$Fillings" (21 : Nat) "PlainWarehouse$Fillings" "left" "[I" ∈ WS := ws_in 120 rfl rfl
set_option maxRecDepth 100000 in
theorem tw_121 : Cond.fieldLink "PlainWarehouse$Fillings" (24 : Nat) "PlainWarehouse$Fillings" "size" "I" ∈ WS := ws_in 121 rfl rfl
set_option maxRecDepth 100000 in
theorem tw_139 : Cond.fieldLink "PlainWarehouse$Ways" (9 : Nat) "PlainWarehouse$Ways" "seconds" "[I" ∈ WS := ws_in 139 rfl rfl
set_option maxRecDepth 100000 in
theorem tw_412 : Cond.instanceMethod ({ cls := "PlainWarehouse$House", name := "freeUnits", desc := "(I)I" } : MethodName) ∈ WS := ws_in 412 rfl rfl
set_option maxRecDepth 100000 in
theorem tw_427 : Cond.static ({ cls := "PlainWarehouse", name := "isInSet", desc := "(II)Z" } : MethodName) ∈ WS := ws_in 427 rfl rfl
set_option maxRecDepth 100000 in
theorem tw_431 : Cond.static ({ cls := "java/lang/Integer", name := "bitCount", desc := "(I)I" } : MethodName) ∈ WS := ws_in 431 rfl rfl
set_option maxRecDepth 100000 in
theorem tw_440 : Cond.methodLink "PlainWarehouse$Fillings" (28 : Nat) ({ cls := "PlainWarehouse$Fillings", name := "countFree", desc := "(LPlainWarehouse$House;)V" } : MethodName) ∈ WS := ws_in 440 rfl rfl
set_option maxRecDepth 100000 in
theorem tw_442 : Cond.instanceMethod ({ cls := "PlainWarehouse$Fillings", name := "countFree", desc := "(LPlainWarehouse$House;)V" } : MethodName) ∈ WS := ws_in 442 rfl rfl
set_option maxRecDepth 100000 in
theorem tw_444 : Cond.methodLinkNest "PlainWarehouse$Fillings" (46 : Nat) ({ cls := "PlainWarehouse$House", name := "freeUnits", desc := "(I)I" } : MethodName) "PlainWarehouse" ∈ NWS := nws_in 444 rfl rfl
set_option maxRecDepth 100000 in
theorem tw_445 : Cond.methodLink "PlainWarehouse$Fillings" (32 : Nat) ({ cls := "PlainWarehouse$Fillings", name := "chooseOpen", desc := "(LPlainWarehouse$House;I)V" } : MethodName) ∈ WS := ws_in 445 rfl rfl
set_option maxRecDepth 100000 in
theorem tw_447 : Cond.instanceMethod ({ cls := "PlainWarehouse$Fillings", name := "chooseOpen", desc := "(LPlainWarehouse$House;I)V" } : MethodName) ∈ WS := ws_in 447 rfl rfl
set_option maxRecDepth 100000 in
theorem tw_449 : Cond.methodLinkNest "PlainWarehouse$Fillings" (51 : Nat) ({ cls := "PlainWarehouse", name := "isInSet", desc := "(II)Z" } : MethodName) "PlainWarehouse" ∈ NWS := nws_in 449 rfl rfl
set_option maxRecDepth 100000 in
theorem tw_450 : Cond.methodLinkNest "PlainWarehouse$Fillings" (55 : Nat) ({ cls := "PlainWarehouse$House", name := "isOpen", desc := "(I)Z" } : MethodName) "PlainWarehouse" ∈ NWS := nws_in 450 rfl rfl
set_option maxRecDepth 100000 in
theorem tw_451 : Cond.methodLink "PlainWarehouse$Fillings" (36 : Nat) ({ cls := "java/lang/Integer", name := "bitCount", desc := "(I)I" } : MethodName) ∈ WS := ws_in 451 rfl rfl
set_option maxRecDepth 100000 in
theorem tw_452 : Cond.methodLink "PlainWarehouse$Fillings" (42 : Nat) ({ cls := "PlainWarehouse$Fillings", name := "isEnoughFor", desc := "(I)Z" } : MethodName) ∈ WS := ws_in 452 rfl rfl
set_option maxRecDepth 100000 in
theorem tw_454 : Cond.instanceMethod ({ cls := "PlainWarehouse$Fillings", name := "isEnoughFor", desc := "(I)Z" } : MethodName) ∈ WS := ws_in 454 rfl rfl
set_option maxRecDepth 100000 in
theorem tw_456 : Cond.methodLink "PlainWarehouse$Fillings" (67 : Nat) ({ cls := "java/lang/System", name := "arraycopy", desc := "(Ljava/lang/Object;ILjava/lang/Object;II)V" } : MethodName) ∈ WS := ws_in 456 rfl rfl
set_option maxRecDepth 100000 in
theorem tw_457 : Cond.static ({ cls := "java/lang/System", name := "arraycopy", desc := "(Ljava/lang/Object;ILjava/lang/Object;II)V" } : MethodName) ∈ WS := ws_in 457 rfl rfl
set_option maxRecDepth 100000 in
theorem tw_458 : Cond.native ({ cls := "java/lang/System", name := "arraycopy", desc := "(Ljava/lang/Object;ILjava/lang/Object;II)V" } : MethodName) ∈ WS := ws_in 458 rfl rfl
set_option maxRecDepth 100000 in
theorem tw_470 : Cond.methodLink "PlainWarehouse$Ways" (15 : Nat) ({ cls := "PlainWarehouse$Ways", name := "layLinks", desc := "(LPlainWarehouse$House;)V" } : MethodName) ∈ WS := ws_in 470 rfl rfl
set_option maxRecDepth 100000 in
theorem tw_472 : Cond.instanceMethod ({ cls := "PlainWarehouse$Ways", name := "layLinks", desc := "(LPlainWarehouse$House;)V" } : MethodName) ∈ WS := ws_in 472 rfl rfl
set_option maxRecDepth 100000 in
theorem tw_474 : Cond.methodLinkNest "PlainWarehouse$Ways" (28 : Nat) ({ cls := "PlainWarehouse", name := "pair", desc := "(II)I" } : MethodName) "PlainWarehouse" ∈ NWS := nws_in 474 rfl rfl
set_option maxRecDepth 100000 in
theorem tw_475 : Cond.constant "PlainWarehouse$Ways" (32 : Nat) (1000000 : Int32) ∈ WS := ws_in 475 rfl rfl
set_option maxRecDepth 100000 in
theorem tw_476 : Cond.methodLink "PlainWarehouse$Ways" (19 : Nat) ({ cls := "PlainWarehouse$Ways", name := "shortenVia", desc := "(II)V" } : MethodName) ∈ WS := ws_in 476 rfl rfl
set_option maxRecDepth 100000 in
theorem tw_478 : Cond.instanceMethod ({ cls := "PlainWarehouse$Ways", name := "shortenVia", desc := "(II)V" } : MethodName) ∈ WS := ws_in 478 rfl rfl
set_option maxRecDepth 100000 in
theorem tw_480 : Cond.methodLink "PlainWarehouse$Ways" (33 : Nat) ({ cls := "java/lang/Math", name := "min", desc := "(II)I" } : MethodName) ∈ WS := ws_in 480 rfl rfl
set_option maxRecDepth 100000 in
theorem tw_481 : Cond.static ({ cls := "java/lang/Math", name := "min", desc := "(II)I" } : MethodName) ∈ WS := ws_in 481 rfl rfl
set_option maxRecDepth 100000 in
theorem tw_482 : Cond.code ({ cls := "java/lang/Math", name := "min", desc := "(II)I" } : MethodName) prog_11_method_69_code (2 : Nat) (Option.some FieldType.int) ∈ WS := ws_in 482 rfl rfl
def rm_F_countFree : Room := { frames := 3, cells := 0, slots := 0, locals := 65 }
def b_F_countFree_2 (v2 : Int32) (σ : SP) : Option ((Int32 × SP) ⊕ (Int32 × SP)) :=
  (if (6 : Int32) ≤ v2 then some (.inr (v2, σ)) else (mb1 (m_H_freeUnits v2 σ) fun r1 => (mck 6 v2 (mlet (u_fr σ (upd (g_fr σ) v2.toNatClampNeg r1)) fun σ3 => some (.inl ((v2 + 1), σ3))))))
def m_F_countFree (σ : SP) : Option (SP) :=
  (mb2 (lp (fun s => b_F_countFree_2 s.1 s.2) FU ((0 : Int32), σ)) fun w4 σ5 => some σ5)
set_option maxHeartbeats 4000000 in
set_option maxRecDepth 100000 in
theorem wb_F_countFree_2 {x : JX} {ad : Nat → Nat} {cA : ClassId} {wr : va_W} (C : jC x cc_F_countFree 3 "PlainWarehouse$Fillings") (hT : (jT x)[0]? = some (cA, .int)) (hR : jR x = rm_F_countFree)  (σ : SP) (v2 : Int32) {o : (Int32 × SP) ⊕ (Int32 × SP)} (h : b_F_countFree_2 v2 σ = some o) (kc : ∀ (u2 : Int32) (τ : SP), o = .inl (u2, τ) → jW x 3 0 0 2 [(0, .ref (ad 11)), (1, .ref (ad 2)), (2, .int u2)] [] ((wP ad cA τ) ++ wr)) (ke : ∀ (u2 : Int32) (τ : SP), o = .inr (u2, τ) → jW x 3 0 0 25 [(0, .ref (ad 11)), (1, .ref (ad 2)), (2, .int u2)] [] ((wP ad cA τ) ++ wr)) : jW x 3 0 0 2 [(0, .ref (ad 11)), (1, .ref (ad 2)), (2, .int v2)] [] ((wP ad cA σ) ++ wr) := by
  unfold b_F_countFree_2 at h
  refine j_iload_n C 2 d_F_countFree_2 rfl rfl rfl ?_
  refine j_bipush (v := 6) C d_F_countFree_3 rfl (by decide) ?_
  refine j_icmp_ge (tgt := 25) C d_F_countFree_5 (by decide) rfl h (fun h => ?_) (fun h => ?_)
  · cases h
    refine j_sub [0, 1, 2] rfl (ke _ _ rfl)
  · refine j_aload_n C 0 d_F_countFree_8 rfl rfl rfl ?_
    refine j_get C in_F 11 rfl rfl 2 (by decide) tw_119 rfl (v := .ref (ad 14)) rfl d_F_countFree_9 rfl ?_
    refine j_iload_n C 2 d_F_countFree_12 rfl rfl rfl ?_
    refine j_aload_n C 1 d_F_countFree_13 rfl rfl rfl ?_
    refine j_iload_n C 2 d_F_countFree_14 rfl rfl rfl ?_
    obtain ⟨r1, h2, h⟩ := mb1_some h
    refine j_callVN C hR (As := [.int v2]) (ct_H_freeUnits (jl x) (jD x) (jT x) hT v2 σ h2) kf_H_freeUnits (by decide) tw_444 tw_412 tw_20 2 rfl rfl (rest := [.int v2, .ref (ad 14)]) rfl rfl (Nat.le_of_ble_eq_true rfl) (by decide) ⟨rfl, rfl⟩ d_F_countFree_15 rfl (st1 := [.int r1, .int v2, .ref (ad 14)]) rfl ?_
    refine j_iast C (fun t => (wP ad cA t) ++ wr) 14 0 rfl hT d_F_countFree_18 rfl h rfl (fun σ3 h => ?_)
    refine j_iinc (v' := (v2 + 1)) (lv' := [(2, .int (v2 + 1)), (0, .ref (ad 11)), (1, .ref (ad 2))]) C 2 d_F_countFree_19 rfl rfl rfl (by decide) rfl ?_
    refine j_goto (tgt := 2) C d_F_countFree_22 (by decide) ?_
    cases h
    refine j_sub [1, 2, 0] rfl (kc _ _ rfl)
set_option maxRecDepth 100000 in
theorem wl_F_countFree_2 {x : JX} {ad : Nat → Nat} {cA : ClassId} {wr : va_W} (C : jC x cc_F_countFree 3 "PlainWarehouse$Fillings") (hT : (jT x)[0]? = some (cA, .int)) (hR : jR x = rm_F_countFree)  (σ : SP) (v2 : Int32) {u2 : Int32} {τ : SP} (n : Nat) (h : lp (fun s => b_F_countFree_2 s.1 s.2) n (v2, σ) = some (u2, τ)) (K : jW x 3 0 0 25 [(0, .ref (ad 11)), (1, .ref (ad 2)), (2, .int u2)] [] ((wP ad cA τ) ++ wr)) : jW x 3 0 0 2 [(0, .ref (ad 11)), (1, .ref (ad 2)), (2, .int v2)] [] ((wP ad cA σ) ++ wr) :=
  j_lp (Pr := fun s => jW x 3 0 0 2 [(0, .ref (ad 11)), (1, .ref (ad 2)), (2, .int s.1)] [] ((wP ad cA s.2) ++ wr)) (K := fun s => jW x 3 0 0 25 [(0, .ref (ad 11)), (1, .ref (ad 2)), (2, .int s.1)] [] ((wP ad cA s.2) ++ wr)) (fun s o h kc ke => wb_F_countFree_2 C hT hR  s.2 s.1 h (fun u2 τ e => kc _ e) (fun u2 τ e => ke _ e)) n _ _ h K
set_option maxHeartbeats 4000000 in
set_option maxRecDepth 100000 in
theorem w_F_countFree {x : JX} {ad : Nat → Nat} {cA : ClassId} {wr : va_W} (C : jC x cc_F_countFree 3 "PlainWarehouse$Fillings") (hT : (jT x)[0]? = some (cA, .int)) (hR : jR x = rm_F_countFree)  (σ : SP) {σ' : SP} (hr : (jt x).sig.returnType = none) (E : jE x 0 0 none ((wP ad cA σ') ++ wr)) (h : m_F_countFree σ = some σ') : jW x 3 0 0 0 [(0, .ref (ad 11)), (1, .ref (ad 2))] [] ((wP ad cA σ) ++ wr) := by
  unfold m_F_countFree at h
  refine j_iconst (v := 0) C d_F_countFree_0 rfl (by decide) ?_
  refine j_istore_n (lv' := [(2, .int (0 : Int32)), (0, .ref (ad 11)), (1, .ref (ad 2))]) C d_F_countFree_1 rfl rfl (by decide) rfl ?_
  obtain ⟨w4, σ5, h6, h⟩ := mb2_some h
  refine j_sub [1, 2, 0] rfl (wl_F_countFree_2 C hT hR  σ (0 : Int32) FU h6 ?_)
  cases h
  exact j_vret C E hr d_F_countFree_25
theorem ct_F_countFree (l : Launch) (D : va_G) (tys : List (ClassId × FieldType)) {ad : Nat → Nat} {cA : ClassId} {wr : va_W} (hT : tys[0]? = some (cA, .int)) (σ : SP) {σ' : SP} (h : m_F_countFree σ = some σ') : jM l y_F_countFree ws_F_countFree rm_F_countFree D tys [.ref (ad 11), .ref (ad 2)] ((wP ad cA σ) ++ wr) none ((wP ad cA σ') ++ wr) :=
  j_of (by decide +kernel) rfl (Nat.le_of_ble_eq_true rfl) rfl (fun x _ _ hT' hR C hr _ E => w_F_countFree C (by rw [hT']; exact hT) hR σ hr E h)
def rm_F_chooseOpen : Room := { frames := 2, cells := 0, slots := 0, locals := 42 }
def b_F_chooseOpen_7 (c2 : Int32) (v3 : Int32) (σ : SP) : Option ((Int32 × SP) ⊕ (Int32 × SP)) :=
  (if (10 : Int32) ≤ v3 then some (.inr (v3, σ)) else (if (6 : Int32) ≤ (g_sz σ) then some (.inr (v3, σ)) else (mb1 (m_P_isInSet v3 c2) fun r2 => (if r2 = 0 then some (.inl ((v3 + 1), σ)) else (mb1 (m_H_isOpen v3 σ) fun r4 => (if r4 = 0 then some (.inl ((v3 + 1), σ)) else (mrd 10 (g_wa σ) v3 fun r6 => (mrd 10 (g_gt σ) v3 fun r7 => (mck 6 (g_sz σ) (mlet (u_la σ (upd (g_la σ) (g_sz σ).toNatClampNeg (r6 - r7))) fun σ8 => (mrd 10 (g_gw σ8) v3 fun r9 => (mck 6 (g_sz σ8) (mlet (u_go σ8 (upd (g_go σ8) (g_sz σ8).toNatClampNeg r9)) fun σ10 => (mlet (u_sz σ10 ((g_sz σ10) + (1 : Int32))) fun σ11 => some (.inl ((v3 + 1), σ11))))))))))))))))
def m_F_chooseOpen (a2 : Int32) (σ : SP) : Option (SP) :=
  (mlet (u_sz σ (0 : Int32)) fun σ1 => (mb2 (lp (fun s => b_F_chooseOpen_7 a2 s.1 s.2) FU ((0 : Int32), σ1)) fun w12 σ13 => some σ13))
set_option maxHeartbeats 4000000 in
set_option maxRecDepth 100000 in
theorem wb_F_chooseOpen_7 {x : JX} {ad : Nat → Nat} {cA : ClassId} {wr : va_W} (C : jC x cc_F_chooseOpen 4 "PlainWarehouse$Fillings") (hT : (jT x)[0]? = some (cA, .int)) (hR : jR x = rm_F_chooseOpen)  (c2 : Int32) (σ : SP) (v3 : Int32) {o : (Int32 × SP) ⊕ (Int32 × SP)} (h : b_F_chooseOpen_7 c2 v3 σ = some o) (kc : ∀ (u3 : Int32) (τ : SP), o = .inl (u3, τ) → jW x 4 0 0 7 [(0, .ref (ad 11)), (1, .ref (ad 2)), (2, .int c2), (3, .int u3)] [] ((wP ad cA τ) ++ wr)) (ke : ∀ (u3 : Int32) (τ : SP), o = .inr (u3, τ) → jW x 4 0 0 91 [(0, .ref (ad 11)), (1, .ref (ad 2)), (2, .int c2), (3, .int u3)] [] ((wP ad cA τ) ++ wr)) : jW x 4 0 0 7 [(0, .ref (ad 11)), (1, .ref (ad 2)), (2, .int c2), (3, .int v3)] [] ((wP ad cA σ) ++ wr) := by
  unfold b_F_chooseOpen_7 at h
  refine j_iload_n C 3 d_F_chooseOpen_7 rfl rfl rfl ?_
  refine j_bipush (v := 10) C d_F_chooseOpen_8 rfl (by decide) ?_
  refine j_icmp_ge (tgt := 91) C d_F_chooseOpen_10 (by decide) rfl h (fun h => ?_) (fun h => ?_)
  · cases h
    refine j_sub [0, 1, 2, 3] rfl (ke _ _ rfl)
  · refine j_aload_n C 0 d_F_chooseOpen_13 rfl rfl rfl ?_
    refine j_get C in_F 11 rfl rfl 4 (by decide) tw_121 rfl (v := .int (g_sz σ)) rfl d_F_chooseOpen_14 rfl ?_
    refine j_bipush (v := 6) C d_F_chooseOpen_17 rfl (by decide) ?_
    refine j_icmp_ge (tgt := 91) C d_F_chooseOpen_19 (by decide) rfl h (fun h => ?_) (fun h => ?_)
    · cases h
      refine j_sub [0, 1, 2, 3] rfl (ke _ _ rfl)
    · refine j_iload_n C 3 d_F_chooseOpen_22 rfl rfl rfl ?_
      refine j_iload_n C 2 d_F_chooseOpen_23 rfl rfl rfl ?_
      obtain ⟨r2, h3, h⟩ := mb1_some h
      refine j_callSN C hR (As := [.int v3, .int c2]) (ct_P_isInSet (jl x) (jD x) (jT x) v3 c2 h3) kf_P_isInSet (by decide) tw_449 tw_427 (rest := []) rfl rfl (Nat.le_of_ble_eq_true rfl) (by decide) ⟨rfl, rfl⟩ d_F_chooseOpen_24 rfl (st1 := [.int r2]) rfl ?_
      refine j_if_eq (tgt := 85) C d_F_chooseOpen_27 (by decide) rfl h (fun h => ?_) (fun h => ?_)
      · refine j_iinc (v' := (v3 + 1)) (lv' := [(3, .int (v3 + 1)), (0, .ref (ad 11)), (1, .ref (ad 2)), (2, .int c2)]) C 3 d_F_chooseOpen_85 rfl rfl rfl (by decide) rfl ?_
        refine j_goto (tgt := 7) C d_F_chooseOpen_88 (by decide) ?_
        cases h
        refine j_sub [1, 2, 3, 0] rfl (kc _ _ rfl)
      · refine j_aload_n C 1 d_F_chooseOpen_30 rfl rfl rfl ?_
        refine j_iload_n C 3 d_F_chooseOpen_31 rfl rfl rfl ?_
        obtain ⟨r4, h5, h⟩ := mb1_some h
        refine j_callVN C hR (As := [.int v3]) (ct_H_isOpen (jl x) (jD x) (jT x) hT v3 σ h5) kf_H_isOpen (by decide) tw_450 tw_195 tw_6 2 rfl rfl (rest := []) rfl rfl (Nat.le_of_ble_eq_true rfl) (by decide) ⟨rfl, rfl⟩ d_F_chooseOpen_32 rfl (st1 := [.int r4]) rfl ?_
        refine j_if_eq (tgt := 85) C d_F_chooseOpen_35 (by decide) rfl h (fun h => ?_) (fun h => ?_)
        · refine j_iinc (v' := (v3 + 1)) (lv' := [(3, .int (v3 + 1)), (0, .ref (ad 11)), (1, .ref (ad 2)), (2, .int c2)]) C 3 d_F_chooseOpen_85 rfl rfl rfl (by decide) rfl ?_
          refine j_goto (tgt := 7) C d_F_chooseOpen_88 (by decide) ?_
          cases h
          refine j_sub [1, 2, 3, 0] rfl (kc _ _ rfl)
        · refine j_aload_n C 0 d_F_chooseOpen_38 rfl rfl rfl ?_
          refine j_get C in_F 11 rfl rfl 0 (by decide) tw_117 rfl (v := .ref (ad 12)) rfl d_F_chooseOpen_39 rfl ?_
          refine j_aload_n C 0 d_F_chooseOpen_42 rfl rfl rfl ?_
          refine j_get C in_F 11 rfl rfl 4 (by decide) tw_121 rfl (v := .int (g_sz σ)) rfl d_F_chooseOpen_43 rfl ?_
          refine j_aload_n C 1 d_F_chooseOpen_46 rfl rfl rfl ?_
          refine j_getN C in_H 2 rfl rfl 3 (by decide) tw_82 rfl (v := .ref (ad 6)) rfl d_F_chooseOpen_47 rfl ?_
          refine j_iload_n C 3 d_F_chooseOpen_50 rfl rfl rfl ?_
          refine j_iald C 6 0 rfl hT d_F_chooseOpen_51 rfl h (fun r6 h => ?_)
          refine j_aload_n C 1 d_F_chooseOpen_52 rfl rfl rfl ?_
          refine j_getN C in_H 2 rfl rfl 5 (by decide) tw_87 rfl (v := .ref (ad 8)) rfl d_F_chooseOpen_53 rfl ?_
          refine j_iload_n C 3 d_F_chooseOpen_56 rfl rfl rfl ?_
          refine j_iald C 8 0 rfl hT d_F_chooseOpen_57 rfl h (fun r7 h => ?_)
          refine j_isub C d_F_chooseOpen_58 rfl ?_
          refine j_iast C (fun t => (wP ad cA t) ++ wr) 12 0 rfl hT d_F_chooseOpen_59 rfl h rfl (fun σ8 h => ?_)
          refine j_aload_n C 0 d_F_chooseOpen_60 rfl rfl rfl ?_
          refine j_get C in_F 11 rfl rfl 1 (by decide) tw_118 rfl (v := .ref (ad 13)) rfl d_F_chooseOpen_61 rfl ?_
          refine j_aload_n C 0 d_F_chooseOpen_64 rfl rfl rfl ?_
          refine j_get C in_F 11 rfl rfl 4 (by decide) tw_121 rfl (v := .int (g_sz σ8)) rfl d_F_chooseOpen_65 rfl ?_
          refine j_aload_n C 1 d_F_chooseOpen_68 rfl rfl rfl ?_
          refine j_getN C in_H 2 rfl rfl 4 (by decide) tw_84 rfl (v := .ref (ad 7)) rfl d_F_chooseOpen_69 rfl ?_
          refine j_iload_n C 3 d_F_chooseOpen_72 rfl rfl rfl ?_
          refine j_iald C 7 0 rfl hT d_F_chooseOpen_73 rfl h (fun r9 h => ?_)
          refine j_iast C (fun t => (wP ad cA t) ++ wr) 13 0 rfl hT d_F_chooseOpen_74 rfl h rfl (fun σ10 h => ?_)
          refine j_aload_n C 0 d_F_chooseOpen_75 rfl rfl rfl ?_
          refine j_dup C d_F_chooseOpen_76 rfl rfl ?_
          refine j_get C in_F 11 rfl rfl 4 (by decide) tw_121 rfl (v := .int (g_sz σ10)) rfl d_F_chooseOpen_77 rfl ?_
          refine j_iconst (v := 1) C d_F_chooseOpen_80 rfl (by decide) ?_
          refine j_iadd C d_F_chooseOpen_81 rfl ?_
          refine j_put C in_F ty_F_ok nm_F 11 rfl rfl 4 (by decide) tw_121 rfl rfl rfl (Nat.le_of_ble_eq_true rfl) (fun t => (wP ad cA t) ++ wr) d_F_chooseOpen_82 rfl h rfl (fun σ11 h => ?_)
          refine j_iinc (v' := (v3 + 1)) (lv' := [(3, .int (v3 + 1)), (0, .ref (ad 11)), (1, .ref (ad 2)), (2, .int c2)]) C 3 d_F_chooseOpen_85 rfl rfl rfl (by decide) rfl ?_
          refine j_goto (tgt := 7) C d_F_chooseOpen_88 (by decide) ?_
          cases h
          refine j_sub [1, 2, 3, 0] rfl (kc _ _ rfl)
set_option maxRecDepth 100000 in
theorem wl_F_chooseOpen_7 {x : JX} {ad : Nat → Nat} {cA : ClassId} {wr : va_W} (C : jC x cc_F_chooseOpen 4 "PlainWarehouse$Fillings") (hT : (jT x)[0]? = some (cA, .int)) (hR : jR x = rm_F_chooseOpen)  (c2 : Int32) (σ : SP) (v3 : Int32) {u3 : Int32} {τ : SP} (n : Nat) (h : lp (fun s => b_F_chooseOpen_7 c2 s.1 s.2) n (v3, σ) = some (u3, τ)) (K : jW x 4 0 0 91 [(0, .ref (ad 11)), (1, .ref (ad 2)), (2, .int c2), (3, .int u3)] [] ((wP ad cA τ) ++ wr)) : jW x 4 0 0 7 [(0, .ref (ad 11)), (1, .ref (ad 2)), (2, .int c2), (3, .int v3)] [] ((wP ad cA σ) ++ wr) :=
  j_lp (Pr := fun s => jW x 4 0 0 7 [(0, .ref (ad 11)), (1, .ref (ad 2)), (2, .int c2), (3, .int s.1)] [] ((wP ad cA s.2) ++ wr)) (K := fun s => jW x 4 0 0 91 [(0, .ref (ad 11)), (1, .ref (ad 2)), (2, .int c2), (3, .int s.1)] [] ((wP ad cA s.2) ++ wr)) (fun s o h kc ke => wb_F_chooseOpen_7 C hT hR c2 s.2 s.1 h (fun u3 τ e => kc _ e) (fun u3 τ e => ke _ e)) n _ _ h K
set_option maxHeartbeats 4000000 in
set_option maxRecDepth 100000 in
theorem w_F_chooseOpen {x : JX} {ad : Nat → Nat} {cA : ClassId} {wr : va_W} (C : jC x cc_F_chooseOpen 4 "PlainWarehouse$Fillings") (hT : (jT x)[0]? = some (cA, .int)) (hR : jR x = rm_F_chooseOpen)  (a2 : Int32) (σ : SP) {σ' : SP} (hr : (jt x).sig.returnType = none) (E : jE x 0 0 none ((wP ad cA σ') ++ wr)) (h : m_F_chooseOpen a2 σ = some σ') : jW x 4 0 0 0 [(0, .ref (ad 11)), (1, .ref (ad 2)), (2, .int a2)] [] ((wP ad cA σ) ++ wr) := by
  unfold m_F_chooseOpen at h
  refine j_aload_n C 0 d_F_chooseOpen_0 rfl rfl rfl ?_
  refine j_iconst (v := 0) C d_F_chooseOpen_1 rfl (by decide) ?_
  refine j_put C in_F ty_F_ok nm_F 11 rfl rfl 4 (by decide) tw_121 rfl rfl rfl (Nat.le_of_ble_eq_true rfl) (fun t => (wP ad cA t) ++ wr) d_F_chooseOpen_2 rfl h rfl (fun σ1 h => ?_)
  refine j_iconst (v := 0) C d_F_chooseOpen_5 rfl (by decide) ?_
  refine j_istore_n (lv' := [(3, .int (0 : Int32)), (0, .ref (ad 11)), (1, .ref (ad 2)), (2, .int a2)]) C d_F_chooseOpen_6 rfl rfl (by decide) rfl ?_
  obtain ⟨w12, σ13, h14, h⟩ := mb2_some h
  refine j_sub [1, 2, 3, 0] rfl (wl_F_chooseOpen_7 C hT hR a2 σ1 (0 : Int32) FU h14 ?_)
  cases h
  exact j_vret C E hr d_F_chooseOpen_91
theorem ct_F_chooseOpen (l : Launch) (D : va_G) (tys : List (ClassId × FieldType)) {ad : Nat → Nat} {cA : ClassId} {wr : va_W} (hT : tys[0]? = some (cA, .int)) (a2 : Int32) (σ : SP) {σ' : SP} (h : m_F_chooseOpen a2 σ = some σ') : jM l y_F_chooseOpen ws_F_chooseOpen rm_F_chooseOpen D tys [.ref (ad 11), .ref (ad 2), .int a2] ((wP ad cA σ) ++ wr) none ((wP ad cA σ') ++ wr) :=
  j_of (by decide +kernel) rfl (Nat.le_of_ble_eq_true rfl) rfl (fun x _ _ hT' hR C hr _ E => w_F_chooseOpen C (by rw [hT']; exact hT) hR a2 σ hr E h)
def rm_F_isEnoughFor : Room := { frames := 1, cells := 0, slots := 0, locals := 60 }
def b_F_isEnoughFor_17 (c1 : Int32) (v2 : Int32) (σ : SP) : Option ((Int32 × SP) ⊕ (Nat × Int32 × SP)) :=
  (if (g_sz σ) ≤ v2 then some (.inr (1, v2, σ)) else (mb1 (m_P_isInSet v2 c1) fun r2 => (if r2 = 0 then some (.inl ((v2 + 1), σ)) else (mrd 6 (g_go σ) v2 fun r4 => (mrd 6 (g_le σ) r4 fun r5 => (mrd 6 (g_la σ) v2 fun r6 => (mck 6 r4 (mlet (u_le σ (upd (g_le σ) r4.toNatClampNeg (r5 - r6))) fun σ7 => (mrd 6 (g_go σ7) v2 fun r8 => (mrd 6 (g_le σ7) r8 fun r9 => (if 0 ≤ r9 then some (.inl ((v2 + 1), σ7)) else some (.inr (0, v2, σ7)))))))))))))
def m_F_isEnoughFor (a1 : Int32) (σ : SP) : Option (Int32 × SP) :=
  (mlet (u_le σ (va_cpy (g_fr σ) (g_le σ) (0 : Int32).toNatClampNeg (0 : Int32).toNatClampNeg (6 : Int32).toNatClampNeg)) fun σ1 => (mb3 (lp (fun s => b_F_isEnoughFor_17 a1 s.1 s.2) FU ((0 : Int32), σ1)) fun tg13 w10 σ11 => (if tg13 = 0 then some ((0 : Int32), σ11) else some ((1 : Int32), σ11))))
set_option maxHeartbeats 4000000 in
set_option maxRecDepth 100000 in
theorem wb_F_isEnoughFor_17 {x : JX} {ad : Nat → Nat} {cA : ClassId} {wr : va_W} (C : jC x cc_F_isEnoughFor 3 "PlainWarehouse$Fillings") (hT : (jT x)[0]? = some (cA, .int)) (hR : jR x = rm_F_isEnoughFor)  (c1 : Int32) (σ : SP) (v2 : Int32) {o : (Int32 × SP) ⊕ (Nat × Int32 × SP)} (h : b_F_isEnoughFor_17 c1 v2 σ = some o) (kc : ∀ (u2 : Int32) (τ : SP), o = .inl (u2, τ) → jW x 3 0 0 17 [(0, .ref (ad 11)), (1, .int c1), (2, .int u2)] [] ((wP ad cA τ) ++ wr)) (ke0 : ∀ (u2 : Int32) (τ : SP), o = .inr (0, u2, τ) → jW x 3 0 0 67 [(0, .ref (ad 11)), (1, .int c1), (2, .int u2)] [] ((wP ad cA τ) ++ wr)) (ke1 : ∀ (u2 : Int32) (τ : SP), o = .inr (1, u2, τ) → jW x 3 0 0 75 [(0, .ref (ad 11)), (1, .int c1), (2, .int u2)] [] ((wP ad cA τ) ++ wr)) : jW x 3 0 0 17 [(0, .ref (ad 11)), (1, .int c1), (2, .int v2)] [] ((wP ad cA σ) ++ wr) := by
  unfold b_F_isEnoughFor_17 at h
  refine j_iload_n C 2 d_F_isEnoughFor_17 rfl rfl rfl ?_
  refine j_aload_n C 0 d_F_isEnoughFor_18 rfl rfl rfl ?_
  refine j_get C in_F 11 rfl rfl 4 (by decide) tw_121 rfl (v := .int (g_sz σ)) rfl d_F_isEnoughFor_19 rfl ?_
  refine j_icmp_ge (tgt := 75) C d_F_isEnoughFor_22 (by decide) rfl h (fun h => ?_) (fun h => ?_)
  · cases h
    refine j_sub [0, 1, 2] rfl (ke1 _ _ rfl)
  · refine j_iload_n C 2 d_F_isEnoughFor_25 rfl rfl rfl ?_
    refine j_iload_n C 1 d_F_isEnoughFor_26 rfl rfl rfl ?_
    obtain ⟨r2, h3, h⟩ := mb1_some h
    refine j_callSN C hR (As := [.int v2, .int c1]) (ct_P_isInSet (jl x) (jD x) (jT x) v2 c1 h3) kf_P_isInSet (by decide) tw_449 tw_427 (rest := []) rfl rfl (Nat.le_of_ble_eq_true rfl) (by decide) ⟨rfl, rfl⟩ d_F_isEnoughFor_27 rfl (st1 := [.int r2]) rfl ?_
    refine j_if_eq (tgt := 69) C d_F_isEnoughFor_30 (by decide) rfl h (fun h => ?_) (fun h => ?_)
    · refine j_iinc (v' := (v2 + 1)) (lv' := [(2, .int (v2 + 1)), (0, .ref (ad 11)), (1, .int c1)]) C 2 d_F_isEnoughFor_69 rfl rfl rfl (by decide) rfl ?_
      refine j_goto (tgt := 17) C d_F_isEnoughFor_72 (by decide) ?_
      cases h
      refine j_sub [1, 2, 0] rfl (kc _ _ rfl)
    · refine j_aload_n C 0 d_F_isEnoughFor_33 rfl rfl rfl ?_
      refine j_get C in_F 11 rfl rfl 3 (by decide) tw_120 rfl (v := .ref (ad 15)) rfl d_F_isEnoughFor_34 rfl ?_
      refine j_aload_n C 0 d_F_isEnoughFor_37 rfl rfl rfl ?_
      refine j_get C in_F 11 rfl rfl 1 (by decide) tw_118 rfl (v := .ref (ad 13)) rfl d_F_isEnoughFor_38 rfl ?_
      refine j_iload_n C 2 d_F_isEnoughFor_41 rfl rfl rfl ?_
      refine j_iald C 13 0 rfl hT d_F_isEnoughFor_42 rfl h (fun r4 h => ?_)
      refine j_dup2 C d_F_isEnoughFor_43 rfl rfl rfl ?_
      refine j_iald C 15 0 rfl hT d_F_isEnoughFor_44 rfl h (fun r5 h => ?_)
      refine j_aload_n C 0 d_F_isEnoughFor_45 rfl rfl rfl ?_
      refine j_get C in_F 11 rfl rfl 0 (by decide) tw_117 rfl (v := .ref (ad 12)) rfl d_F_isEnoughFor_46 rfl ?_
      refine j_iload_n C 2 d_F_isEnoughFor_49 rfl rfl rfl ?_
      refine j_iald C 12 0 rfl hT d_F_isEnoughFor_50 rfl h (fun r6 h => ?_)
      refine j_isub C d_F_isEnoughFor_51 rfl ?_
      refine j_iast C (fun t => (wP ad cA t) ++ wr) 15 0 rfl hT d_F_isEnoughFor_52 rfl h rfl (fun σ7 h => ?_)
      refine j_aload_n C 0 d_F_isEnoughFor_53 rfl rfl rfl ?_
      refine j_get C in_F 11 rfl rfl 3 (by decide) tw_120 rfl (v := .ref (ad 15)) rfl d_F_isEnoughFor_54 rfl ?_
      refine j_aload_n C 0 d_F_isEnoughFor_57 rfl rfl rfl ?_
      refine j_get C in_F 11 rfl rfl 1 (by decide) tw_118 rfl (v := .ref (ad 13)) rfl d_F_isEnoughFor_58 rfl ?_
      refine j_iload_n C 2 d_F_isEnoughFor_61 rfl rfl rfl ?_
      refine j_iald C 13 0 rfl hT d_F_isEnoughFor_62 rfl h (fun r8 h => ?_)
      refine j_iald C 15 0 rfl hT d_F_isEnoughFor_63 rfl h (fun r9 h => ?_)
      refine j_if_ge (tgt := 69) C d_F_isEnoughFor_64 (by decide) rfl h (fun h => ?_) (fun h => ?_)
      · refine j_iinc (v' := (v2 + 1)) (lv' := [(2, .int (v2 + 1)), (0, .ref (ad 11)), (1, .int c1)]) C 2 d_F_isEnoughFor_69 rfl rfl rfl (by decide) rfl ?_
        refine j_goto (tgt := 17) C d_F_isEnoughFor_72 (by decide) ?_
        cases h
        refine j_sub [1, 2, 0] rfl (kc _ _ rfl)
      · cases h
        refine j_sub [0, 1, 2] rfl (ke0 _ _ rfl)
set_option maxRecDepth 100000 in
theorem wl_F_isEnoughFor_17 {x : JX} {ad : Nat → Nat} {cA : ClassId} {wr : va_W} (C : jC x cc_F_isEnoughFor 3 "PlainWarehouse$Fillings") (hT : (jT x)[0]? = some (cA, .int)) (hR : jR x = rm_F_isEnoughFor)  (c1 : Int32) (σ : SP) (v2 : Int32) {u2 : Int32} {τ : SP} {tg : Nat} (n : Nat) (h : lp (fun s => b_F_isEnoughFor_17 c1 s.1 s.2) n (v2, σ) = some (tg, u2, τ)) (K0 : tg = 0 → jW x 3 0 0 67 [(0, .ref (ad 11)), (1, .int c1), (2, .int u2)] [] ((wP ad cA τ) ++ wr)) (K1 : ¬ tg = 0 → jW x 3 0 0 75 [(0, .ref (ad 11)), (1, .int c1), (2, .int u2)] [] ((wP ad cA τ) ++ wr)) : jW x 3 0 0 17 [(0, .ref (ad 11)), (1, .int c1), (2, .int v2)] [] ((wP ad cA σ) ++ wr) :=
  j_lp (Pr := fun s => jW x 3 0 0 17 [(0, .ref (ad 11)), (1, .int c1), (2, .int s.1)] [] ((wP ad cA s.2) ++ wr)) (K := fun s => (s.1 = 0 → jW x 3 0 0 67 [(0, .ref (ad 11)), (1, .int c1), (2, .int s.2.1)] [] ((wP ad cA s.2.2) ++ wr)) ∧ (¬ s.1 = 0 → jW x 3 0 0 75 [(0, .ref (ad 11)), (1, .int c1), (2, .int s.2.1)] [] ((wP ad cA s.2.2) ++ wr))) (fun s o h kc ke => wb_F_isEnoughFor_17 C hT hR c1 s.2 s.1 h (fun u2 τ e => kc _ e) (fun u2 τ e => (ke _ e).1 rfl) (fun u2 τ e => (ke _ e).2 Nat.one_ne_zero)) n _ _ h ⟨K0, K1⟩
set_option maxHeartbeats 4000000 in
set_option maxRecDepth 100000 in
theorem w_F_isEnoughFor {x : JX} {ad : Nat → Nat} {cA : ClassId} {wr : va_W} (C : jC x cc_F_isEnoughFor 3 "PlainWarehouse$Fillings") (hT : (jT x)[0]? = some (cA, .int)) (hR : jR x = rm_F_isEnoughFor)  (a1 : Int32) (σ : SP) {r : Int32} {σ' : SP} (hr : (jt x).sig.returnType = some .boolean) (E : jE x 0 0 (some (.int r)) ((wP ad cA σ') ++ wr)) (h : m_F_isEnoughFor a1 σ = some (r, σ')) : jW x 3 0 0 0 [(0, .ref (ad 11)), (1, .int a1)] [] ((wP ad cA σ) ++ wr) := by
  unfold m_F_isEnoughFor at h
  refine j_aload_n C 0 d_F_isEnoughFor_0 rfl rfl rfl ?_
  refine j_get C in_F 11 rfl rfl 2 (by decide) tw_119 rfl (v := .ref (ad 14)) rfl d_F_isEnoughFor_1 rfl ?_
  refine j_iconst (v := 0) C d_F_isEnoughFor_4 rfl (by decide) ?_
  refine j_aload_n C 0 d_F_isEnoughFor_5 rfl rfl rfl ?_
  refine j_get C in_F 11 rfl rfl 3 (by decide) tw_120 rfl (v := .ref (ad 15)) rfl d_F_isEnoughFor_6 rfl ?_
  refine j_iconst (v := 0) C d_F_isEnoughFor_9 rfl (by decide) ?_
  refine j_bipush (v := 6) C d_F_isEnoughFor_10 rfl (by decide) ?_
  refine j_copy C hR tw_456 tw_458 tw_457 tw_60 14 15 rfl rfl hT (by decide) (by decide) (by decide) (by decide) (by decide) (by decide) (by decide) d_F_isEnoughFor_12 rfl (fun t => (wP ad cA t) ++ wr) h rfl (fun σ1 h => ?_)
  refine j_iconst (v := 0) C d_F_isEnoughFor_15 rfl (by decide) ?_
  refine j_istore_n (lv' := [(2, .int (0 : Int32)), (0, .ref (ad 11)), (1, .int a1)]) C d_F_isEnoughFor_16 rfl rfl (by decide) rfl ?_
  obtain ⟨tg13, w10, σ11, h12, h⟩ := mb3_some h
  refine j_sub [1, 2, 0] rfl (wl_F_isEnoughFor_17 C hT hR a1 σ1 (0 : Int32) FU h12 (fun q => ?_) (fun q => ?_))
  · rw [if_pos q] at h
    refine j_iconst (v := 0) C d_F_isEnoughFor_67 rfl (by decide) ?_
    cases h
    exact j_zret C E hr rfl d_F_isEnoughFor_68
  · rw [if_neg q] at h
    refine j_iconst (v := 1) C d_F_isEnoughFor_75 rfl (by decide) ?_
    cases h
    exact j_zret C E hr rfl d_F_isEnoughFor_76
theorem ct_F_isEnoughFor (l : Launch) (D : va_G) (tys : List (ClassId × FieldType)) {ad : Nat → Nat} {cA : ClassId} {wr : va_W} (hT : tys[0]? = some (cA, .int)) (a1 : Int32) (σ : SP) {r : Int32} {σ' : SP} (h : m_F_isEnoughFor a1 σ = some (r, σ')) : jM l y_F_isEnoughFor ws_F_isEnoughFor rm_F_isEnoughFor D tys [.ref (ad 11), .int a1] ((wP ad cA σ) ++ wr) (some (.int r)) ((wP ad cA σ') ++ wr) :=
  j_of (by decide +kernel) rfl (Nat.le_of_ble_eq_true rfl) rfl (fun x _ _ hT' hR C hr _ E => w_F_isEnoughFor C (by rw [hT']; exact hT) hR a1 σ hr E h)
def rm_F_most : Room := { frames := 4, cells := 0, slots := 0, locals := 87 }
def b_F_most_16 (v3 : Int32) (v4 : Int32) (σ : SP) : Option ((Int32 × Int32 × SP) ⊕ (Int32 × Int32 × SP)) :=
  (if ((1 : Int32) <<< ((g_sz σ) &&& 31)) ≤ v4 then some (.inr (v3, v4, σ)) else (mb1 (m_JI_bitCount v4) fun r5 => (if r5 ≤ v3 then some (.inl (v3, (v4 + 1), σ)) else (mb2 (m_F_isEnoughFor v4 σ) fun r7 σ8 => (if r7 = 0 then some (.inl (v3, (v4 + 1), σ8)) else (mb1 (m_JI_bitCount v4) fun r10 => some (.inl (r10, (v4 + 1), σ8))))))))
def m_F_most (a2 : Int32) (σ : SP) : Option (Int32 × SP) :=
  (mb1 (m_F_countFree σ) fun σ1 => (mb1 (m_F_chooseOpen a2 σ1) fun σ3 => (mb3 (lp (fun s => b_F_most_16 s.1 s.2.1 s.2.2) FU ((0 : Int32), (0 : Int32), σ3)) fun w12 w13 σ14 => some (w12, σ14))))
set_option maxHeartbeats 4000000 in
set_option maxRecDepth 100000 in
theorem wb_F_most_16 {x : JX} {ad : Nat → Nat} {cA : ClassId} {wr : va_W} (C : jC x cc_F_most 5 "PlainWarehouse$Fillings") (hT : (jT x)[0]? = some (cA, .int)) (hR : jR x = rm_F_most)  (σ : SP) (v3 : Int32) (v4 : Int32) {o : (Int32 × Int32 × SP) ⊕ (Int32 × Int32 × SP)} (h : b_F_most_16 v3 v4 σ = some o) (kc : ∀ (u3 : Int32) (u4 : Int32) (τ : SP), o = .inl (u3, u4, τ) → jW x 5 0 0 16 [(0, .ref (ad 11)), (3, .int u3), (4, .int u4)] [] ((wP ad cA τ) ++ wr)) (ke : ∀ (u3 : Int32) (u4 : Int32) (τ : SP), o = .inr (u3, u4, τ) → jW x 5 0 0 57 [(0, .ref (ad 11)), (3, .int u3), (4, .int u4)] [] ((wP ad cA τ) ++ wr)) : jW x 5 0 0 16 [(0, .ref (ad 11)), (3, .int v3), (4, .int v4)] [] ((wP ad cA σ) ++ wr) := by
  unfold b_F_most_16 at h
  refine j_iload C 2 d_F_most_16 rfl rfl ?_
  refine j_iconst (v := 1) C d_F_most_18 rfl (by decide) ?_
  refine j_aload_n C 0 d_F_most_19 rfl rfl rfl ?_
  refine j_get C in_F 11 rfl rfl 4 (by decide) tw_121 rfl (v := .int (g_sz σ)) rfl d_F_most_20 rfl ?_
  refine j_ishl C d_F_most_23 rfl ?_
  refine j_icmp_ge (tgt := 57) C d_F_most_24 (by decide) rfl h (fun h => ?_) (fun h => ?_)
  · cases h
    refine j_sub [0, 1, 2] rfl (ke _ _ _ rfl)
  · refine j_iload C 2 d_F_most_27 rfl rfl ?_
    obtain ⟨r5, h6, h⟩ := mb1_some h
    refine j_callS C hR (As := [.int v4]) (ct_JI_bitCount (jl x) (jD x) (jT x) v4 h6) kf_JI_bitCount (by decide) tw_451 tw_431 (rest := []) rfl rfl (Nat.le_of_ble_eq_true rfl) (by decide) ⟨rfl, rfl⟩ d_F_most_29 rfl (st1 := [.int r5]) rfl ?_
    refine j_iload_n C 1 d_F_most_32 rfl rfl rfl ?_
    refine j_icmp_le (tgt := 51) C d_F_most_33 (by decide) rfl h (fun h => ?_) (fun h => ?_)
    · refine j_iinc (v' := (v4 + 1)) (lv' := [(4, .int (v4 + 1)), (0, .ref (ad 11)), (3, .int v3)]) C 2 d_F_most_51 rfl rfl rfl (by decide) rfl ?_
      refine j_goto (tgt := 16) C d_F_most_54 (by decide) ?_
      cases h
      refine j_sub [1, 2, 0] rfl (kc _ _ _ rfl)
    · refine j_aload_n C 0 d_F_most_36 rfl rfl rfl ?_
      refine j_iload C 2 d_F_most_37 rfl rfl ?_
      obtain ⟨r7, σ8, h9, h⟩ := mb2_some h
      refine j_callV C hR (As := [.int v4]) (ct_F_isEnoughFor (jl x) (jD x) (jT x) hT v4 σ h9) kf_F_isEnoughFor (by decide) tw_452 tw_454 tw_25 11 rfl rfl (rest := []) rfl rfl (Nat.le_of_ble_eq_true rfl) (by decide) ⟨rfl, rfl⟩ d_F_most_39 rfl (st1 := [.int r7]) rfl ?_
      refine j_if_eq (tgt := 51) C d_F_most_42 (by decide) rfl h (fun h => ?_) (fun h => ?_)
      · refine j_iinc (v' := (v4 + 1)) (lv' := [(4, .int (v4 + 1)), (0, .ref (ad 11)), (3, .int v3)]) C 2 d_F_most_51 rfl rfl rfl (by decide) rfl ?_
        refine j_goto (tgt := 16) C d_F_most_54 (by decide) ?_
        cases h
        refine j_sub [1, 2, 0] rfl (kc _ _ _ rfl)
      · refine j_iload C 2 d_F_most_45 rfl rfl ?_
        obtain ⟨r10, h11, h⟩ := mb1_some h
        refine j_callS C hR (As := [.int v4]) (ct_JI_bitCount (jl x) (jD x) (jT x) v4 h11) kf_JI_bitCount (by decide) tw_451 tw_431 (rest := []) rfl rfl (Nat.le_of_ble_eq_true rfl) (by decide) ⟨rfl, rfl⟩ d_F_most_47 rfl (st1 := [.int r10]) rfl ?_
        refine j_istore_n (lv' := [(3, .int r10), (0, .ref (ad 11)), (4, .int v4)]) C d_F_most_50 rfl rfl (by decide) rfl ?_
        refine j_iinc (v' := (v4 + 1)) (lv' := [(4, .int (v4 + 1)), (3, .int r10), (0, .ref (ad 11))]) C 2 d_F_most_51 rfl rfl rfl (by decide) rfl ?_
        refine j_goto (tgt := 16) C d_F_most_54 (by decide) ?_
        cases h
        refine j_sub [2, 1, 0] rfl (kc _ _ _ rfl)
set_option maxRecDepth 100000 in
theorem wl_F_most_16 {x : JX} {ad : Nat → Nat} {cA : ClassId} {wr : va_W} (C : jC x cc_F_most 5 "PlainWarehouse$Fillings") (hT : (jT x)[0]? = some (cA, .int)) (hR : jR x = rm_F_most)  (σ : SP) (v3 : Int32) (v4 : Int32) {u3 : Int32} {u4 : Int32} {τ : SP} (n : Nat) (h : lp (fun s => b_F_most_16 s.1 s.2.1 s.2.2) n (v3, v4, σ) = some (u3, u4, τ)) (K : jW x 5 0 0 57 [(0, .ref (ad 11)), (3, .int u3), (4, .int u4)] [] ((wP ad cA τ) ++ wr)) : jW x 5 0 0 16 [(0, .ref (ad 11)), (3, .int v3), (4, .int v4)] [] ((wP ad cA σ) ++ wr) :=
  j_lp (Pr := fun s => jW x 5 0 0 16 [(0, .ref (ad 11)), (3, .int s.1), (4, .int s.2.1)] [] ((wP ad cA s.2.2) ++ wr)) (K := fun s => jW x 5 0 0 57 [(0, .ref (ad 11)), (3, .int s.1), (4, .int s.2.1)] [] ((wP ad cA s.2.2) ++ wr)) (fun s o h kc ke => wb_F_most_16 C hT hR  s.2.2 s.1 s.2.1 h (fun u3 u4 τ e => kc _ e) (fun u3 u4 τ e => ke _ e)) n _ _ h K
set_option maxHeartbeats 4000000 in
set_option maxRecDepth 100000 in
theorem w_F_most {x : JX} {ad : Nat → Nat} {cA : ClassId} {wr : va_W} (C : jC x cc_F_most 5 "PlainWarehouse$Fillings") (hT : (jT x)[0]? = some (cA, .int)) (hR : jR x = rm_F_most)  (a2 : Int32) (σ : SP) {r : Int32} {σ' : SP} (hr : (jt x).sig.returnType = some .int) (E : jE x 0 0 (some (.int r)) ((wP ad cA σ') ++ wr)) (h : m_F_most a2 σ = some (r, σ')) : jW x 5 0 0 0 [(0, .ref (ad 11)), (1, .ref (ad 2)), (2, .int a2)] [] ((wP ad cA σ) ++ wr) := by
  unfold m_F_most at h
  refine j_aload_n C 0 d_F_most_0 rfl rfl rfl ?_
  refine j_aload_n C 1 d_F_most_1 rfl rfl rfl ?_
  obtain ⟨σ1, h2, h⟩ := mb1_some h
  refine j_callV C hR (As := [.ref (ad 2)]) (ct_F_countFree (jl x) (jD x) (jT x) hT  σ h2) kf_F_countFree (by decide) tw_440 tw_442 tw_23 11 rfl rfl (rest := []) rfl rfl (Nat.le_of_ble_eq_true rfl) (by decide) ⟨rfl, rfl⟩ d_F_most_2 rfl (st1 := []) rfl ?_
  refine j_aload_n C 0 d_F_most_5 rfl rfl rfl ?_
  refine j_aload_n C 1 d_F_most_6 rfl rfl rfl ?_
  refine j_iload_n C 2 d_F_most_7 rfl rfl rfl ?_
  obtain ⟨σ3, h4, h⟩ := mb1_some h
  refine j_callV C hR (As := [.ref (ad 2), .int a2]) (ct_F_chooseOpen (jl x) (jD x) (jT x) hT a2 σ1 h4) kf_F_chooseOpen (by decide) tw_445 tw_447 tw_24 11 rfl rfl (rest := []) rfl rfl (Nat.le_of_ble_eq_true rfl) (by decide) ⟨rfl, rfl⟩ d_F_most_8 rfl (st1 := []) rfl ?_
  refine j_iconst (v := 0) C d_F_most_11 rfl (by decide) ?_
  refine j_istore_n (lv' := [(3, .int (0 : Int32)), (0, .ref (ad 11)), (1, .ref (ad 2)), (2, .int a2)]) C d_F_most_12 rfl rfl (by decide) rfl ?_
  refine j_iconst (v := 0) C d_F_most_13 rfl (by decide) ?_
  refine j_istore (lv' := [(4, .int (0 : Int32)), (3, .int (0 : Int32)), (0, .ref (ad 11)), (1, .ref (ad 2)), (2, .int a2)]) C d_F_most_14 rfl (by decide) rfl ?_
  obtain ⟨w12, w13, σ14, h15, h⟩ := mb3_some h
  refine j_sub [2, 1, 0] rfl (wl_F_most_16 C hT hR  σ3 (0 : Int32) (0 : Int32) FU h15 ?_)
  refine j_iload_n C 1 d_F_most_57 rfl rfl rfl ?_
  cases h
  exact j_iret C E hr d_F_most_58
theorem ct_F_most (l : Launch) (D : va_G) (tys : List (ClassId × FieldType)) {ad : Nat → Nat} {cA : ClassId} {wr : va_W} (hT : tys[0]? = some (cA, .int)) (a2 : Int32) (σ : SP) {r : Int32} {σ' : SP} (h : m_F_most a2 σ = some (r, σ')) : jM l y_F_most ws_F_most rm_F_most D tys [.ref (ad 11), .ref (ad 2), .int a2] ((wP ad cA σ) ++ wr) (some (.int r)) ((wP ad cA σ') ++ wr) :=
  j_of (by decide +kernel) rfl (Nat.le_of_ble_eq_true rfl) rfl (fun x _ _ hT' hR C hr _ E => w_F_most C (by rw [hT']; exact hT) hR a2 σ hr E h)
def rm_Y_layLinks : Room := { frames := 1, cells := 0, slots := 0, locals := 21 }
def b_Y_layLinks_10 (c2 : Int32) (v3 : Int32) (σ : SP) : Option ((Int32 × SP) ⊕ (Int32 × SP)) :=
  (if (10 : Int32) ≤ v3 then some (.inr (v3, σ)) else (mb1 (m_P_pair c2 v3) fun r1 => (mrd 100 (g_lk σ) r1 fun r3 => (mb1 (m_P_pair c2 v3) fun r4 => (if r3 ≤ 0 then (mck 100 r4 (mlet (u_se σ (upd (g_se σ) r4.toNatClampNeg (1000000 : Int32))) fun σ6 => some (.inl ((v3 + 1), σ6)))) else (mck 100 r4 (mlet (u_se σ (upd (g_se σ) r4.toNatClampNeg r3)) fun σ7 => some (.inl ((v3 + 1), σ7)))))))))
def b_Y_layLinks_2 (v2 : Int32) (σ : SP) : Option ((Int32 × SP) ⊕ (Int32 × SP)) :=
  (if (10 : Int32) ≤ v2 then some (.inr (v2, σ)) else (mb2 (lp (fun s => b_Y_layLinks_10 v2 s.1 s.2) FU ((0 : Int32), σ)) fun w8 σ9 => (mb1 (m_P_pair v2 v2) fun r11 => (mck 100 r11 (mlet (u_se σ9 (upd (g_se σ9) r11.toNatClampNeg (0 : Int32))) fun σ13 => some (.inl ((v2 + 1), σ13)))))))
def m_Y_layLinks (σ : SP) : Option (SP) :=
  (mb2 (lp (fun s => b_Y_layLinks_2 s.1 s.2) FU ((0 : Int32), σ)) fun w14 σ15 => some σ15)
set_option maxHeartbeats 4000000 in
set_option maxRecDepth 100000 in
theorem wb_Y_layLinks_10 {x : JX} {ad : Nat → Nat} {cA : ClassId} {wr : va_W} (C : jC x cc_Y_layLinks 5 "PlainWarehouse$Ways") (hT : (jT x)[0]? = some (cA, .int)) (hR : jR x = rm_Y_layLinks)  (c2 : Int32) (σ : SP) (v3 : Int32) {o : (Int32 × SP) ⊕ (Int32 × SP)} (h : b_Y_layLinks_10 c2 v3 σ = some o) (kc : ∀ (u3 : Int32) (τ : SP), o = .inl (u3, τ) → jW x 5 0 0 10 [(0, .ref (ad 16)), (1, .ref (ad 2)), (2, .int c2), (3, .int u3)] [] ((wP ad cA τ) ++ wr)) (ke : ∀ (u3 : Int32) (τ : SP), o = .inr (u3, τ) → jW x 5 0 0 56 [(0, .ref (ad 16)), (1, .ref (ad 2)), (2, .int c2), (3, .int u3)] [] ((wP ad cA τ) ++ wr)) : jW x 5 0 0 10 [(0, .ref (ad 16)), (1, .ref (ad 2)), (2, .int c2), (3, .int v3)] [] ((wP ad cA σ) ++ wr) := by
  unfold b_Y_layLinks_10 at h
  refine j_iload_n C 3 d_Y_layLinks_10 rfl rfl rfl ?_
  refine j_bipush (v := 10) C d_Y_layLinks_11 rfl (by decide) ?_
  refine j_icmp_ge (tgt := 56) C d_Y_layLinks_13 (by decide) rfl h (fun h => ?_) (fun h => ?_)
  · cases h
    refine j_sub [0, 1, 2, 3] rfl (ke _ _ rfl)
  · refine j_aload_n C 1 d_Y_layLinks_16 rfl rfl rfl ?_
    refine j_getN C in_H 2 rfl rfl 7 (by decide) tw_92 rfl (v := .ref (ad 10)) rfl d_Y_layLinks_17 rfl ?_
    refine j_iload_n C 2 d_Y_layLinks_20 rfl rfl rfl ?_
    refine j_iload_n C 3 d_Y_layLinks_21 rfl rfl rfl ?_
    obtain ⟨r1, h2, h⟩ := mb1_some h
    refine j_callSN C hR (As := [.int c2, .int v3]) (ct_P_pair (jl x) (jD x) (jT x) c2 v3 h2) kf_P_pair (by decide) tw_474 tw_218 (rest := [.ref (ad 10)]) rfl rfl (Nat.le_of_ble_eq_true rfl) (by decide) ⟨rfl, rfl⟩ d_Y_layLinks_22 rfl (st1 := [.int r1, .ref (ad 10)]) rfl ?_
    refine j_iald C 10 0 rfl hT d_Y_layLinks_25 rfl h (fun r3 h => ?_)
    refine j_istore (lv' := [(4, .int r3), (0, .ref (ad 16)), (1, .ref (ad 2)), (2, .int c2), (3, .int v3)]) C d_Y_layLinks_26 rfl (by decide) rfl ?_
    refine j_aload_n C 1 d_Y_layLinks_28 rfl rfl rfl ?_
    refine j_get C in_Y 16 rfl rfl 0 (by decide) tw_139 rfl (v := .ref (ad 17)) rfl d_Y_layLinks_29 rfl ?_
    refine j_iload_n C 3 d_Y_layLinks_32 rfl rfl rfl ?_
    refine j_iload_n C 4 d_Y_layLinks_33 rfl rfl rfl ?_
    obtain ⟨r4, h5, h⟩ := mb1_some h
    refine j_callSN C hR (As := [.int c2, .int v3]) (ct_P_pair (jl x) (jD x) (jT x) c2 v3 h5) kf_P_pair (by decide) tw_474 tw_218 (rest := [.ref (ad 17)]) rfl rfl (Nat.le_of_ble_eq_true rfl) (by decide) ⟨rfl, rfl⟩ d_Y_layLinks_34 rfl (st1 := [.int r4, .ref (ad 17)]) rfl ?_
    refine j_iload C 0 d_Y_layLinks_37 rfl rfl ?_
    refine j_if_le (tgt := 47) C d_Y_layLinks_39 (by decide) rfl h (fun h => ?_) (fun h => ?_)
    · refine j_ldc (v := 1000000) C d_Y_layLinks_47 rfl tw_475 ?_
      refine j_iast C (fun t => (wP ad cA t) ++ wr) 17 0 rfl hT d_Y_layLinks_49 rfl h rfl (fun σ6 h => ?_)
      refine j_iinc (v' := (v3 + 1)) (lv' := [(3, .int (v3 + 1)), (4, .int r3), (0, .ref (ad 16)), (1, .ref (ad 2)), (2, .int c2)]) C 4 d_Y_layLinks_50 rfl rfl rfl (by decide) rfl ?_
      refine j_goto (tgt := 10) C d_Y_layLinks_53 (by decide) ?_
      cases h
      refine j_sub [2, 3, 4, 0] rfl (kc _ _ rfl)
    · refine j_iload C 0 d_Y_layLinks_42 rfl rfl ?_
      refine j_goto (tgt := 49) C d_Y_layLinks_44 (by decide) ?_
      refine j_iast C (fun t => (wP ad cA t) ++ wr) 17 0 rfl hT d_Y_layLinks_49 rfl h rfl (fun σ7 h => ?_)
      refine j_iinc (v' := (v3 + 1)) (lv' := [(3, .int (v3 + 1)), (4, .int r3), (0, .ref (ad 16)), (1, .ref (ad 2)), (2, .int c2)]) C 4 d_Y_layLinks_50 rfl rfl rfl (by decide) rfl ?_
      refine j_goto (tgt := 10) C d_Y_layLinks_53 (by decide) ?_
      cases h
      refine j_sub [2, 3, 4, 0] rfl (kc _ _ rfl)
set_option maxRecDepth 100000 in
theorem wl_Y_layLinks_10 {x : JX} {ad : Nat → Nat} {cA : ClassId} {wr : va_W} (C : jC x cc_Y_layLinks 5 "PlainWarehouse$Ways") (hT : (jT x)[0]? = some (cA, .int)) (hR : jR x = rm_Y_layLinks)  (c2 : Int32) (σ : SP) (v3 : Int32) {u3 : Int32} {τ : SP} (n : Nat) (h : lp (fun s => b_Y_layLinks_10 c2 s.1 s.2) n (v3, σ) = some (u3, τ)) (K : jW x 5 0 0 56 [(0, .ref (ad 16)), (1, .ref (ad 2)), (2, .int c2), (3, .int u3)] [] ((wP ad cA τ) ++ wr)) : jW x 5 0 0 10 [(0, .ref (ad 16)), (1, .ref (ad 2)), (2, .int c2), (3, .int v3)] [] ((wP ad cA σ) ++ wr) :=
  j_lp (Pr := fun s => jW x 5 0 0 10 [(0, .ref (ad 16)), (1, .ref (ad 2)), (2, .int c2), (3, .int s.1)] [] ((wP ad cA s.2) ++ wr)) (K := fun s => jW x 5 0 0 56 [(0, .ref (ad 16)), (1, .ref (ad 2)), (2, .int c2), (3, .int s.1)] [] ((wP ad cA s.2) ++ wr)) (fun s o h kc ke => wb_Y_layLinks_10 C hT hR c2 s.2 s.1 h (fun u3 τ e => kc _ e) (fun u3 τ e => ke _ e)) n _ _ h K
set_option maxHeartbeats 4000000 in
set_option maxRecDepth 100000 in
theorem wb_Y_layLinks_2 {x : JX} {ad : Nat → Nat} {cA : ClassId} {wr : va_W} (C : jC x cc_Y_layLinks 5 "PlainWarehouse$Ways") (hT : (jT x)[0]? = some (cA, .int)) (hR : jR x = rm_Y_layLinks)  (σ : SP) (v2 : Int32) {o : (Int32 × SP) ⊕ (Int32 × SP)} (h : b_Y_layLinks_2 v2 σ = some o) (kc : ∀ (u2 : Int32) (τ : SP), o = .inl (u2, τ) → jW x 5 0 0 2 [(0, .ref (ad 16)), (1, .ref (ad 2)), (2, .int u2)] [] ((wP ad cA τ) ++ wr)) (ke : ∀ (u2 : Int32) (τ : SP), o = .inr (u2, τ) → jW x 5 0 0 73 [(0, .ref (ad 16)), (1, .ref (ad 2)), (2, .int u2)] [] ((wP ad cA τ) ++ wr)) : jW x 5 0 0 2 [(0, .ref (ad 16)), (1, .ref (ad 2)), (2, .int v2)] [] ((wP ad cA σ) ++ wr) := by
  unfold b_Y_layLinks_2 at h
  refine j_iload_n C 2 d_Y_layLinks_2 rfl rfl rfl ?_
  refine j_bipush (v := 10) C d_Y_layLinks_3 rfl (by decide) ?_
  refine j_icmp_ge (tgt := 73) C d_Y_layLinks_5 (by decide) rfl h (fun h => ?_) (fun h => ?_)
  · cases h
    refine j_sub [0, 1, 2] rfl (ke _ _ rfl)
  · refine j_iconst (v := 0) C d_Y_layLinks_8 rfl (by decide) ?_
    refine j_istore_n (lv' := [(3, .int (0 : Int32)), (0, .ref (ad 16)), (1, .ref (ad 2)), (2, .int v2)]) C d_Y_layLinks_9 rfl rfl (by decide) rfl ?_
    obtain ⟨w8, σ9, h10, h⟩ := mb2_some h
    refine j_sub [1, 2, 3, 0] rfl (wl_Y_layLinks_10 C hT hR v2 σ (0 : Int32) FU h10 ?_)
    refine j_aload_n C 0 d_Y_layLinks_56 rfl rfl rfl ?_
    refine j_get C in_Y 16 rfl rfl 0 (by decide) tw_139 rfl (v := .ref (ad 17)) rfl d_Y_layLinks_57 rfl ?_
    refine j_iload_n C 2 d_Y_layLinks_60 rfl rfl rfl ?_
    refine j_iload_n C 2 d_Y_layLinks_61 rfl rfl rfl ?_
    obtain ⟨r11, h12, h⟩ := mb1_some h
    refine j_callSN C hR (As := [.int v2, .int v2]) (ct_P_pair (jl x) (jD x) (jT x) v2 v2 h12) kf_P_pair (by decide) tw_474 tw_218 (rest := [.ref (ad 17)]) rfl rfl (Nat.le_of_ble_eq_true rfl) (by decide) ⟨rfl, rfl⟩ d_Y_layLinks_62 rfl (st1 := [.int r11, .ref (ad 17)]) rfl ?_
    refine j_iconst (v := 0) C d_Y_layLinks_65 rfl (by decide) ?_
    refine j_iast C (fun t => (wP ad cA t) ++ wr) 17 0 rfl hT d_Y_layLinks_66 rfl h rfl (fun σ13 h => ?_)
    refine j_iinc (v' := (v2 + 1)) (lv' := [(2, .int (v2 + 1)), (0, .ref (ad 16)), (1, .ref (ad 2)), (3, .int w8)]) C 2 d_Y_layLinks_67 rfl rfl rfl (by decide) rfl ?_
    refine j_goto (tgt := 2) C d_Y_layLinks_70 (by decide) ?_
    cases h
    refine j_sub [1, 2, 0] rfl (kc _ _ rfl)
set_option maxRecDepth 100000 in
theorem wl_Y_layLinks_2 {x : JX} {ad : Nat → Nat} {cA : ClassId} {wr : va_W} (C : jC x cc_Y_layLinks 5 "PlainWarehouse$Ways") (hT : (jT x)[0]? = some (cA, .int)) (hR : jR x = rm_Y_layLinks)  (σ : SP) (v2 : Int32) {u2 : Int32} {τ : SP} (n : Nat) (h : lp (fun s => b_Y_layLinks_2 s.1 s.2) n (v2, σ) = some (u2, τ)) (K : jW x 5 0 0 73 [(0, .ref (ad 16)), (1, .ref (ad 2)), (2, .int u2)] [] ((wP ad cA τ) ++ wr)) : jW x 5 0 0 2 [(0, .ref (ad 16)), (1, .ref (ad 2)), (2, .int v2)] [] ((wP ad cA σ) ++ wr) :=
  j_lp (Pr := fun s => jW x 5 0 0 2 [(0, .ref (ad 16)), (1, .ref (ad 2)), (2, .int s.1)] [] ((wP ad cA s.2) ++ wr)) (K := fun s => jW x 5 0 0 73 [(0, .ref (ad 16)), (1, .ref (ad 2)), (2, .int s.1)] [] ((wP ad cA s.2) ++ wr)) (fun s o h kc ke => wb_Y_layLinks_2 C hT hR  s.2 s.1 h (fun u2 τ e => kc _ e) (fun u2 τ e => ke _ e)) n _ _ h K
set_option maxHeartbeats 4000000 in
set_option maxRecDepth 100000 in
theorem w_Y_layLinks {x : JX} {ad : Nat → Nat} {cA : ClassId} {wr : va_W} (C : jC x cc_Y_layLinks 5 "PlainWarehouse$Ways") (hT : (jT x)[0]? = some (cA, .int)) (hR : jR x = rm_Y_layLinks)  (σ : SP) {σ' : SP} (hr : (jt x).sig.returnType = none) (E : jE x 0 0 none ((wP ad cA σ') ++ wr)) (h : m_Y_layLinks σ = some σ') : jW x 5 0 0 0 [(0, .ref (ad 16)), (1, .ref (ad 2))] [] ((wP ad cA σ) ++ wr) := by
  unfold m_Y_layLinks at h
  refine j_iconst (v := 0) C d_Y_layLinks_0 rfl (by decide) ?_
  refine j_istore_n (lv' := [(2, .int (0 : Int32)), (0, .ref (ad 16)), (1, .ref (ad 2))]) C d_Y_layLinks_1 rfl rfl (by decide) rfl ?_
  obtain ⟨w14, σ15, h16, h⟩ := mb2_some h
  refine j_sub [1, 2, 0] rfl (wl_Y_layLinks_2 C hT hR  σ (0 : Int32) FU h16 ?_)
  cases h
  exact j_vret C E hr d_Y_layLinks_73
theorem ct_Y_layLinks (l : Launch) (D : va_G) (tys : List (ClassId × FieldType)) {ad : Nat → Nat} {cA : ClassId} {wr : va_W} (hT : tys[0]? = some (cA, .int)) (σ : SP) {σ' : SP} (h : m_Y_layLinks σ = some σ') : jM l y_Y_layLinks ws_Y_layLinks rm_Y_layLinks D tys [.ref (ad 16), .ref (ad 2)] ((wP ad cA σ) ++ wr) none ((wP ad cA σ') ++ wr) :=
  j_of (by decide +kernel) rfl (Nat.le_of_ble_eq_true rfl) rfl (fun x _ _ hT' hR C hr _ E => w_Y_layLinks C (by rw [hT']; exact hT) hR σ hr E h)
def rm_Y_shortenVia : Room := { frames := 1, cells := 0, slots := 0, locals := 21 }
def b_Y_shortenVia_21 (c1 : Int32) (c2 : Int32) (c3 : Int32) (v4 : Int32) (σ : SP) : Option ((Int32 × SP) ⊕ (Int32 × SP)) :=
  (if (10 : Int32) ≤ v4 then some (.inr (v4, σ)) else (mb1 (m_P_pair c1 v4) fun r4 => (mrd 100 (g_se σ) r4 fun r6 => (mb1 (m_P_pair c2 v4) fun r7 => (mb1 (m_P_pair c2 v4) fun r9 => (mrd 100 (g_se σ) r9 fun r11 => (mlet (if (c3 + r6) < r11 then (c3 + r6) else r11) fun r12 => (mck 100 r7 (mlet (u_se σ (upd (g_se σ) r7.toNatClampNeg r12)) fun σ13 => some (.inl ((v4 + 1), σ13)))))))))))
def m_Y_shortenVia (a1 : Int32) (a2 : Int32) (σ : SP) : Option (SP) :=
  (mb1 (m_P_pair a2 a1) fun r1 => (mrd 100 (g_se σ) r1 fun r3 => (if r3 < (1000000 : Int32) then (mb2 (lp (fun s => b_Y_shortenVia_21 a1 a2 r3 s.1 s.2) FU ((0 : Int32), σ)) fun w14 σ15 => some σ15) else some σ)))
set_option maxHeartbeats 4000000 in
set_option maxRecDepth 100000 in
theorem wb_Y_shortenVia_21 {x : JX} {ad : Nat → Nat} {cA : ClassId} {wr : va_W} (C : jC x cc_Y_shortenVia 6 "PlainWarehouse$Ways") (hT : (jT x)[0]? = some (cA, .int)) (hR : jR x = rm_Y_shortenVia)  (c1 : Int32) (c2 : Int32) (c3 : Int32) (σ : SP) (v4 : Int32) {o : (Int32 × SP) ⊕ (Int32 × SP)} (h : b_Y_shortenVia_21 c1 c2 c3 v4 σ = some o) (kc : ∀ (u4 : Int32) (τ : SP), o = .inl (u4, τ) → jW x 6 0 0 21 [(0, .ref (ad 16)), (1, .int c1), (2, .int c2), (3, .int c3), (4, .int u4)] [] ((wP ad cA τ) ++ wr)) (ke : ∀ (u4 : Int32) (τ : SP), o = .inr (u4, τ) → jW x 6 0 0 76 [(0, .ref (ad 16)), (1, .int c1), (2, .int c2), (3, .int c3), (4, .int u4)] [] ((wP ad cA τ) ++ wr)) : jW x 6 0 0 21 [(0, .ref (ad 16)), (1, .int c1), (2, .int c2), (3, .int c3), (4, .int v4)] [] ((wP ad cA σ) ++ wr) := by
  unfold b_Y_shortenVia_21 at h
  refine j_iload C 4 d_Y_shortenVia_21 rfl rfl ?_
  refine j_bipush (v := 10) C d_Y_shortenVia_23 rfl (by decide) ?_
  refine j_icmp_ge (tgt := 76) C d_Y_shortenVia_25 (by decide) rfl h (fun h => ?_) (fun h => ?_)
  · cases h
    refine j_sub [0, 1, 2, 3, 4] rfl (ke _ _ rfl)
  · refine j_iload_n C 3 d_Y_shortenVia_28 rfl rfl rfl ?_
    refine j_aload_n C 0 d_Y_shortenVia_29 rfl rfl rfl ?_
    refine j_get C in_Y 16 rfl rfl 0 (by decide) tw_139 rfl (v := .ref (ad 17)) rfl d_Y_shortenVia_30 rfl ?_
    refine j_iload_n C 1 d_Y_shortenVia_33 rfl rfl rfl ?_
    refine j_iload C 4 d_Y_shortenVia_34 rfl rfl ?_
    obtain ⟨r4, h5, h⟩ := mb1_some h
    refine j_callSN C hR (As := [.int c1, .int v4]) (ct_P_pair (jl x) (jD x) (jT x) c1 v4 h5) kf_P_pair (by decide) tw_474 tw_218 (rest := [.ref (ad 17), .int c3]) rfl rfl (Nat.le_of_ble_eq_true rfl) (by decide) ⟨rfl, rfl⟩ d_Y_shortenVia_36 rfl (st1 := [.int r4, .ref (ad 17), .int c3]) rfl ?_
    refine j_iald C 17 0 rfl hT d_Y_shortenVia_39 rfl h (fun r6 h => ?_)
    refine j_iadd C d_Y_shortenVia_40 rfl ?_
    refine j_istore (lv' := [(5, .int (c3 + r6)), (0, .ref (ad 16)), (1, .int c1), (2, .int c2), (3, .int c3), (4, .int v4)]) C d_Y_shortenVia_41 rfl (by decide) rfl ?_
    refine j_aload_n C 1 d_Y_shortenVia_43 rfl rfl rfl ?_
    refine j_get C in_Y 16 rfl rfl 0 (by decide) tw_139 rfl (v := .ref (ad 17)) rfl d_Y_shortenVia_44 rfl ?_
    refine j_iload_n C 3 d_Y_shortenVia_47 rfl rfl rfl ?_
    refine j_iload C 5 d_Y_shortenVia_48 rfl rfl ?_
    obtain ⟨r7, h8, h⟩ := mb1_some h
    refine j_callSN C hR (As := [.int c2, .int v4]) (ct_P_pair (jl x) (jD x) (jT x) c2 v4 h8) kf_P_pair (by decide) tw_474 tw_218 (rest := [.ref (ad 17)]) rfl rfl (Nat.le_of_ble_eq_true rfl) (by decide) ⟨rfl, rfl⟩ d_Y_shortenVia_50 rfl (st1 := [.int r7, .ref (ad 17)]) rfl ?_
    refine j_aload_n C 1 d_Y_shortenVia_53 rfl rfl rfl ?_
    refine j_get C in_Y 16 rfl rfl 0 (by decide) tw_139 rfl (v := .ref (ad 17)) rfl d_Y_shortenVia_54 rfl ?_
    refine j_iload_n C 3 d_Y_shortenVia_57 rfl rfl rfl ?_
    refine j_iload C 5 d_Y_shortenVia_58 rfl rfl ?_
    obtain ⟨r9, h10, h⟩ := mb1_some h
    refine j_callSN C hR (As := [.int c2, .int v4]) (ct_P_pair (jl x) (jD x) (jT x) c2 v4 h10) kf_P_pair (by decide) tw_474 tw_218 (rest := [.ref (ad 17), .int r7, .ref (ad 17)]) rfl rfl (Nat.le_of_ble_eq_true rfl) (by decide) ⟨rfl, rfl⟩ d_Y_shortenVia_60 rfl (st1 := [.int r9, .ref (ad 17), .int r7, .ref (ad 17)]) rfl ?_
    refine j_iald C 17 0 rfl hT d_Y_shortenVia_63 rfl h (fun r11 h => ?_)
    refine j_iload C 0 d_Y_shortenVia_64 rfl rfl ?_
    refine j_mmin C hR tw_480 tw_481 tw_61 tw_482 (by first | decide | exact Nat.le_of_ble_eq_true rfl) (by first | decide | exact Nat.le_of_ble_eq_true rfl) (by first | decide | exact Nat.le_of_ble_eq_true rfl) (by first | decide | exact Nat.le_of_ble_eq_true rfl) d_Y_shortenVia_66 rfl h (fun r12 h => ?_)
    refine j_iast C (fun t => (wP ad cA t) ++ wr) 17 0 rfl hT d_Y_shortenVia_69 rfl h rfl (fun σ13 h => ?_)
    refine j_iinc (v' := (v4 + 1)) (lv' := [(4, .int (v4 + 1)), (5, .int (c3 + r6)), (0, .ref (ad 16)), (1, .int c1), (2, .int c2), (3, .int c3)]) C 5 d_Y_shortenVia_70 rfl rfl rfl (by decide) rfl ?_
    refine j_goto (tgt := 21) C d_Y_shortenVia_73 (by decide) ?_
    cases h
    refine j_sub [2, 3, 4, 5, 0] rfl (kc _ _ rfl)
set_option maxRecDepth 100000 in
theorem wl_Y_shortenVia_21 {x : JX} {ad : Nat → Nat} {cA : ClassId} {wr : va_W} (C : jC x cc_Y_shortenVia 6 "PlainWarehouse$Ways") (hT : (jT x)[0]? = some (cA, .int)) (hR : jR x = rm_Y_shortenVia)  (c1 : Int32) (c2 : Int32) (c3 : Int32) (σ : SP) (v4 : Int32) {u4 : Int32} {τ : SP} (n : Nat) (h : lp (fun s => b_Y_shortenVia_21 c1 c2 c3 s.1 s.2) n (v4, σ) = some (u4, τ)) (K : jW x 6 0 0 76 [(0, .ref (ad 16)), (1, .int c1), (2, .int c2), (3, .int c3), (4, .int u4)] [] ((wP ad cA τ) ++ wr)) : jW x 6 0 0 21 [(0, .ref (ad 16)), (1, .int c1), (2, .int c2), (3, .int c3), (4, .int v4)] [] ((wP ad cA σ) ++ wr) :=
  j_lp (Pr := fun s => jW x 6 0 0 21 [(0, .ref (ad 16)), (1, .int c1), (2, .int c2), (3, .int c3), (4, .int s.1)] [] ((wP ad cA s.2) ++ wr)) (K := fun s => jW x 6 0 0 76 [(0, .ref (ad 16)), (1, .int c1), (2, .int c2), (3, .int c3), (4, .int s.1)] [] ((wP ad cA s.2) ++ wr)) (fun s o h kc ke => wb_Y_shortenVia_21 C hT hR c1 c2 c3 s.2 s.1 h (fun u4 τ e => kc _ e) (fun u4 τ e => ke _ e)) n _ _ h K
set_option maxHeartbeats 4000000 in
set_option maxRecDepth 100000 in
theorem w_Y_shortenVia {x : JX} {ad : Nat → Nat} {cA : ClassId} {wr : va_W} (C : jC x cc_Y_shortenVia 6 "PlainWarehouse$Ways") (hT : (jT x)[0]? = some (cA, .int)) (hR : jR x = rm_Y_shortenVia)  (a1 : Int32) (a2 : Int32) (σ : SP) {σ' : SP} (hr : (jt x).sig.returnType = none) (E : jE x 0 0 none ((wP ad cA σ') ++ wr)) (h : m_Y_shortenVia a1 a2 σ = some σ') : jW x 6 0 0 0 [(0, .ref (ad 16)), (1, .int a1), (2, .int a2)] [] ((wP ad cA σ) ++ wr) := by
  unfold m_Y_shortenVia at h
  refine j_aload_n C 0 d_Y_shortenVia_0 rfl rfl rfl ?_
  refine j_get C in_Y 16 rfl rfl 0 (by decide) tw_139 rfl (v := .ref (ad 17)) rfl d_Y_shortenVia_1 rfl ?_
  refine j_iload_n C 2 d_Y_shortenVia_4 rfl rfl rfl ?_
  refine j_iload_n C 1 d_Y_shortenVia_5 rfl rfl rfl ?_
  obtain ⟨r1, h2, h⟩ := mb1_some h
  refine j_callSN C hR (As := [.int a2, .int a1]) (ct_P_pair (jl x) (jD x) (jT x) a2 a1 h2) kf_P_pair (by decide) tw_474 tw_218 (rest := [.ref (ad 17)]) rfl rfl (Nat.le_of_ble_eq_true rfl) (by decide) ⟨rfl, rfl⟩ d_Y_shortenVia_6 rfl (st1 := [.int r1, .ref (ad 17)]) rfl ?_
  refine j_iald C 17 0 rfl hT d_Y_shortenVia_9 rfl h (fun r3 h => ?_)
  refine j_istore_n (lv' := [(3, .int r3), (0, .ref (ad 16)), (1, .int a1), (2, .int a2)]) C d_Y_shortenVia_10 rfl rfl (by decide) rfl ?_
  refine j_iload_n C 0 d_Y_shortenVia_11 rfl rfl rfl ?_
  refine j_ldc (v := 1000000) C d_Y_shortenVia_12 rfl tw_475 ?_
  refine j_icmp_lt (tgt := 18) C d_Y_shortenVia_14 (by decide) rfl h (fun h => ?_) (fun h => ?_)
  · refine j_iconst (v := 0) C d_Y_shortenVia_18 rfl (by decide) ?_
    refine j_istore (lv' := [(4, .int (0 : Int32)), (3, .int r3), (0, .ref (ad 16)), (1, .int a1), (2, .int a2)]) C d_Y_shortenVia_19 rfl (by decide) rfl ?_
    obtain ⟨w14, σ15, h16, h⟩ := mb2_some h
    refine j_sub [2, 3, 4, 1, 0] rfl (wl_Y_shortenVia_21 C hT hR a1 a2 r3 σ (0 : Int32) FU h16 ?_)
    cases h
    exact j_vret C E hr d_Y_shortenVia_76
  · cases h
    exact j_vret C E hr d_Y_shortenVia_17
theorem ct_Y_shortenVia (l : Launch) (D : va_G) (tys : List (ClassId × FieldType)) {ad : Nat → Nat} {cA : ClassId} {wr : va_W} (hT : tys[0]? = some (cA, .int)) (a1 : Int32) (a2 : Int32) (σ : SP) {σ' : SP} (h : m_Y_shortenVia a1 a2 σ = some σ') : jM l y_Y_shortenVia ws_Y_shortenVia rm_Y_shortenVia D tys [.ref (ad 16), .int a1, .int a2] ((wP ad cA σ) ++ wr) none ((wP ad cA σ') ++ wr) :=
  j_of (by decide +kernel) rfl (Nat.le_of_ble_eq_true rfl) rfl (fun x _ _ hT' hR C hr _ E => w_Y_shortenVia C (by rw [hT']; exact hT) hR a1 a2 σ hr E h)
def rm_Y_measure : Room := { frames := 2, cells := 0, slots := 0, locals := 46 }
def b_Y_measure_15 (c2 : Int32) (v3 : Int32) (σ : SP) : Option ((Int32 × SP) ⊕ (Int32 × SP)) :=
  (if (10 : Int32) ≤ v3 then some (.inr (v3, σ)) else (mb1 (m_Y_shortenVia c2 v3 σ) fun σ3 => some (.inl ((v3 + 1), σ3))))
def b_Y_measure_7 (v2 : Int32) (σ : SP) : Option ((Int32 × SP) ⊕ (Int32 × SP)) :=
  (if (10 : Int32) ≤ v2 then some (.inr (v2, σ)) else (mb2 (lp (fun s => b_Y_measure_15 v2 s.1 s.2) FU ((0 : Int32), σ)) fun w5 σ6 => some (.inl ((v2 + 1), σ6))))
def m_Y_measure (σ : SP) : Option (SP) :=
  (mb1 (m_Y_layLinks σ) fun σ1 => (mb2 (lp (fun s => b_Y_measure_7 s.1 s.2) FU ((0 : Int32), σ1)) fun w8 σ9 => some σ9))
set_option maxHeartbeats 4000000 in
set_option maxRecDepth 100000 in
theorem wb_Y_measure_15 {x : JX} {ad : Nat → Nat} {cA : ClassId} {wr : va_W} (C : jC x cc_Y_measure 4 "PlainWarehouse$Ways") (hT : (jT x)[0]? = some (cA, .int)) (hR : jR x = rm_Y_measure)  (c2 : Int32) (σ : SP) (v3 : Int32) {o : (Int32 × SP) ⊕ (Int32 × SP)} (h : b_Y_measure_15 c2 v3 σ = some o) (kc : ∀ (u3 : Int32) (τ : SP), o = .inl (u3, τ) → jW x 4 0 0 15 [(0, .ref (ad 16)), (2, .int c2), (3, .int u3)] [] ((wP ad cA τ) ++ wr)) (ke : ∀ (u3 : Int32) (τ : SP), o = .inr (u3, τ) → jW x 4 0 0 33 [(0, .ref (ad 16)), (2, .int c2), (3, .int u3)] [] ((wP ad cA τ) ++ wr)) : jW x 4 0 0 15 [(0, .ref (ad 16)), (2, .int c2), (3, .int v3)] [] ((wP ad cA σ) ++ wr) := by
  unfold b_Y_measure_15 at h
  refine j_iload_n C 2 d_Y_measure_15 rfl rfl rfl ?_
  refine j_bipush (v := 10) C d_Y_measure_16 rfl (by decide) ?_
  refine j_icmp_ge (tgt := 33) C d_Y_measure_18 (by decide) rfl h (fun h => ?_) (fun h => ?_)
  · cases h
    refine j_sub [0, 1, 2] rfl (ke _ _ rfl)
  · refine j_aload_n C 0 d_Y_measure_21 rfl rfl rfl ?_
    refine j_iload_n C 1 d_Y_measure_22 rfl rfl rfl ?_
    refine j_iload_n C 2 d_Y_measure_23 rfl rfl rfl ?_
    obtain ⟨σ3, h4, h⟩ := mb1_some h
    refine j_callV C hR (As := [.int c2, .int v3]) (ct_Y_shortenVia (jl x) (jD x) (jT x) hT c2 v3 σ h4) kf_Y_shortenVia (by decide) tw_476 tw_478 tw_28 16 rfl rfl (rest := []) rfl rfl (Nat.le_of_ble_eq_true rfl) (by decide) ⟨rfl, rfl⟩ d_Y_measure_24 rfl (st1 := []) rfl ?_
    refine j_iinc (v' := (v3 + 1)) (lv' := [(3, .int (v3 + 1)), (0, .ref (ad 16)), (2, .int c2)]) C 2 d_Y_measure_27 rfl rfl rfl (by decide) rfl ?_
    refine j_goto (tgt := 15) C d_Y_measure_30 (by decide) ?_
    cases h
    refine j_sub [1, 2, 0] rfl (kc _ _ rfl)
set_option maxRecDepth 100000 in
theorem wl_Y_measure_15 {x : JX} {ad : Nat → Nat} {cA : ClassId} {wr : va_W} (C : jC x cc_Y_measure 4 "PlainWarehouse$Ways") (hT : (jT x)[0]? = some (cA, .int)) (hR : jR x = rm_Y_measure)  (c2 : Int32) (σ : SP) (v3 : Int32) {u3 : Int32} {τ : SP} (n : Nat) (h : lp (fun s => b_Y_measure_15 c2 s.1 s.2) n (v3, σ) = some (u3, τ)) (K : jW x 4 0 0 33 [(0, .ref (ad 16)), (2, .int c2), (3, .int u3)] [] ((wP ad cA τ) ++ wr)) : jW x 4 0 0 15 [(0, .ref (ad 16)), (2, .int c2), (3, .int v3)] [] ((wP ad cA σ) ++ wr) :=
  j_lp (Pr := fun s => jW x 4 0 0 15 [(0, .ref (ad 16)), (2, .int c2), (3, .int s.1)] [] ((wP ad cA s.2) ++ wr)) (K := fun s => jW x 4 0 0 33 [(0, .ref (ad 16)), (2, .int c2), (3, .int s.1)] [] ((wP ad cA s.2) ++ wr)) (fun s o h kc ke => wb_Y_measure_15 C hT hR c2 s.2 s.1 h (fun u3 τ e => kc _ e) (fun u3 τ e => ke _ e)) n _ _ h K
set_option maxHeartbeats 4000000 in
set_option maxRecDepth 100000 in
theorem wb_Y_measure_7 {x : JX} {ad : Nat → Nat} {cA : ClassId} {wr : va_W} (C : jC x cc_Y_measure 4 "PlainWarehouse$Ways") (hT : (jT x)[0]? = some (cA, .int)) (hR : jR x = rm_Y_measure)  (σ : SP) (v2 : Int32) {o : (Int32 × SP) ⊕ (Int32 × SP)} (h : b_Y_measure_7 v2 σ = some o) (kc : ∀ (u2 : Int32) (τ : SP), o = .inl (u2, τ) → jW x 4 0 0 7 [(0, .ref (ad 16)), (2, .int u2)] [] ((wP ad cA τ) ++ wr)) (ke : ∀ (u2 : Int32) (τ : SP), o = .inr (u2, τ) → jW x 4 0 0 39 [(0, .ref (ad 16)), (2, .int u2)] [] ((wP ad cA τ) ++ wr)) : jW x 4 0 0 7 [(0, .ref (ad 16)), (2, .int v2)] [] ((wP ad cA σ) ++ wr) := by
  unfold b_Y_measure_7 at h
  refine j_iload_n C 1 d_Y_measure_7 rfl rfl rfl ?_
  refine j_bipush (v := 10) C d_Y_measure_8 rfl (by decide) ?_
  refine j_icmp_ge (tgt := 39) C d_Y_measure_10 (by decide) rfl h (fun h => ?_) (fun h => ?_)
  · cases h
    refine j_sub [0, 1] rfl (ke _ _ rfl)
  · refine j_iconst (v := 0) C d_Y_measure_13 rfl (by decide) ?_
    refine j_istore_n (lv' := [(3, .int (0 : Int32)), (0, .ref (ad 16)), (2, .int v2)]) C d_Y_measure_14 rfl rfl (by decide) rfl ?_
    obtain ⟨w5, σ6, h7, h⟩ := mb2_some h
    refine j_sub [1, 2, 0] rfl (wl_Y_measure_15 C hT hR v2 σ (0 : Int32) FU h7 ?_)
    refine j_iinc (v' := (v2 + 1)) (lv' := [(2, .int (v2 + 1)), (0, .ref (ad 16)), (3, .int w5)]) C 1 d_Y_measure_33 rfl rfl rfl (by decide) rfl ?_
    refine j_goto (tgt := 7) C d_Y_measure_36 (by decide) ?_
    cases h
    refine j_sub [1, 0] rfl (kc _ _ rfl)
set_option maxRecDepth 100000 in
theorem wl_Y_measure_7 {x : JX} {ad : Nat → Nat} {cA : ClassId} {wr : va_W} (C : jC x cc_Y_measure 4 "PlainWarehouse$Ways") (hT : (jT x)[0]? = some (cA, .int)) (hR : jR x = rm_Y_measure)  (σ : SP) (v2 : Int32) {u2 : Int32} {τ : SP} (n : Nat) (h : lp (fun s => b_Y_measure_7 s.1 s.2) n (v2, σ) = some (u2, τ)) (K : jW x 4 0 0 39 [(0, .ref (ad 16)), (2, .int u2)] [] ((wP ad cA τ) ++ wr)) : jW x 4 0 0 7 [(0, .ref (ad 16)), (2, .int v2)] [] ((wP ad cA σ) ++ wr) :=
  j_lp (Pr := fun s => jW x 4 0 0 7 [(0, .ref (ad 16)), (2, .int s.1)] [] ((wP ad cA s.2) ++ wr)) (K := fun s => jW x 4 0 0 39 [(0, .ref (ad 16)), (2, .int s.1)] [] ((wP ad cA s.2) ++ wr)) (fun s o h kc ke => wb_Y_measure_7 C hT hR  s.2 s.1 h (fun u2 τ e => kc _ e) (fun u2 τ e => ke _ e)) n _ _ h K
set_option maxHeartbeats 4000000 in
set_option maxRecDepth 100000 in
theorem w_Y_measure {x : JX} {ad : Nat → Nat} {cA : ClassId} {wr : va_W} (C : jC x cc_Y_measure 4 "PlainWarehouse$Ways") (hT : (jT x)[0]? = some (cA, .int)) (hR : jR x = rm_Y_measure)  (σ : SP) {σ' : SP} (hr : (jt x).sig.returnType = none) (E : jE x 0 0 none ((wP ad cA σ') ++ wr)) (h : m_Y_measure σ = some σ') : jW x 4 0 0 0 [(0, .ref (ad 16)), (1, .ref (ad 2))] [] ((wP ad cA σ) ++ wr) := by
  unfold m_Y_measure at h
  refine j_aload_n C 0 d_Y_measure_0 rfl rfl rfl ?_
  refine j_aload_n C 1 d_Y_measure_1 rfl rfl rfl ?_
  obtain ⟨σ1, h2, h⟩ := mb1_some h
  refine j_callV C hR (As := [.ref (ad 2)]) (ct_Y_layLinks (jl x) (jD x) (jT x) hT  σ h2) kf_Y_layLinks (by decide) tw_470 tw_472 tw_27 16 rfl rfl (rest := []) rfl rfl (Nat.le_of_ble_eq_true rfl) (by decide) ⟨rfl, rfl⟩ d_Y_measure_2 rfl (st1 := []) rfl ?_
  refine j_iconst (v := 0) C d_Y_measure_5 rfl (by decide) ?_
  refine j_istore_n (lv' := [(2, .int (0 : Int32)), (0, .ref (ad 16)), (1, .ref (ad 2))]) C d_Y_measure_6 rfl rfl (by decide) rfl ?_
  obtain ⟨w8, σ9, h10, h⟩ := mb2_some h
  refine j_sub [1, 0] rfl (wl_Y_measure_7 C hT hR  σ1 (0 : Int32) FU h10 ?_)
  cases h
  exact j_vret C E hr d_Y_measure_39
theorem ct_Y_measure (l : Launch) (D : va_G) (tys : List (ClassId × FieldType)) {ad : Nat → Nat} {cA : ClassId} {wr : va_W} (hT : tys[0]? = some (cA, .int)) (σ : SP) {σ' : SP} (h : m_Y_measure σ = some σ') : jM l y_Y_measure ws_Y_measure rm_Y_measure D tys [.ref (ad 16), .ref (ad 2)] ((wP ad cA σ) ++ wr) none ((wP ad cA σ') ++ wr) :=
  j_of (by decide +kernel) rfl (Nat.le_of_ble_eq_true rfl) rfl (fun x _ _ hT' hR C hr _ E => w_Y_measure C (by rw [hT']; exact hT) hR σ hr E h)
def rm_Y_between : Room := { frames := 1, cells := 0, slots := 0, locals := 21 }
def m_Y_between (a1 : Int32) (a2 : Int32) (σ : SP) : Option (Int32) :=
  (mb1 (m_P_pair a1 a2) fun r1 => (mrd 100 (g_se σ) r1 fun r3 => some r3))
set_option maxHeartbeats 4000000 in
set_option maxRecDepth 100000 in
theorem w_Y_between {x : JX} {ad : Nat → Nat} {cA : ClassId} {wr : va_W} (C : jC x cc_Y_between 3 "PlainWarehouse$Ways") (hT : (jT x)[0]? = some (cA, .int)) (hR : jR x = rm_Y_between)  (a1 : Int32) (a2 : Int32) (σ : SP) {r : Int32} (hr : (jt x).sig.returnType = some .int) (E : jE x 0 0 (some (.int r)) ((wP ad cA σ) ++ wr)) (h : m_Y_between a1 a2 σ = some r) : jW x 3 0 0 0 [(0, .ref (ad 16)), (1, .int a1), (2, .int a2)] [] ((wP ad cA σ) ++ wr) := by
  unfold m_Y_between at h
  refine j_aload_n C 0 d_Y_between_0 rfl rfl rfl ?_
  refine j_get C in_Y 16 rfl rfl 0 (by decide) tw_139 rfl (v := .ref (ad 17)) rfl d_Y_between_1 rfl ?_
  refine j_iload_n C 1 d_Y_between_4 rfl rfl rfl ?_
  refine j_iload_n C 2 d_Y_between_5 rfl rfl rfl ?_
  obtain ⟨r1, h2, h⟩ := mb1_some h
  refine j_callSN C hR (As := [.int a1, .int a2]) (ct_P_pair (jl x) (jD x) (jT x) a1 a2 h2) kf_P_pair (by decide) tw_474 tw_218 (rest := [.ref (ad 17)]) rfl rfl (Nat.le_of_ble_eq_true rfl) (by decide) ⟨rfl, rfl⟩ d_Y_between_6 rfl (st1 := [.int r1, .ref (ad 17)]) rfl ?_
  refine j_iald C 17 0 rfl hT d_Y_between_9 rfl h (fun r3 h => ?_)
  cases h
  exact j_iret C E hr d_Y_between_10
theorem ct_Y_between (l : Launch) (D : va_G) (tys : List (ClassId × FieldType)) {ad : Nat → Nat} {cA : ClassId} {wr : va_W} (hT : tys[0]? = some (cA, .int)) (a1 : Int32) (a2 : Int32) (σ : SP) {r : Int32} (h : m_Y_between a1 a2 σ = some r) : jM l y_Y_between ws_Y_between rm_Y_between D tys [.ref (ad 16), .int a1, .int a2] ((wP ad cA σ) ++ wr) (some (.int r)) ((wP ad cA σ) ++ wr) :=
  j_of (by decide +kernel) rfl (Nat.le_of_ble_eq_true rfl) rfl (fun x _ _ hT' hR C hr _ E => w_Y_between C (by rw [hT']; exact hT) hR a1 a2 σ hr E h)
