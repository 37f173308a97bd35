set_option maxRecDepth 100000 in
theorem tw_34 : Cond.selects "PlainWarehouseModel" (⟨"PlainWarehouseModel", "mayGo", "(II)Z"⟩ : MethodName) (⟨"PlainWarehouseModel", "mayGo", "(II)Z"⟩ : MethodName) ∈ WS := ws_in 34 rfl rfl
set_option maxRecDepth 100000 in
theorem tw_35 : Cond.selects "PlainWarehouseModel" (⟨"PlainWarehouseModel", "isOpen", "(II)Z"⟩ : MethodName) (⟨"PlainWarehouseModel", "isOpen", "(II)Z"⟩ : MethodName) ∈ WS := ws_in 35 rfl rfl
set_option maxRecDepth 100000 in
theorem tw_36 : Cond.selects "PlainWarehouseModel" (⟨"PlainWarehouseModel", "mayGive", "(III)Z"⟩ : MethodName) (⟨"PlainWarehouseModel", "mayGive", "(III)Z"⟩ : MethodName) ∈ WS := ws_in 36 rfl rfl
set_option maxRecDepth 100000 in
theorem tw_575 : Cond.fieldLink "PlainWarehouseModel" (55 : Nat) "PlainWarehouseModel" "code" "I" ∈ WS := ws_in 575 rfl rfl
set_option maxRecDepth 100000 in
theorem tw_576 : Cond.fieldLink "PlainWarehouseModel" (63 : Nat) "PlainWarehouseModel" "events" "I" ∈ WS := ws_in 576 rfl rfl
set_option maxRecDepth 100000 in
theorem tw_582 : Cond.fieldLink "PlainWarehouseModel" (22 : Nat) "PlainWarehouseModel" "place" "[I" ∈ WS := ws_in 582 rfl rfl
set_option maxRecDepth 100000 in
theorem tw_583 : Cond.fieldLink "PlainWarehouseModel" (25 : Nat) "PlainWarehouseModel" "good" "[I" ∈ WS := ws_in 583 rfl rfl
set_option maxRecDepth 100000 in
theorem tw_584 : Cond.fieldLink "PlainWarehouseModel" (28 : Nat) "PlainWarehouseModel" "given" "[I" ∈ WS := ws_in 584 rfl rfl
set_option maxRecDepth 100000 in
theorem tw_585 : Cond.fieldLink "PlainWarehouseModel" (31 : Nat) "PlainWarehouseModel" "wants" "[I" ∈ WS := ws_in 585 rfl rfl
set_option maxRecDepth 100000 in
theorem tw_586 : Cond.fieldLink "PlainWarehouseModel" (34 : Nat) "PlainWarehouseModel" "ofGood" "[I" ∈ WS := ws_in 586 rfl rfl
set_option maxRecDepth 100000 in
theorem tw_587 : Cond.fieldLink "PlainWarehouseModel" (37 : Nat) "PlainWarehouseModel" "got" "[I" ∈ WS := ws_in 587 rfl rfl
set_option maxRecDepth 100000 in
theorem tw_641 : Cond.methodLink "PlainWarehouseModel" (66 : Nat) ({ cls := "PlainWarehouseModel", name := "isUnit", desc := "(I)Z" } : MethodName) ∈ WS := ws_in 641 rfl rfl
set_option maxRecDepth 100000 in
theorem tw_642 : Cond.static ({ cls := "PlainWarehouseModel", name := "isUnit", desc := "(I)Z" } : MethodName) ∈ WS := ws_in 642 rfl rfl
set_option maxRecDepth 100000 in
theorem tw_644 : Cond.methodLink "PlainWarehouseModel" (59 : Nat) ({ cls := "PlainWarehouseModel", name := "in", desc := "(III)Z" } : MethodName) ∈ WS := ws_in 644 rfl rfl
set_option maxRecDepth 100000 in
theorem tw_645 : Cond.static ({ cls := "PlainWarehouseModel", name := "in", desc := "(III)Z" } : MethodName) ∈ WS := ws_in 645 rfl rfl
set_option maxRecDepth 100000 in
theorem tw_647 : Cond.methodLink "PlainWarehouseModel" (70 : Nat) ({ cls := "PlainWarehouseModel", name := "isPlace", desc := "(I)Z" } : MethodName) ∈ WS := ws_in 647 rfl rfl
set_option maxRecDepth 100000 in
theorem tw_648 : Cond.static ({ cls := "PlainWarehouseModel", name := "isPlace", desc := "(I)Z" } : MethodName) ∈ WS := ws_in 648 rfl rfl
set_option maxRecDepth 100000 in
theorem tw_654 : Cond.methodLink "PlainWarehouseModel" (77 : Nat) ({ cls := "PlainWarehouseModel", name := "mayGo", desc := "(II)Z" } : MethodName) ∈ WS := ws_in 654 rfl rfl
set_option maxRecDepth 100000 in
theorem tw_656 : Cond.instanceMethod ({ cls := "PlainWarehouseModel", name := "mayGo", desc := "(II)Z" } : MethodName) ∈ WS := ws_in 656 rfl rfl
set_option maxRecDepth 100000 in
theorem tw_658 : Cond.methodLink "PlainWarehouseModel" (73 : Nat) ({ cls := "PlainWarehouseModel", name := "isOpen", desc := "(II)Z" } : MethodName) ∈ WS := ws_in 658 rfl rfl
set_option maxRecDepth 100000 in
theorem tw_660 : Cond.instanceMethod ({ cls := "PlainWarehouseModel", name := "isOpen", desc := "(II)Z" } : MethodName) ∈ WS := ws_in 660 rfl rfl
set_option maxRecDepth 100000 in
theorem tw_662 : Cond.methodLink "PlainWarehouseModel" (80 : Nat) ({ cls := "PlainWarehouseModel", name := "mayGive", desc := "(III)Z" } : MethodName) ∈ WS := ws_in 662 rfl rfl
set_option maxRecDepth 100000 in
theorem tw_664 : Cond.instanceMethod ({ cls := "PlainWarehouseModel", name := "mayGive", desc := "(III)Z" } : MethodName) ∈ WS := ws_in 664 rfl rfl
abbrev SM : Type := Int32 × Int32 × Int32 × (Nat → Int32) × (Nat → Int32) × (Nat → Int32) × (Nat → Int32) × (Nat → Int32) × (Nat → Int32) × (Nat → Int32) × (Nat → Int32) × (Nat → Int32) × (Nat → Int32) × (Nat → Int32) × (Nat → Int32) × (Nat → Int32) × (Nat → Int32) × (Nat → Int32)
abbrev g_mcode (σ : SM) : Int32 := σ.1
abbrev u_mcode (σ : SM) (v : Int32) : SM := (v, σ.2)
abbrev g_mev (σ : SM) : Int32 := σ.2.1
abbrev u_mev (σ : SM) (v : Int32) : SM := (σ.1, v, σ.2.2)
abbrev g_mrf (σ : SM) : Int32 := σ.2.2.1
abbrev u_mrf (σ : SM) (v : Int32) : SM := (σ.1, σ.2.1, v, σ.2.2.2)
abbrev g_mkd (σ : SM) : Nat → Int32 := σ.2.2.2.1
abbrev u_mkd (σ : SM) (v : Nat → Int32) : SM := (σ.1, σ.2.1, σ.2.2.1, v, σ.2.2.2.2)
abbrev g_mxa (σ : SM) : Nat → Int32 := σ.2.2.2.2.1
abbrev u_mxa (σ : SM) (v : Nat → Int32) : SM := (σ.1, σ.2.1, σ.2.2.1, σ.2.2.2.1, v, σ.2.2.2.2.2)
abbrev g_mxb (σ : SM) : Nat → Int32 := σ.2.2.2.2.2.1
abbrev u_mxb (σ : SM) (v : Nat → Int32) : SM := (σ.1, σ.2.1, σ.2.2.1, σ.2.2.2.1, σ.2.2.2.2.1, v, σ.2.2.2.2.2.2)
abbrev g_mxc (σ : SM) : Nat → Int32 := σ.2.2.2.2.2.2.1
abbrev u_mxc (σ : SM) (v : Nat → Int32) : SM := (σ.1, σ.2.1, σ.2.2.1, σ.2.2.2.1, σ.2.2.2.2.1, σ.2.2.2.2.2.1, v, σ.2.2.2.2.2.2.2)
abbrev g_mpl (σ : SM) : Nat → Int32 := σ.2.2.2.2.2.2.2.1
abbrev u_mpl (σ : SM) (v : Nat → Int32) : SM := (σ.1, σ.2.1, σ.2.2.1, σ.2.2.2.1, σ.2.2.2.2.1, σ.2.2.2.2.2.1, σ.2.2.2.2.2.2.1, v, σ.2.2.2.2.2.2.2.2)
abbrev g_mgd (σ : SM) : Nat → Int32 := σ.2.2.2.2.2.2.2.2.1
abbrev u_mgd (σ : SM) (v : Nat → Int32) : SM := (σ.1, σ.2.1, σ.2.2.1, σ.2.2.2.1, σ.2.2.2.2.1, σ.2.2.2.2.2.1, σ.2.2.2.2.2.2.1, σ.2.2.2.2.2.2.2.1, v, σ.2.2.2.2.2.2.2.2.2)
abbrev g_mgv (σ : SM) : Nat → Int32 := σ.2.2.2.2.2.2.2.2.2.1
abbrev u_mgv (σ : SM) (v : Nat → Int32) : SM := (σ.1, σ.2.1, σ.2.2.1, σ.2.2.2.1, σ.2.2.2.2.1, σ.2.2.2.2.2.1, σ.2.2.2.2.2.2.1, σ.2.2.2.2.2.2.2.1, σ.2.2.2.2.2.2.2.2.1, v, σ.2.2.2.2.2.2.2.2.2.2)
abbrev g_mwa (σ : SM) : Nat → Int32 := σ.2.2.2.2.2.2.2.2.2.2.1
abbrev u_mwa (σ : SM) (v : Nat → Int32) : SM := (σ.1, σ.2.1, σ.2.2.1, σ.2.2.2.1, σ.2.2.2.2.1, σ.2.2.2.2.2.1, σ.2.2.2.2.2.2.1, σ.2.2.2.2.2.2.2.1, σ.2.2.2.2.2.2.2.2.1, σ.2.2.2.2.2.2.2.2.2.1, v, σ.2.2.2.2.2.2.2.2.2.2.2)
abbrev g_mog (σ : SM) : Nat → Int32 := σ.2.2.2.2.2.2.2.2.2.2.2.1
abbrev u_mog (σ : SM) (v : Nat → Int32) : SM := (σ.1, σ.2.1, σ.2.2.1, σ.2.2.2.1, σ.2.2.2.2.1, σ.2.2.2.2.2.1, σ.2.2.2.2.2.2.1, σ.2.2.2.2.2.2.2.1, σ.2.2.2.2.2.2.2.2.1, σ.2.2.2.2.2.2.2.2.2.1, σ.2.2.2.2.2.2.2.2.2.2.1, v, σ.2.2.2.2.2.2.2.2.2.2.2.2)
abbrev g_mgt (σ : SM) : Nat → Int32 := σ.2.2.2.2.2.2.2.2.2.2.2.2.1
abbrev u_mgt (σ : SM) (v : Nat → Int32) : SM := (σ.1, σ.2.1, σ.2.2.1, σ.2.2.2.1, σ.2.2.2.2.1, σ.2.2.2.2.2.1, σ.2.2.2.2.2.2.1, σ.2.2.2.2.2.2.2.1, σ.2.2.2.2.2.2.2.2.1, σ.2.2.2.2.2.2.2.2.2.1, σ.2.2.2.2.2.2.2.2.2.2.1, σ.2.2.2.2.2.2.2.2.2.2.2.1, v, σ.2.2.2.2.2.2.2.2.2.2.2.2.2)
abbrev g_mce (σ : SM) : Nat → Int32 := σ.2.2.2.2.2.2.2.2.2.2.2.2.2.1
abbrev u_mce (σ : SM) (v : Nat → Int32) : SM := (σ.1, σ.2.1, σ.2.2.1, σ.2.2.2.1, σ.2.2.2.2.1, σ.2.2.2.2.2.1, σ.2.2.2.2.2.2.1, σ.2.2.2.2.2.2.2.1, σ.2.2.2.2.2.2.2.2.1, σ.2.2.2.2.2.2.2.2.2.1, σ.2.2.2.2.2.2.2.2.2.2.1, σ.2.2.2.2.2.2.2.2.2.2.2.1, σ.2.2.2.2.2.2.2.2.2.2.2.2.1, v, σ.2.2.2.2.2.2.2.2.2.2.2.2.2.2)
abbrev g_mlk (σ : SM) : Nat → Int32 := σ.2.2.2.2.2.2.2.2.2.2.2.2.2.2.1
abbrev u_mlk (σ : SM) (v : Nat → Int32) : SM := (σ.1, σ.2.1, σ.2.2.1, σ.2.2.2.1, σ.2.2.2.2.1, σ.2.2.2.2.2.1, σ.2.2.2.2.2.2.1, σ.2.2.2.2.2.2.2.1, σ.2.2.2.2.2.2.2.2.1, σ.2.2.2.2.2.2.2.2.2.1, σ.2.2.2.2.2.2.2.2.2.2.1, σ.2.2.2.2.2.2.2.2.2.2.2.1, σ.2.2.2.2.2.2.2.2.2.2.2.2.1, σ.2.2.2.2.2.2.2.2.2.2.2.2.2.1, v, σ.2.2.2.2.2.2.2.2.2.2.2.2.2.2.2)
abbrev g_mfa (σ : SM) : Nat → Int32 := σ.2.2.2.2.2.2.2.2.2.2.2.2.2.2.2.1
abbrev u_mfa (σ : SM) (v : Nat → Int32) : SM := (σ.1, σ.2.1, σ.2.2.1, σ.2.2.2.1, σ.2.2.2.2.1, σ.2.2.2.2.2.1, σ.2.2.2.2.2.2.1, σ.2.2.2.2.2.2.2.1, σ.2.2.2.2.2.2.2.2.1, σ.2.2.2.2.2.2.2.2.2.1, σ.2.2.2.2.2.2.2.2.2.2.1, σ.2.2.2.2.2.2.2.2.2.2.2.1, σ.2.2.2.2.2.2.2.2.2.2.2.2.1, σ.2.2.2.2.2.2.2.2.2.2.2.2.2.1, σ.2.2.2.2.2.2.2.2.2.2.2.2.2.2.1, v, σ.2.2.2.2.2.2.2.2.2.2.2.2.2.2.2.2)
abbrev g_mst (σ : SM) : Nat → Int32 := σ.2.2.2.2.2.2.2.2.2.2.2.2.2.2.2.2.1
abbrev u_mst (σ : SM) (v : Nat → Int32) : SM := (σ.1, σ.2.1, σ.2.2.1, σ.2.2.2.1, σ.2.2.2.2.1, σ.2.2.2.2.2.1, σ.2.2.2.2.2.2.1, σ.2.2.2.2.2.2.2.1, σ.2.2.2.2.2.2.2.2.1, σ.2.2.2.2.2.2.2.2.2.1, σ.2.2.2.2.2.2.2.2.2.2.1, σ.2.2.2.2.2.2.2.2.2.2.2.1, σ.2.2.2.2.2.2.2.2.2.2.2.2.1, σ.2.2.2.2.2.2.2.2.2.2.2.2.2.1, σ.2.2.2.2.2.2.2.2.2.2.2.2.2.2.1, σ.2.2.2.2.2.2.2.2.2.2.2.2.2.2.2.1, v, σ.2.2.2.2.2.2.2.2.2.2.2.2.2.2.2.2.2)
abbrev g_mco (σ : SM) : Nat → Int32 := σ.2.2.2.2.2.2.2.2.2.2.2.2.2.2.2.2.2
abbrev u_mco (σ : SM) (v : Nat → Int32) : SM := (σ.1, σ.2.1, σ.2.2.1, σ.2.2.2.1, σ.2.2.2.2.1, σ.2.2.2.2.2.1, σ.2.2.2.2.2.2.1, σ.2.2.2.2.2.2.2.1, σ.2.2.2.2.2.2.2.2.1, σ.2.2.2.2.2.2.2.2.2.1, σ.2.2.2.2.2.2.2.2.2.2.1, σ.2.2.2.2.2.2.2.2.2.2.2.1, σ.2.2.2.2.2.2.2.2.2.2.2.2.1, σ.2.2.2.2.2.2.2.2.2.2.2.2.2.1, σ.2.2.2.2.2.2.2.2.2.2.2.2.2.2.1, σ.2.2.2.2.2.2.2.2.2.2.2.2.2.2.2.1, σ.2.2.2.2.2.2.2.2.2.2.2.2.2.2.2.2.1, v)
def wM (ad : Nat → Nat) (cA : ClassId) (σ : SM) : va_W := [(ad 0, .inr (4, [.int (g_mcode σ), .int (g_mev σ), .int (g_mrf σ), .ref (ad 1), .ref (ad 2), .ref (ad 3), .ref (ad 4), .ref (ad 5), .ref (ad 6), .ref (ad 7), .ref (ad 8), .ref (ad 9), .ref (ad 10), .ref (ad 11), .ref (ad 12), .ref (ad 13), .ref (ad 14), .ref (ad 15)])), (ad 1, .inl (cA, 60, .inl (g_mkd σ))), (ad 2, .inl (cA, 60, .inl (g_mxa σ))), (ad 3, .inl (cA, 60, .inl (g_mxb σ))), (ad 4, .inl (cA, 60, .inl (g_mxc σ))), (ad 5, .inl (cA, 1240, .inl (g_mpl σ))), (ad 6, .inl (cA, 1240, .inl (g_mgd σ))), (ad 7, .inl (cA, 1240, .inl (g_mgv σ))), (ad 8, .inl (cA, 620, .inl (g_mwa σ))), (ad 9, .inl (cA, 620, .inl (g_mog σ))), (ad 10, .inl (cA, 620, .inl (g_mgt σ))), (ad 11, .inl (cA, 248, .inl (g_mce σ))), (ad 12, .inl (cA, 6200, .inl (g_mlk σ))), (ad 13, .inl (cA, 100, .inl (g_mfa σ))), (ad 14, .inl (cA, 4, .inl (g_mst σ))), (ad 15, .inl (cA, 64, .inl (g_mco σ)))]

def rm_M_thrown : Room := { frames := 0, cells := 0, slots := 0, locals := 0 }
def m_M_thrown (σ : SM) : Option (Int32) :=
  some (g_mcode σ)
set_option maxHeartbeats 4000000 in
set_option maxRecDepth 100000 in
theorem w_M_thrown {x : JX} {bd : Nat → Nat} {cA : ClassId} {ad : Nat → Nat} {σ0 : SP} {wr : va_W} (C : jC x cc_M_thrown 1 "PlainWarehouseModel") (hT : (jT x)[0]? = some (cA, .int)) (hR : jR x = rm_M_thrown)  (σ : SM) {r : Int32} (hr : (jt x).sig.returnType = some .int) (E : jE x 0 0 (some (.int r)) ((wP ad cA σ0) ++ ((wM bd cA σ) ++ wr))) (h : m_M_thrown σ = some r) : jW x 1 0 0 0 [(0, .ref (bd 0))] [] ((wP ad cA σ0) ++ ((wM bd cA σ) ++ wr)) := by
  unfold m_M_thrown at h
  refine j_aload_n C 0 d_M_thrown_0 rfl rfl rfl ?_
  refine j_get C in_M 18 rfl rfl 0 (by decide) tw_575 rfl (v := .int (g_mcode σ)) rfl d_M_thrown_1 rfl ?_
  cases h
  exact j_iret C E hr d_M_thrown_4
theorem ct_M_thrown (l : Launch) (D : va_G) (tys : List (ClassId × FieldType)) {bd : Nat → Nat} {cA : ClassId} {ad : Nat → Nat} {σ0 : SP} {wr : va_W} (hT : tys[0]? = some (cA, .int)) (σ : SM) {r : Int32} (h : m_M_thrown σ = some r) : jM l y_M_thrown ws_M_thrown rm_M_thrown D tys [.ref (bd 0)] ((wP ad cA σ0) ++ ((wM bd cA σ) ++ wr)) (some (.int r)) ((wP ad cA σ0) ++ ((wM bd cA σ) ++ wr)) :=
  j_of (by decide +kernel) rfl (Nat.le_of_ble_eq_true rfl) rfl (fun x _ _ hT' hR C hr _ E => w_M_thrown C (by rw [hT']; exact hT) hR σ hr E h)
def rm_M_in : Room := { frames := 0, cells := 0, slots := 0, locals := 0 }
def m_M_in (a0 : Int32) (a1 : Int32) (a2 : Int32) : Option (Int32) :=
  (if a0 < a1 then some (0 : Int32) else (if a2 < a0 then some (0 : Int32) else some (1 : Int32)))
set_option maxHeartbeats 4000000 in
set_option maxRecDepth 100000 in
theorem w_M_in {x : JX} {w : va_W} (C : jC x cc_M_in 3 "PlainWarehouseModel") (hR : jR x = rm_M_in)  (a0 : Int32) (a1 : Int32) (a2 : Int32) {r : Int32} (hr : (jt x).sig.returnType = some .boolean) (E : jE x 0 0 (some (.int r)) (w)) (h : m_M_in a0 a1 a2 = some r) : jW x 3 0 0 0 [(0, .int a0), (1, .int a1), (2, .int a2)] [] (w) := by
  unfold m_M_in at h
  refine j_iload_n C 0 d_M_in_0 rfl rfl rfl ?_
  refine j_iload_n C 1 d_M_in_1 rfl rfl rfl ?_
  refine j_icmp_lt (tgt := 14) C d_M_in_2 (by decide) rfl h (fun h => ?_) (fun h => ?_)
  · refine j_iconst (v := 0) C d_M_in_14 rfl (by decide) ?_
    cases h
    exact j_zret C E hr rfl d_M_in_15
  · refine j_iload_n C 0 d_M_in_5 rfl rfl rfl ?_
    refine j_iload_n C 2 d_M_in_6 rfl rfl rfl ?_
    refine j_icmp_gt (tgt := 14) C d_M_in_7 (by decide) rfl h (fun h => ?_) (fun h => ?_)
    · refine j_iconst (v := 0) C d_M_in_14 rfl (by decide) ?_
      cases h
      exact j_zret C E hr rfl d_M_in_15
    · refine j_iconst (v := 1) C d_M_in_10 rfl (by decide) ?_
      refine j_goto (tgt := 15) C d_M_in_11 (by decide) ?_
      cases h
      exact j_zret C E hr rfl d_M_in_15
theorem ct_M_in (l : Launch) (D : va_G) (tys : List (ClassId × FieldType)) {w : va_W} (a0 : Int32) (a1 : Int32) (a2 : Int32) {r : Int32} (h : m_M_in a0 a1 a2 = some r) : jM l y_M_in ws_M_in rm_M_in D tys [.int a0, .int a1, .int a2] (w) (some (.int r)) (w) :=
  j_of (by decide +kernel) rfl (Nat.le_of_ble_eq_true rfl) rfl (fun x _ _ _ hR C hr _ E => w_M_in C hR a0 a1 a2 hr E h)
def rm_M_isUnit : Room := { frames := 1, cells := 0, slots := 0, locals := 22 }
def m_M_isUnit (a0 : Int32) : Option (Int32) :=
  (mb1 (m_M_in a0 (0 : Int32) (19 : Int32)) fun r1 => (mzr r1 (some r1)))
set_option maxHeartbeats 4000000 in
set_option maxRecDepth 100000 in
theorem w_M_isUnit {x : JX} {w : va_W} (C : jC x cc_M_isUnit 1 "PlainWarehouseModel") (hR : jR x = rm_M_isUnit)  (a0 : Int32) {r : Int32} (hr : (jt x).sig.returnType = some .boolean) (E : jE x 0 0 (some (.int r)) (w)) (h : m_M_isUnit a0 = some r) : jW x 1 0 0 0 [(0, .int a0)] [] (w) := by
  unfold m_M_isUnit at h
  refine j_iload_n C 0 d_M_isUnit_0 rfl rfl rfl ?_
  refine j_iconst (v := 0) C d_M_isUnit_1 rfl (by decide) ?_
  refine j_bipush (v := 19) C d_M_isUnit_2 rfl (by decide) ?_
  obtain ⟨r1, h2, h⟩ := mb1_some h
  refine j_callS C hR (As := [.int a0, .int (0 : Int32), .int (19 : Int32)]) (ct_M_in (jl x) (jD x) (jT x) a0 (0 : Int32) (19 : Int32) h2) kf_M_in (by decide) tw_644 tw_645 (rest := []) rfl rfl (Nat.le_of_ble_eq_true rfl) (by decide) ⟨rfl, rfl⟩ d_M_isUnit_4 rfl (st1 := [.int r1]) rfl ?_
  obtain ⟨hz, h⟩ := mzr_some h
  cases h
  exact j_zret C E hr hz d_M_isUnit_7
theorem ct_M_isUnit (l : Launch) (D : va_G) (tys : List (ClassId × FieldType)) {w : va_W} (a0 : Int32) {r : Int32} (h : m_M_isUnit a0 = some r) : jM l y_M_isUnit ws_M_isUnit rm_M_isUnit D tys [.int a0] (w) (some (.int r)) (w) :=
  j_of (by decide +kernel) rfl (Nat.le_of_ble_eq_true rfl) rfl (fun x _ _ _ hR C hr _ E => w_M_isUnit C hR a0 hr E h)
def rm_M_isPlace : Room := { frames := 1, cells := 0, slots := 0, locals := 22 }
def m_M_isPlace (a0 : Int32) : Option (Int32) :=
  (mb1 (m_M_in a0 (0 : Int32) (9 : Int32)) fun r1 => (mzr r1 (some r1)))
set_option maxHeartbeats 4000000 in
set_option maxRecDepth 100000 in
theorem w_M_isPlace {x : JX} {w : va_W} (C : jC x cc_M_isPlace 1 "PlainWarehouseModel") (hR : jR x = rm_M_isPlace)  (a0 : Int32) {r : Int32} (hr : (jt x).sig.returnType = some .boolean) (E : jE x 0 0 (some (.int r)) (w)) (h : m_M_isPlace a0 = some r) : jW x 1 0 0 0 [(0, .int a0)] [] (w) := by
  unfold m_M_isPlace at h
  refine j_iload_n C 0 d_M_isPlace_0 rfl rfl rfl ?_
  refine j_iconst (v := 0) C d_M_isPlace_1 rfl (by decide) ?_
  refine j_bipush (v := 9) C d_M_isPlace_2 rfl (by decide) ?_
  obtain ⟨r1, h2, h⟩ := mb1_some h
  refine j_callS C hR (As := [.int a0, .int (0 : Int32), .int (9 : Int32)]) (ct_M_in (jl x) (jD x) (jT x) a0 (0 : Int32) (9 : Int32) h2) kf_M_in (by decide) tw_644 tw_645 (rest := []) rfl rfl (Nat.le_of_ble_eq_true rfl) (by decide) ⟨rfl, rfl⟩ d_M_isPlace_4 rfl (st1 := [.int r1]) rfl ?_
  obtain ⟨hz, h⟩ := mzr_some h
  cases h
  exact j_zret C E hr hz d_M_isPlace_7
theorem ct_M_isPlace (l : Launch) (D : va_G) (tys : List (ClassId × FieldType)) {w : va_W} (a0 : Int32) {r : Int32} (h : m_M_isPlace a0 = some r) : jM l y_M_isPlace ws_M_isPlace rm_M_isPlace D tys [.int a0] (w) (some (.int r)) (w) :=
  j_of (by decide +kernel) rfl (Nat.le_of_ble_eq_true rfl) rfl (fun x _ _ _ hR C hr _ E => w_M_isPlace C hR a0 hr E h)
def rm_M_isOrder : Room := { frames := 1, cells := 0, slots := 0, locals := 22 }
def m_M_isOrder (a1 : Int32) (σ : SM) : Option (Int32) :=
  (mb1 (m_M_in a1 (0 : Int32) (9 : Int32)) fun r1 => (if r1 = 0 then some (0 : Int32) else (mrd 620 (g_mwa σ) (((10 : Int32) * (g_mev σ)) + a1) fun r3 => (if r3 ≤ 0 then some (0 : Int32) else some (1 : Int32)))))
set_option maxHeartbeats 4000000 in
set_option maxRecDepth 100000 in
theorem w_M_isOrder {x : JX} {bd : Nat → Nat} {cA : ClassId} {ad : Nat → Nat} {σ0 : SP} {wr : va_W} (C : jC x cc_M_isOrder 2 "PlainWarehouseModel") (hT : (jT x)[0]? = some (cA, .int)) (hR : jR x = rm_M_isOrder)  (a1 : Int32) (σ : SM) {r : Int32} (hr : (jt x).sig.returnType = some .boolean) (E : jE x 0 0 (some (.int r)) ((wP ad cA σ0) ++ ((wM bd cA σ) ++ wr))) (h : m_M_isOrder a1 σ = some r) : jW x 2 0 0 0 [(0, .ref (bd 0)), (1, .int a1)] [] ((wP ad cA σ0) ++ ((wM bd cA σ) ++ wr)) := by
  unfold m_M_isOrder at h
  refine j_iload_n C 1 d_M_isOrder_0 rfl rfl rfl ?_
  refine j_iconst (v := 0) C d_M_isOrder_1 rfl (by decide) ?_
  refine j_bipush (v := 9) C d_M_isOrder_2 rfl (by decide) ?_
  obtain ⟨r1, h2, h⟩ := mb1_some h
  refine j_callS C hR (As := [.int a1, .int (0 : Int32), .int (9 : Int32)]) (ct_M_in (jl x) (jD x) (jT x) a1 (0 : Int32) (9 : Int32) h2) kf_M_in (by decide) tw_644 tw_645 (rest := []) rfl rfl (Nat.le_of_ble_eq_true rfl) (by decide) ⟨rfl, rfl⟩ d_M_isOrder_4 rfl (st1 := [.int r1]) rfl ?_
  refine j_if_eq (tgt := 31) C d_M_isOrder_7 (by decide) rfl h (fun h => ?_) (fun h => ?_)
  · refine j_iconst (v := 0) C d_M_isOrder_31 rfl (by decide) ?_
    cases h
    exact j_zret C E hr rfl d_M_isOrder_32
  · refine j_aload_n C 0 d_M_isOrder_10 rfl rfl rfl ?_
    refine j_get C in_M 18 rfl rfl 10 (by decide) tw_585 rfl (v := .ref (bd 8)) rfl d_M_isOrder_11 rfl ?_
    refine j_bipush (v := 10) C d_M_isOrder_14 rfl (by decide) ?_
    refine j_aload_n C 0 d_M_isOrder_16 rfl rfl rfl ?_
    refine j_get C in_M 18 rfl rfl 1 (by decide) tw_576 rfl (v := .int (g_mev σ)) rfl d_M_isOrder_17 rfl ?_
    refine j_imul C d_M_isOrder_20 rfl ?_
    refine j_iload_n C 1 d_M_isOrder_21 rfl rfl rfl ?_
    refine j_iadd C d_M_isOrder_22 rfl ?_
    refine j_iald C 26 0 rfl hT d_M_isOrder_23 rfl h (fun r3 h => ?_)
    refine j_if_le (tgt := 31) C d_M_isOrder_24 (by decide) rfl h (fun h => ?_) (fun h => ?_)
    · refine j_iconst (v := 0) C d_M_isOrder_31 rfl (by decide) ?_
      cases h
      exact j_zret C E hr rfl d_M_isOrder_32
    · refine j_iconst (v := 1) C d_M_isOrder_27 rfl (by decide) ?_
      refine j_goto (tgt := 32) C d_M_isOrder_28 (by decide) ?_
      cases h
      exact j_zret C E hr rfl d_M_isOrder_32
theorem ct_M_isOrder (l : Launch) (D : va_G) (tys : List (ClassId × FieldType)) {bd : Nat → Nat} {cA : ClassId} {ad : Nat → Nat} {σ0 : SP} {wr : va_W} (hT : tys[0]? = some (cA, .int)) (a1 : Int32) (σ : SM) {r : Int32} (h : m_M_isOrder a1 σ = some r) : jM l y_M_isOrder ws_M_isOrder rm_M_isOrder D tys [.ref (bd 0), .int a1] ((wP ad cA σ0) ++ ((wM bd cA σ) ++ wr)) (some (.int r)) ((wP ad cA σ0) ++ ((wM bd cA σ) ++ wr)) :=
  j_of (by decide +kernel) rfl (Nat.le_of_ble_eq_true rfl) rfl (fun x _ _ hT' hR C hr _ E => w_M_isOrder C (by rw [hT']; exact hT) hR a1 σ hr E h)
def rm_M_isSaid : Room := { frames := 2, cells := 0, slots := 0, locals := 42 }
def m_M_isSaid (a0 : Int32) (a1 : Int32) (a2 : Int32) (a3 : Int32) : Option (Int32) :=
  (if a0 = 0 then (mb1 (m_M_isUnit a1) fun r27 => (if r27 = 0 then some (0 : Int32) else (mb1 (m_M_in a2 (0 : Int32) (5 : Int32)) fun r29 => (if r29 = 0 then some (0 : Int32) else (mb1 (m_M_isPlace a3) fun r31 => (if r31 = 0 then some (0 : Int32) else some (1 : Int32))))))) else (if a0 = (1 : Int32) then (mb1 (m_M_isUnit a1) fun r23 => (if r23 = 0 then some (0 : Int32) else (mb1 (m_M_isPlace a2) fun r25 => (if r25 = 0 then some (0 : Int32) else (if a3 = 0 then some (1 : Int32) else some (0 : Int32)))))) else (if a0 = (2 : Int32) then (mb1 (m_M_isUnit a1) fun r21 => (if r21 = 0 then some (0 : Int32) else (if a2 = 0 then (if a3 = 0 then some (1 : Int32) else some (0 : Int32)) else some (0 : Int32)))) else (if a0 = (3 : Int32) then (mb1 (m_M_in a1 (0 : Int32) (9 : Int32)) fun r15 => (if r15 = 0 then some (0 : Int32) else (mb1 (m_M_in a2 (1 : Int32) (9 : Int32)) fun r17 => (if r17 = 0 then some (0 : Int32) else (mb1 (m_M_in a3 (0 : Int32) (5 : Int32)) fun r19 => (if r19 = 0 then some (0 : Int32) else some (1 : Int32))))))) else (if a0 = (4 : Int32) then (mb1 (m_M_isUnit a1) fun r11 => (if r11 = 0 then some (0 : Int32) else (mb1 (m_M_in a2 (0 : Int32) (9 : Int32)) fun r13 => (if r13 = 0 then some (0 : Int32) else (if a3 = 0 then some (1 : Int32) else some (0 : Int32)))))) else (if a0 = (5 : Int32) then (mb1 (m_M_in a1 (0 : Int32) (3 : Int32)) fun r7 => (if r7 = 0 then some (0 : Int32) else (mb1 (m_M_in a2 (-10000 : Int32) (10000 : Int32)) fun r9 => (if r9 = 0 then some (0 : Int32) else (if a2 = 0 then some (0 : Int32) else (if a3 = 0 then some (1 : Int32) else some (0 : Int32))))))) else (if a0 = (6 : Int32) then (mb1 (m_M_isPlace a1) fun r1 => (if r1 = 0 then some (0 : Int32) else (mb1 (m_M_isPlace a2) fun r3 => (if r3 = 0 then some (0 : Int32) else (mb1 (m_M_in a3 (1 : Int32) (99 : Int32)) fun r5 => (if r5 = 0 then some (0 : Int32) else some (1 : Int32))))))) else some (0 : Int32))))))))
set_option maxHeartbeats 4000000 in
set_option maxRecDepth 100000 in
theorem w_M_isSaid {x : JX} {w : va_W} (C : jC x cc_M_isSaid 4 "PlainWarehouseModel") (hR : jR x = rm_M_isSaid)  (a0 : Int32) (a1 : Int32) (a2 : Int32) (a3 : Int32) {r : Int32} (hr : (jt x).sig.returnType = some .boolean) (E : jE x 0 0 (some (.int r)) (w)) (h : m_M_isSaid a0 a1 a2 a3 = some r) : jW x 4 0 0 0 [(0, .int a0), (1, .int a1), (2, .int a2), (3, .int a3)] [] (w) := by
  unfold m_M_isSaid at h
  refine j_iload_n C 0 d_M_isSaid_0 rfl rfl rfl ?_
  refine j_if_ne (tgt := 33) C d_M_isSaid_1 (by decide) rfl h (fun h => ?_) (fun h => ?_)
  · refine j_iload_n C 0 d_M_isSaid_33 rfl rfl rfl ?_
    refine j_iconst (v := 1) C d_M_isSaid_34 rfl (by decide) ?_
    refine j_icmp_ne (tgt := 62) C d_M_isSaid_35 (by decide) rfl h (fun h => ?_) (fun h => ?_)
    · refine j_iload_n C 0 d_M_isSaid_62 rfl rfl rfl ?_
      refine j_iconst (v := 2) C d_M_isSaid_63 rfl (by decide) ?_
      refine j_icmp_ne (tgt := 88) C d_M_isSaid_64 (by decide) rfl h (fun h => ?_) (fun h => ?_)
      · refine j_iload_n C 0 d_M_isSaid_88 rfl rfl rfl ?_
        refine j_iconst (v := 3) C d_M_isSaid_89 rfl (by decide) ?_
        refine j_icmp_ne (tgt := 128) C d_M_isSaid_90 (by decide) rfl h (fun h => ?_) (fun h => ?_)
        · refine j_iload_n C 0 d_M_isSaid_128 rfl rfl rfl ?_
          refine j_iconst (v := 4) C d_M_isSaid_129 rfl (by decide) ?_
          refine j_icmp_ne (tgt := 160) C d_M_isSaid_130 (by decide) rfl h (fun h => ?_) (fun h => ?_)
          · refine j_iload_n C 0 d_M_isSaid_160 rfl rfl rfl ?_
            refine j_iconst (v := 5) C d_M_isSaid_161 rfl (by decide) ?_
            refine j_icmp_ne (tgt := 201) C d_M_isSaid_162 (by decide) rfl h (fun h => ?_) (fun h => ?_)
            · refine j_iload_n C 0 d_M_isSaid_201 rfl rfl rfl ?_
              refine j_bipush (v := 6) C d_M_isSaid_202 rfl (by decide) ?_
              refine j_icmp_ne (tgt := 235) C d_M_isSaid_204 (by decide) rfl h (fun h => ?_) (fun h => ?_)
              · refine j_iconst (v := 0) C d_M_isSaid_235 rfl (by decide) ?_
                cases h
                exact j_zret C E hr rfl d_M_isSaid_236
              · refine j_iload_n C 1 d_M_isSaid_207 rfl rfl rfl ?_
                obtain ⟨r1, h2, h⟩ := mb1_some h
                refine j_callS C hR (As := [.int a1]) (ct_M_isPlace (jl x) (jD x) (jT x) a1 h2) kf_M_isPlace (by decide) tw_647 tw_648 (rest := []) rfl rfl (Nat.le_of_ble_eq_true rfl) (by decide) ⟨rfl, rfl⟩ d_M_isSaid_208 rfl (st1 := [.int r1]) rfl ?_
                refine j_if_eq (tgt := 235) C d_M_isSaid_211 (by decide) rfl h (fun h => ?_) (fun h => ?_)
                · refine j_iconst (v := 0) C d_M_isSaid_235 rfl (by decide) ?_
                  cases h
                  exact j_zret C E hr rfl d_M_isSaid_236
                · refine j_iload_n C 2 d_M_isSaid_214 rfl rfl rfl ?_
                  obtain ⟨r3, h4, h⟩ := mb1_some h
                  refine j_callS C hR (As := [.int a2]) (ct_M_isPlace (jl x) (jD x) (jT x) a2 h4) kf_M_isPlace (by decide) tw_647 tw_648 (rest := []) rfl rfl (Nat.le_of_ble_eq_true rfl) (by decide) ⟨rfl, rfl⟩ d_M_isSaid_215 rfl (st1 := [.int r3]) rfl ?_
                  refine j_if_eq (tgt := 235) C d_M_isSaid_218 (by decide) rfl h (fun h => ?_) (fun h => ?_)
                  · refine j_iconst (v := 0) C d_M_isSaid_235 rfl (by decide) ?_
                    cases h
                    exact j_zret C E hr rfl d_M_isSaid_236
                  · refine j_iload_n C 3 d_M_isSaid_221 rfl rfl rfl ?_
                    refine j_iconst (v := 1) C d_M_isSaid_222 rfl (by decide) ?_
                    refine j_bipush (v := 99) C d_M_isSaid_223 rfl (by decide) ?_
                    obtain ⟨r5, h6, h⟩ := mb1_some h
                    refine j_callS C hR (As := [.int a3, .int (1 : Int32), .int (99 : Int32)]) (ct_M_in (jl x) (jD x) (jT x) a3 (1 : Int32) (99 : Int32) h6) kf_M_in (by decide) tw_644 tw_645 (rest := []) rfl rfl (Nat.le_of_ble_eq_true rfl) (by decide) ⟨rfl, rfl⟩ d_M_isSaid_225 rfl (st1 := [.int r5]) rfl ?_
                    refine j_if_eq (tgt := 235) C d_M_isSaid_228 (by decide) rfl h (fun h => ?_) (fun h => ?_)
                    · refine j_iconst (v := 0) C d_M_isSaid_235 rfl (by decide) ?_
                      cases h
                      exact j_zret C E hr rfl d_M_isSaid_236
                    · refine j_iconst (v := 1) C d_M_isSaid_231 rfl (by decide) ?_
                      refine j_goto (tgt := 236) C d_M_isSaid_232 (by decide) ?_
                      cases h
                      exact j_zret C E hr rfl d_M_isSaid_236
            · refine j_iload_n C 1 d_M_isSaid_165 rfl rfl rfl ?_
              refine j_iconst (v := 0) C d_M_isSaid_166 rfl (by decide) ?_
              refine j_iconst (v := 3) C d_M_isSaid_167 rfl (by decide) ?_
              obtain ⟨r7, h8, h⟩ := mb1_some h
              refine j_callS C hR (As := [.int a1, .int (0 : Int32), .int (3 : Int32)]) (ct_M_in (jl x) (jD x) (jT x) a1 (0 : Int32) (3 : Int32) h8) kf_M_in (by decide) tw_644 tw_645 (rest := []) rfl rfl (Nat.le_of_ble_eq_true rfl) (by decide) ⟨rfl, rfl⟩ d_M_isSaid_168 rfl (st1 := [.int r7]) rfl ?_
              refine j_if_eq (tgt := 199) C d_M_isSaid_171 (by decide) rfl h (fun h => ?_) (fun h => ?_)
              · refine j_iconst (v := 0) C d_M_isSaid_199 rfl (by decide) ?_
                cases h
                exact j_zret C E hr rfl d_M_isSaid_200
              · refine j_iload_n C 2 d_M_isSaid_174 rfl rfl rfl ?_
                refine j_sipush (v := (-10000)) C d_M_isSaid_175 rfl (by decide) ?_
                refine j_sipush (v := 10000) C d_M_isSaid_178 rfl (by decide) ?_
                obtain ⟨r9, h10, h⟩ := mb1_some h
                refine j_callS C hR (As := [.int a2, .int (-10000 : Int32), .int (10000 : Int32)]) (ct_M_in (jl x) (jD x) (jT x) a2 (-10000 : Int32) (10000 : Int32) h10) kf_M_in (by decide) tw_644 tw_645 (rest := []) rfl rfl (Nat.le_of_ble_eq_true rfl) (by decide) ⟨rfl, rfl⟩ d_M_isSaid_181 rfl (st1 := [.int r9]) rfl ?_
                refine j_if_eq (tgt := 199) C d_M_isSaid_184 (by decide) rfl h (fun h => ?_) (fun h => ?_)
                · refine j_iconst (v := 0) C d_M_isSaid_199 rfl (by decide) ?_
                  cases h
                  exact j_zret C E hr rfl d_M_isSaid_200
                · refine j_iload_n C 2 d_M_isSaid_187 rfl rfl rfl ?_
                  refine j_if_eq (tgt := 199) C d_M_isSaid_188 (by decide) rfl h (fun h => ?_) (fun h => ?_)
                  · refine j_iconst (v := 0) C d_M_isSaid_199 rfl (by decide) ?_
                    cases h
                    exact j_zret C E hr rfl d_M_isSaid_200
                  · refine j_iload_n C 3 d_M_isSaid_191 rfl rfl rfl ?_
                    refine j_if_ne (tgt := 199) C d_M_isSaid_192 (by decide) rfl h (fun h => ?_) (fun h => ?_)
                    · refine j_iconst (v := 0) C d_M_isSaid_199 rfl (by decide) ?_
                      cases h
                      exact j_zret C E hr rfl d_M_isSaid_200
                    · refine j_iconst (v := 1) C d_M_isSaid_195 rfl (by decide) ?_
                      refine j_goto (tgt := 200) C d_M_isSaid_196 (by decide) ?_
                      cases h
                      exact j_zret C E hr rfl d_M_isSaid_200
          · refine j_iload_n C 1 d_M_isSaid_133 rfl rfl rfl ?_
            obtain ⟨r11, h12, h⟩ := mb1_some h
            refine j_callS C hR (As := [.int a1]) (ct_M_isUnit (jl x) (jD x) (jT x) a1 h12) kf_M_isUnit (by decide) tw_641 tw_642 (rest := []) rfl rfl (Nat.le_of_ble_eq_true rfl) (by decide) ⟨rfl, rfl⟩ d_M_isSaid_134 rfl (st1 := [.int r11]) rfl ?_
            refine j_if_eq (tgt := 158) C d_M_isSaid_137 (by decide) rfl h (fun h => ?_) (fun h => ?_)
            · refine j_iconst (v := 0) C d_M_isSaid_158 rfl (by decide) ?_
              cases h
              exact j_zret C E hr rfl d_M_isSaid_159
            · refine j_iload_n C 2 d_M_isSaid_140 rfl rfl rfl ?_
              refine j_iconst (v := 0) C d_M_isSaid_141 rfl (by decide) ?_
              refine j_bipush (v := 9) C d_M_isSaid_142 rfl (by decide) ?_
              obtain ⟨r13, h14, h⟩ := mb1_some h
              refine j_callS C hR (As := [.int a2, .int (0 : Int32), .int (9 : Int32)]) (ct_M_in (jl x) (jD x) (jT x) a2 (0 : Int32) (9 : Int32) h14) kf_M_in (by decide) tw_644 tw_645 (rest := []) rfl rfl (Nat.le_of_ble_eq_true rfl) (by decide) ⟨rfl, rfl⟩ d_M_isSaid_144 rfl (st1 := [.int r13]) rfl ?_
              refine j_if_eq (tgt := 158) C d_M_isSaid_147 (by decide) rfl h (fun h => ?_) (fun h => ?_)
              · refine j_iconst (v := 0) C d_M_isSaid_158 rfl (by decide) ?_
                cases h
                exact j_zret C E hr rfl d_M_isSaid_159
              · refine j_iload_n C 3 d_M_isSaid_150 rfl rfl rfl ?_
                refine j_if_ne (tgt := 158) C d_M_isSaid_151 (by decide) rfl h (fun h => ?_) (fun h => ?_)
                · refine j_iconst (v := 0) C d_M_isSaid_158 rfl (by decide) ?_
                  cases h
                  exact j_zret C E hr rfl d_M_isSaid_159
                · refine j_iconst (v := 1) C d_M_isSaid_154 rfl (by decide) ?_
                  refine j_goto (tgt := 159) C d_M_isSaid_155 (by decide) ?_
                  cases h
                  exact j_zret C E hr rfl d_M_isSaid_159
        · refine j_iload_n C 1 d_M_isSaid_93 rfl rfl rfl ?_
          refine j_iconst (v := 0) C d_M_isSaid_94 rfl (by decide) ?_
          refine j_bipush (v := 9) C d_M_isSaid_95 rfl (by decide) ?_
          obtain ⟨r15, h16, h⟩ := mb1_some h
          refine j_callS C hR (As := [.int a1, .int (0 : Int32), .int (9 : Int32)]) (ct_M_in (jl x) (jD x) (jT x) a1 (0 : Int32) (9 : Int32) h16) kf_M_in (by decide) tw_644 tw_645 (rest := []) rfl rfl (Nat.le_of_ble_eq_true rfl) (by decide) ⟨rfl, rfl⟩ d_M_isSaid_97 rfl (st1 := [.int r15]) rfl ?_
          refine j_if_eq (tgt := 126) C d_M_isSaid_100 (by decide) rfl h (fun h => ?_) (fun h => ?_)
          · refine j_iconst (v := 0) C d_M_isSaid_126 rfl (by decide) ?_
            cases h
            exact j_zret C E hr rfl d_M_isSaid_127
          · refine j_iload_n C 2 d_M_isSaid_103 rfl rfl rfl ?_
            refine j_iconst (v := 1) C d_M_isSaid_104 rfl (by decide) ?_
            refine j_bipush (v := 9) C d_M_isSaid_105 rfl (by decide) ?_
            obtain ⟨r17, h18, h⟩ := mb1_some h
            refine j_callS C hR (As := [.int a2, .int (1 : Int32), .int (9 : Int32)]) (ct_M_in (jl x) (jD x) (jT x) a2 (1 : Int32) (9 : Int32) h18) kf_M_in (by decide) tw_644 tw_645 (rest := []) rfl rfl (Nat.le_of_ble_eq_true rfl) (by decide) ⟨rfl, rfl⟩ d_M_isSaid_107 rfl (st1 := [.int r17]) rfl ?_
            refine j_if_eq (tgt := 126) C d_M_isSaid_110 (by decide) rfl h (fun h => ?_) (fun h => ?_)
            · refine j_iconst (v := 0) C d_M_isSaid_126 rfl (by decide) ?_
              cases h
              exact j_zret C E hr rfl d_M_isSaid_127
            · refine j_iload_n C 3 d_M_isSaid_113 rfl rfl rfl ?_
              refine j_iconst (v := 0) C d_M_isSaid_114 rfl (by decide) ?_
              refine j_iconst (v := 5) C d_M_isSaid_115 rfl (by decide) ?_
              obtain ⟨r19, h20, h⟩ := mb1_some h
              refine j_callS C hR (As := [.int a3, .int (0 : Int32), .int (5 : Int32)]) (ct_M_in (jl x) (jD x) (jT x) a3 (0 : Int32) (5 : Int32) h20) kf_M_in (by decide) tw_644 tw_645 (rest := []) rfl rfl (Nat.le_of_ble_eq_true rfl) (by decide) ⟨rfl, rfl⟩ d_M_isSaid_116 rfl (st1 := [.int r19]) rfl ?_
              refine j_if_eq (tgt := 126) C d_M_isSaid_119 (by decide) rfl h (fun h => ?_) (fun h => ?_)
              · refine j_iconst (v := 0) C d_M_isSaid_126 rfl (by decide) ?_
                cases h
                exact j_zret C E hr rfl d_M_isSaid_127
              · refine j_iconst (v := 1) C d_M_isSaid_122 rfl (by decide) ?_
                refine j_goto (tgt := 127) C d_M_isSaid_123 (by decide) ?_
                cases h
                exact j_zret C E hr rfl d_M_isSaid_127
      · refine j_iload_n C 1 d_M_isSaid_67 rfl rfl rfl ?_
        obtain ⟨r21, h22, h⟩ := mb1_some h
        refine j_callS C hR (As := [.int a1]) (ct_M_isUnit (jl x) (jD x) (jT x) a1 h22) kf_M_isUnit (by decide) tw_641 tw_642 (rest := []) rfl rfl (Nat.le_of_ble_eq_true rfl) (by decide) ⟨rfl, rfl⟩ d_M_isSaid_68 rfl (st1 := [.int r21]) rfl ?_
        refine j_if_eq (tgt := 86) C d_M_isSaid_71 (by decide) rfl h (fun h => ?_) (fun h => ?_)
        · refine j_iconst (v := 0) C d_M_isSaid_86 rfl (by decide) ?_
          cases h
          exact j_zret C E hr rfl d_M_isSaid_87
        · refine j_iload_n C 2 d_M_isSaid_74 rfl rfl rfl ?_
          refine j_if_ne (tgt := 86) C d_M_isSaid_75 (by decide) rfl h (fun h => ?_) (fun h => ?_)
          · refine j_iconst (v := 0) C d_M_isSaid_86 rfl (by decide) ?_
            cases h
            exact j_zret C E hr rfl d_M_isSaid_87
          · refine j_iload_n C 3 d_M_isSaid_78 rfl rfl rfl ?_
            refine j_if_ne (tgt := 86) C d_M_isSaid_79 (by decide) rfl h (fun h => ?_) (fun h => ?_)
            · refine j_iconst (v := 0) C d_M_isSaid_86 rfl (by decide) ?_
              cases h
              exact j_zret C E hr rfl d_M_isSaid_87
            · refine j_iconst (v := 1) C d_M_isSaid_82 rfl (by decide) ?_
              refine j_goto (tgt := 87) C d_M_isSaid_83 (by decide) ?_
              cases h
              exact j_zret C E hr rfl d_M_isSaid_87
    · refine j_iload_n C 1 d_M_isSaid_38 rfl rfl rfl ?_
      obtain ⟨r23, h24, h⟩ := mb1_some h
      refine j_callS C hR (As := [.int a1]) (ct_M_isUnit (jl x) (jD x) (jT x) a1 h24) kf_M_isUnit (by decide) tw_641 tw_642 (rest := []) rfl rfl (Nat.le_of_ble_eq_true rfl) (by decide) ⟨rfl, rfl⟩ d_M_isSaid_39 rfl (st1 := [.int r23]) rfl ?_
      refine j_if_eq (tgt := 60) C d_M_isSaid_42 (by decide) rfl h (fun h => ?_) (fun h => ?_)
      · refine j_iconst (v := 0) C d_M_isSaid_60 rfl (by decide) ?_
        cases h
        exact j_zret C E hr rfl d_M_isSaid_61
      · refine j_iload_n C 2 d_M_isSaid_45 rfl rfl rfl ?_
        obtain ⟨r25, h26, h⟩ := mb1_some h
        refine j_callS C hR (As := [.int a2]) (ct_M_isPlace (jl x) (jD x) (jT x) a2 h26) kf_M_isPlace (by decide) tw_647 tw_648 (rest := []) rfl rfl (Nat.le_of_ble_eq_true rfl) (by decide) ⟨rfl, rfl⟩ d_M_isSaid_46 rfl (st1 := [.int r25]) rfl ?_
        refine j_if_eq (tgt := 60) C d_M_isSaid_49 (by decide) rfl h (fun h => ?_) (fun h => ?_)
        · refine j_iconst (v := 0) C d_M_isSaid_60 rfl (by decide) ?_
          cases h
          exact j_zret C E hr rfl d_M_isSaid_61
        · refine j_iload_n C 3 d_M_isSaid_52 rfl rfl rfl ?_
          refine j_if_ne (tgt := 60) C d_M_isSaid_53 (by decide) rfl h (fun h => ?_) (fun h => ?_)
          · refine j_iconst (v := 0) C d_M_isSaid_60 rfl (by decide) ?_
            cases h
            exact j_zret C E hr rfl d_M_isSaid_61
          · refine j_iconst (v := 1) C d_M_isSaid_56 rfl (by decide) ?_
            refine j_goto (tgt := 61) C d_M_isSaid_57 (by decide) ?_
            cases h
            exact j_zret C E hr rfl d_M_isSaid_61
  · refine j_iload_n C 1 d_M_isSaid_4 rfl rfl rfl ?_
    obtain ⟨r27, h28, h⟩ := mb1_some h
    refine j_callS C hR (As := [.int a1]) (ct_M_isUnit (jl x) (jD x) (jT x) a1 h28) kf_M_isUnit (by decide) tw_641 tw_642 (rest := []) rfl rfl (Nat.le_of_ble_eq_true rfl) (by decide) ⟨rfl, rfl⟩ d_M_isSaid_5 rfl (st1 := [.int r27]) rfl ?_
    refine j_if_eq (tgt := 31) C d_M_isSaid_8 (by decide) rfl h (fun h => ?_) (fun h => ?_)
    · refine j_iconst (v := 0) C d_M_isSaid_31 rfl (by decide) ?_
      cases h
      exact j_zret C E hr rfl d_M_isSaid_32
    · refine j_iload_n C 2 d_M_isSaid_11 rfl rfl rfl ?_
      refine j_iconst (v := 0) C d_M_isSaid_12 rfl (by decide) ?_
      refine j_iconst (v := 5) C d_M_isSaid_13 rfl (by decide) ?_
      obtain ⟨r29, h30, h⟩ := mb1_some h
      refine j_callS C hR (As := [.int a2, .int (0 : Int32), .int (5 : Int32)]) (ct_M_in (jl x) (jD x) (jT x) a2 (0 : Int32) (5 : Int32) h30) kf_M_in (by decide) tw_644 tw_645 (rest := []) rfl rfl (Nat.le_of_ble_eq_true rfl) (by decide) ⟨rfl, rfl⟩ d_M_isSaid_14 rfl (st1 := [.int r29]) rfl ?_
      refine j_if_eq (tgt := 31) C d_M_isSaid_17 (by decide) rfl h (fun h => ?_) (fun h => ?_)
      · refine j_iconst (v := 0) C d_M_isSaid_31 rfl (by decide) ?_
        cases h
        exact j_zret C E hr rfl d_M_isSaid_32
      · refine j_iload_n C 3 d_M_isSaid_20 rfl rfl rfl ?_
        obtain ⟨r31, h32, h⟩ := mb1_some h
        refine j_callS C hR (As := [.int a3]) (ct_M_isPlace (jl x) (jD x) (jT x) a3 h32) kf_M_isPlace (by decide) tw_647 tw_648 (rest := []) rfl rfl (Nat.le_of_ble_eq_true rfl) (by decide) ⟨rfl, rfl⟩ d_M_isSaid_21 rfl (st1 := [.int r31]) rfl ?_
        refine j_if_eq (tgt := 31) C d_M_isSaid_24 (by decide) rfl h (fun h => ?_) (fun h => ?_)
        · refine j_iconst (v := 0) C d_M_isSaid_31 rfl (by decide) ?_
          cases h
          exact j_zret C E hr rfl d_M_isSaid_32
        · refine j_iconst (v := 1) C d_M_isSaid_27 rfl (by decide) ?_
          refine j_goto (tgt := 32) C d_M_isSaid_28 (by decide) ?_
          cases h
          exact j_zret C E hr rfl d_M_isSaid_32
theorem ct_M_isSaid (l : Launch) (D : va_G) (tys : List (ClassId × FieldType)) {w : va_W} (a0 : Int32) (a1 : Int32) (a2 : Int32) (a3 : Int32) {r : Int32} (h : m_M_isSaid a0 a1 a2 a3 = some r) : jM l y_M_isSaid ws_M_isSaid rm_M_isSaid D tys [.int a0, .int a1, .int a2, .int a3] (w) (some (.int r)) (w) :=
  j_of (by decide +kernel) rfl (Nat.le_of_ble_eq_true rfl) rfl (fun x _ _ _ hR C hr _ E => w_M_isSaid C hR a0 a1 a2 a3 hr E h)
def rm_M_isOpen : Room := { frames := 0, cells := 0, slots := 0, locals := 0 }
def m_M_isOpen (a1 : Int32) (a2 : Int32) (σ : SM) : Option (Int32) :=
  (mrd 620 (g_mgt σ) (((10 : Int32) * a1) + a2) fun r1 => (mrd 620 (g_mwa σ) (((10 : Int32) * a1) + a2) fun r2 => (if r2 ≤ r1 then some (0 : Int32) else some (1 : Int32))))
set_option maxHeartbeats 4000000 in
set_option maxRecDepth 100000 in
theorem w_M_isOpen {x : JX} {bd : Nat → Nat} {cA : ClassId} {ad : Nat → Nat} {σ0 : SP} {wr : va_W} (C : jC x cc_M_isOpen 3 "PlainWarehouseModel") (hT : (jT x)[0]? = some (cA, .int)) (hR : jR x = rm_M_isOpen)  (a1 : Int32) (a2 : Int32) (σ : SM) {r : Int32} (hr : (jt x).sig.returnType = some .boolean) (E : jE x 0 0 (some (.int r)) ((wP ad cA σ0) ++ ((wM bd cA σ) ++ wr))) (h : m_M_isOpen a1 a2 σ = some r) : jW x 3 0 0 0 [(0, .ref (bd 0)), (1, .int a1), (2, .int a2)] [] ((wP ad cA σ0) ++ ((wM bd cA σ) ++ wr)) := by
  unfold m_M_isOpen at h
  refine j_aload_n C 0 d_M_isOpen_0 rfl rfl rfl ?_
  refine j_get C in_M 18 rfl rfl 12 (by decide) tw_587 rfl (v := .ref (bd 10)) rfl d_M_isOpen_1 rfl ?_
  refine j_bipush (v := 10) C d_M_isOpen_4 rfl (by decide) ?_
  refine j_iload_n C 1 d_M_isOpen_6 rfl rfl rfl ?_
  refine j_imul C d_M_isOpen_7 rfl ?_
  refine j_iload_n C 2 d_M_isOpen_8 rfl rfl rfl ?_
  refine j_iadd C d_M_isOpen_9 rfl ?_
  refine j_iald C 28 0 rfl hT d_M_isOpen_10 rfl h (fun r1 h => ?_)
  refine j_aload_n C 0 d_M_isOpen_11 rfl rfl rfl ?_
  refine j_get C in_M 18 rfl rfl 10 (by decide) tw_585 rfl (v := .ref (bd 8)) rfl d_M_isOpen_12 rfl ?_
  refine j_bipush (v := 10) C d_M_isOpen_15 rfl (by decide) ?_
  refine j_iload_n C 1 d_M_isOpen_17 rfl rfl rfl ?_
  refine j_imul C d_M_isOpen_18 rfl ?_
  refine j_iload_n C 2 d_M_isOpen_19 rfl rfl rfl ?_
  refine j_iadd C d_M_isOpen_20 rfl ?_
  refine j_iald C 26 0 rfl hT d_M_isOpen_21 rfl h (fun r2 h => ?_)
  refine j_icmp_ge (tgt := 29) C d_M_isOpen_22 (by decide) rfl h (fun h => ?_) (fun h => ?_)
  · refine j_iconst (v := 0) C d_M_isOpen_29 rfl (by decide) ?_
    cases h
    exact j_zret C E hr rfl d_M_isOpen_30
  · refine j_iconst (v := 1) C d_M_isOpen_25 rfl (by decide) ?_
    refine j_goto (tgt := 30) C d_M_isOpen_26 (by decide) ?_
    cases h
    exact j_zret C E hr rfl d_M_isOpen_30
theorem ct_M_isOpen (l : Launch) (D : va_G) (tys : List (ClassId × FieldType)) {bd : Nat → Nat} {cA : ClassId} {ad : Nat → Nat} {σ0 : SP} {wr : va_W} (hT : tys[0]? = some (cA, .int)) (a1 : Int32) (a2 : Int32) (σ : SM) {r : Int32} (h : m_M_isOpen a1 a2 σ = some r) : jM l y_M_isOpen ws_M_isOpen rm_M_isOpen D tys [.ref (bd 0), .int a1, .int a2] ((wP ad cA σ0) ++ ((wM bd cA σ) ++ wr)) (some (.int r)) ((wP ad cA σ0) ++ ((wM bd cA σ) ++ wr)) :=
  j_of (by decide +kernel) rfl (Nat.le_of_ble_eq_true rfl) rfl (fun x _ _ hT' hR C hr _ E => w_M_isOpen C (by rw [hT']; exact hT) hR a1 a2 σ hr E h)
def rm_M_mayGo : Room := { frames := 1, cells := 0, slots := 0, locals := 22 }
def m_M_mayGo (a1 : Int32) (a2 : Int32) (σ : SM) : Option (Int32) :=
  (mrd 1240 (g_mpl σ) (((20 : Int32) * a1) + a2) fun r1 => (if r1 = (-1 : Int32) then some (0 : Int32) else (mrd 1240 (g_mgv σ) (((20 : Int32) * a1) + a2) fun r2 => (if r2 = (-1 : Int32) then some (1 : Int32) else (mrd 1240 (g_mgv σ) (((20 : Int32) * a1) + a2) fun r3 => (mb1 (m_M_isOpen a1 r3 σ) fun r4 => (if r4 = 0 then some (1 : Int32) else some (0 : Int32))))))))
set_option maxHeartbeats 4000000 in
set_option maxRecDepth 100000 in
theorem w_M_mayGo {x : JX} {bd : Nat → Nat} {cA : ClassId} {ad : Nat → Nat} {σ0 : SP} {wr : va_W} (C : jC x cc_M_mayGo 3 "PlainWarehouseModel") (hT : (jT x)[0]? = some (cA, .int)) (hR : jR x = rm_M_mayGo)  (a1 : Int32) (a2 : Int32) (σ : SM) {r : Int32} (hr : (jt x).sig.returnType = some .boolean) (E : jE x 0 0 (some (.int r)) ((wP ad cA σ0) ++ ((wM bd cA σ) ++ wr))) (h : m_M_mayGo a1 a2 σ = some r) : jW x 3 0 0 0 [(0, .ref (bd 0)), (1, .int a1), (2, .int a2)] [] ((wP ad cA σ0) ++ ((wM bd cA σ) ++ wr)) := by
  unfold m_M_mayGo at h
  refine j_aload_n C 0 d_M_mayGo_0 rfl rfl rfl ?_
  refine j_get C in_M 18 rfl rfl 7 (by decide) tw_582 rfl (v := .ref (bd 5)) rfl d_M_mayGo_1 rfl ?_
  refine j_bipush (v := 20) C d_M_mayGo_4 rfl (by decide) ?_
  refine j_iload_n C 1 d_M_mayGo_6 rfl rfl rfl ?_
  refine j_imul C d_M_mayGo_7 rfl ?_
  refine j_iload_n C 2 d_M_mayGo_8 rfl rfl rfl ?_
  refine j_iadd C d_M_mayGo_9 rfl ?_
  refine j_iald C 23 0 rfl hT d_M_mayGo_10 rfl h (fun r1 h => ?_)
  refine j_iconst (v := (-1)) C d_M_mayGo_11 rfl (by decide) ?_
  refine j_icmp_eq (tgt := 53) C d_M_mayGo_12 (by decide) rfl h (fun h => ?_) (fun h => ?_)
  · refine j_iconst (v := 0) C d_M_mayGo_53 rfl (by decide) ?_
    cases h
    exact j_zret C E hr rfl d_M_mayGo_54
  · refine j_aload_n C 0 d_M_mayGo_15 rfl rfl rfl ?_
    refine j_get C in_M 18 rfl rfl 9 (by decide) tw_584 rfl (v := .ref (bd 7)) rfl d_M_mayGo_16 rfl ?_
    refine j_bipush (v := 20) C d_M_mayGo_19 rfl (by decide) ?_
    refine j_iload_n C 1 d_M_mayGo_21 rfl rfl rfl ?_
    refine j_imul C d_M_mayGo_22 rfl ?_
    refine j_iload_n C 2 d_M_mayGo_23 rfl rfl rfl ?_
    refine j_iadd C d_M_mayGo_24 rfl ?_
    refine j_iald C 25 0 rfl hT d_M_mayGo_25 rfl h (fun r2 h => ?_)
    refine j_iconst (v := (-1)) C d_M_mayGo_26 rfl (by decide) ?_
    refine j_icmp_eq (tgt := 49) C d_M_mayGo_27 (by decide) rfl h (fun h => ?_) (fun h => ?_)
    · refine j_iconst (v := 1) C d_M_mayGo_49 rfl (by decide) ?_
      refine j_goto (tgt := 54) C d_M_mayGo_50 (by decide) ?_
      cases h
      exact j_zret C E hr rfl d_M_mayGo_54
    · refine j_aload_n C 0 d_M_mayGo_30 rfl rfl rfl ?_
      refine j_iload_n C 1 d_M_mayGo_31 rfl rfl rfl ?_
      refine j_aload_n C 0 d_M_mayGo_32 rfl rfl rfl ?_
      refine j_get C in_M 18 rfl rfl 9 (by decide) tw_584 rfl (v := .ref (bd 7)) rfl d_M_mayGo_33 rfl ?_
      refine j_bipush (v := 20) C d_M_mayGo_36 rfl (by decide) ?_
      refine j_iload_n C 1 d_M_mayGo_38 rfl rfl rfl ?_
      refine j_imul C d_M_mayGo_39 rfl ?_
      refine j_iload_n C 2 d_M_mayGo_40 rfl rfl rfl ?_
      refine j_iadd C d_M_mayGo_41 rfl ?_
      refine j_iald C 25 0 rfl hT d_M_mayGo_42 rfl h (fun r3 h => ?_)
      obtain ⟨r4, h5, h⟩ := mb1_some h
      refine j_callV C hR (As := [.int a1, .int r3]) (ct_M_isOpen (jl x) (jD x) (jT x) hT a1 r3 σ h5) kf_M_isOpen (by decide) tw_658 tw_660 tw_35 18 rfl rfl (rest := []) rfl rfl (Nat.le_of_ble_eq_true rfl) (by decide) ⟨rfl, rfl⟩ d_M_mayGo_43 rfl (st1 := [.int r4]) rfl ?_
      refine j_if_ne (tgt := 53) C d_M_mayGo_46 (by decide) rfl h (fun h => ?_) (fun h => ?_)
      · refine j_iconst (v := 0) C d_M_mayGo_53 rfl (by decide) ?_
        cases h
        exact j_zret C E hr rfl d_M_mayGo_54
      · refine j_iconst (v := 1) C d_M_mayGo_49 rfl (by decide) ?_
        refine j_goto (tgt := 54) C d_M_mayGo_50 (by decide) ?_
        cases h
        exact j_zret C E hr rfl d_M_mayGo_54
theorem ct_M_mayGo (l : Launch) (D : va_G) (tys : List (ClassId × FieldType)) {bd : Nat → Nat} {cA : ClassId} {ad : Nat → Nat} {σ0 : SP} {wr : va_W} (hT : tys[0]? = some (cA, .int)) (a1 : Int32) (a2 : Int32) (σ : SM) {r : Int32} (h : m_M_mayGo a1 a2 σ = some r) : jM l y_M_mayGo ws_M_mayGo rm_M_mayGo D tys [.ref (bd 0), .int a1, .int a2] ((wP ad cA σ0) ++ ((wM bd cA σ) ++ wr)) (some (.int r)) ((wP ad cA σ0) ++ ((wM bd cA σ) ++ wr)) :=
  j_of (by decide +kernel) rfl (Nat.le_of_ble_eq_true rfl) rfl (fun x _ _ hT' hR C hr _ E => w_M_mayGo C (by rw [hT']; exact hT) hR a1 a2 σ hr E h)
def rm_M_mayGive : Room := { frames := 1, cells := 0, slots := 0, locals := 22 }
def m_M_mayGive (a1 : Int32) (a2 : Int32) (a3 : Int32) (σ : SM) : Option (Int32) :=
  (mrd 1240 (g_mpl σ) (((20 : Int32) * a1) + a2) fun r1 => (if r1 = (-1 : Int32) then some (0 : Int32) else (mrd 1240 (g_mgv σ) (((20 : Int32) * a1) + a2) fun r2 => (if r2 = (-1 : Int32) then (mrd 620 (g_mwa σ) (((10 : Int32) * a1) + a3) fun r3 => (if r3 ≤ 0 then some (0 : Int32) else (mrd 1240 (g_mgd σ) (((20 : Int32) * a1) + a2) fun r4 => (mrd 620 (g_mog σ) (((10 : Int32) * a1) + a3) fun r5 => (if r4 = r5 then (mb1 (m_M_isOpen a1 a3 σ) fun r6 => (if r6 = 0 then some (0 : Int32) else some (1 : Int32))) else some (0 : Int32)))))) else some (0 : Int32)))))
set_option maxHeartbeats 4000000 in
set_option maxRecDepth 100000 in
theorem w_M_mayGive {x : JX} {bd : Nat → Nat} {cA : ClassId} {ad : Nat → Nat} {σ0 : SP} {wr : va_W} (C : jC x cc_M_mayGive 5 "PlainWarehouseModel") (hT : (jT x)[0]? = some (cA, .int)) (hR : jR x = rm_M_mayGive)  (a1 : Int32) (a2 : Int32) (a3 : Int32) (σ : SM) {r : Int32} (hr : (jt x).sig.returnType = some .boolean) (E : jE x 0 0 (some (.int r)) ((wP ad cA σ0) ++ ((wM bd cA σ) ++ wr))) (h : m_M_mayGive a1 a2 a3 σ = some r) : jW x 5 0 0 0 [(0, .ref (bd 0)), (1, .int a1), (2, .int a2), (3, .int a3)] [] ((wP ad cA σ0) ++ ((wM bd cA σ) ++ wr)) := by
  unfold m_M_mayGive at h
  refine j_bipush (v := 20) C d_M_mayGive_0 rfl (by decide) ?_
  refine j_iload_n C 1 d_M_mayGive_2 rfl rfl rfl ?_
  refine j_imul C d_M_mayGive_3 rfl ?_
  refine j_iload_n C 2 d_M_mayGive_4 rfl rfl rfl ?_
  refine j_iadd C d_M_mayGive_5 rfl ?_
  refine j_istore (lv' := [(4, .int (((20 : Int32) * a1) + a2)), (0, .ref (bd 0)), (1, .int a1), (2, .int a2), (3, .int a3)]) C d_M_mayGive_6 rfl (by decide) rfl ?_
  refine j_aload_n C 1 d_M_mayGive_8 rfl rfl rfl ?_
  refine j_get C in_M 18 rfl rfl 7 (by decide) tw_582 rfl (v := .ref (bd 5)) rfl d_M_mayGive_9 rfl ?_
  refine j_iload C 0 d_M_mayGive_12 rfl rfl ?_
  refine j_iald C 23 0 rfl hT d_M_mayGive_14 rfl h (fun r1 h => ?_)
  refine j_iconst (v := (-1)) C d_M_mayGive_15 rfl (by decide) ?_
  refine j_icmp_eq (tgt := 78) C d_M_mayGive_16 (by decide) rfl h (fun h => ?_) (fun h => ?_)
  · refine j_iconst (v := 0) C d_M_mayGive_78 rfl (by decide) ?_
    cases h
    exact j_zret C E hr rfl d_M_mayGive_79
  · refine j_aload_n C 1 d_M_mayGive_19 rfl rfl rfl ?_
    refine j_get C in_M 18 rfl rfl 9 (by decide) tw_584 rfl (v := .ref (bd 7)) rfl d_M_mayGive_20 rfl ?_
    refine j_iload C 0 d_M_mayGive_23 rfl rfl ?_
    refine j_iald C 25 0 rfl hT d_M_mayGive_25 rfl h (fun r2 h => ?_)
    refine j_iconst (v := (-1)) C d_M_mayGive_26 rfl (by decide) ?_
    refine j_icmp_ne (tgt := 78) C d_M_mayGive_27 (by decide) rfl h (fun h => ?_) (fun h => ?_)
    · refine j_iconst (v := 0) C d_M_mayGive_78 rfl (by decide) ?_
      cases h
      exact j_zret C E hr rfl d_M_mayGive_79
    · refine j_aload_n C 1 d_M_mayGive_30 rfl rfl rfl ?_
      refine j_get C in_M 18 rfl rfl 10 (by decide) tw_585 rfl (v := .ref (bd 8)) rfl d_M_mayGive_31 rfl ?_
      refine j_bipush (v := 10) C d_M_mayGive_34 rfl (by decide) ?_
      refine j_iload_n C 2 d_M_mayGive_36 rfl rfl rfl ?_
      refine j_imul C d_M_mayGive_37 rfl ?_
      refine j_iload_n C 4 d_M_mayGive_38 rfl rfl rfl ?_
      refine j_iadd C d_M_mayGive_39 rfl ?_
      refine j_iald C 26 0 rfl hT d_M_mayGive_40 rfl h (fun r3 h => ?_)
      refine j_if_le (tgt := 78) C d_M_mayGive_41 (by decide) rfl h (fun h => ?_) (fun h => ?_)
      · refine j_iconst (v := 0) C d_M_mayGive_78 rfl (by decide) ?_
        cases h
        exact j_zret C E hr rfl d_M_mayGive_79
      · refine j_aload_n C 1 d_M_mayGive_44 rfl rfl rfl ?_
        refine j_get C in_M 18 rfl rfl 8 (by decide) tw_583 rfl (v := .ref (bd 6)) rfl d_M_mayGive_45 rfl ?_
        refine j_iload C 0 d_M_mayGive_48 rfl rfl ?_
        refine j_iald C 24 0 rfl hT d_M_mayGive_50 rfl h (fun r4 h => ?_)
        refine j_aload_n C 1 d_M_mayGive_51 rfl rfl rfl ?_
        refine j_get C in_M 18 rfl rfl 11 (by decide) tw_586 rfl (v := .ref (bd 9)) rfl d_M_mayGive_52 rfl ?_
        refine j_bipush (v := 10) C d_M_mayGive_55 rfl (by decide) ?_
        refine j_iload_n C 2 d_M_mayGive_57 rfl rfl rfl ?_
        refine j_imul C d_M_mayGive_58 rfl ?_
        refine j_iload_n C 4 d_M_mayGive_59 rfl rfl rfl ?_
        refine j_iadd C d_M_mayGive_60 rfl ?_
        refine j_iald C 27 0 rfl hT d_M_mayGive_61 rfl h (fun r5 h => ?_)
        refine j_icmp_ne (tgt := 78) C d_M_mayGive_62 (by decide) rfl h (fun h => ?_) (fun h => ?_)
        · refine j_iconst (v := 0) C d_M_mayGive_78 rfl (by decide) ?_
          cases h
          exact j_zret C E hr rfl d_M_mayGive_79
        · refine j_aload_n C 1 d_M_mayGive_65 rfl rfl rfl ?_
          refine j_iload_n C 2 d_M_mayGive_66 rfl rfl rfl ?_
          refine j_iload_n C 4 d_M_mayGive_67 rfl rfl rfl ?_
          obtain ⟨r6, h7, h⟩ := mb1_some h
          refine j_callV C hR (As := [.int a1, .int a3]) (ct_M_isOpen (jl x) (jD x) (jT x) hT a1 a3 σ h7) kf_M_isOpen (by decide) tw_658 tw_660 tw_35 18 rfl rfl (rest := []) rfl rfl (Nat.le_of_ble_eq_true rfl) (by decide) ⟨rfl, rfl⟩ d_M_mayGive_68 rfl (st1 := [.int r6]) rfl ?_
          refine j_if_eq (tgt := 78) C d_M_mayGive_71 (by decide) rfl h (fun h => ?_) (fun h => ?_)
          · refine j_iconst (v := 0) C d_M_mayGive_78 rfl (by decide) ?_
            cases h
            exact j_zret C E hr rfl d_M_mayGive_79
          · refine j_iconst (v := 1) C d_M_mayGive_74 rfl (by decide) ?_
            refine j_goto (tgt := 79) C d_M_mayGive_75 (by decide) ?_
            cases h
            exact j_zret C E hr rfl d_M_mayGive_79
theorem ct_M_mayGive (l : Launch) (D : va_G) (tys : List (ClassId × FieldType)) {bd : Nat → Nat} {cA : ClassId} {ad : Nat → Nat} {σ0 : SP} {wr : va_W} (hT : tys[0]? = some (cA, .int)) (a1 : Int32) (a2 : Int32) (a3 : Int32) (σ : SM) {r : Int32} (h : m_M_mayGive a1 a2 a3 σ = some r) : jM l y_M_mayGive ws_M_mayGive rm_M_mayGive D tys [.ref (bd 0), .int a1, .int a2, .int a3] ((wP ad cA σ0) ++ ((wM bd cA σ) ++ wr)) (some (.int r)) ((wP ad cA σ0) ++ ((wM bd cA σ) ++ wr)) :=
  j_of (by decide +kernel) rfl (Nat.le_of_ble_eq_true rfl) rfl (fun x _ _ hT' hR C hr _ E => w_M_mayGive C (by rw [hT']; exact hT) hR a1 a2 a3 σ hr E h)
def rm_M_can : Room := { frames := 2, cells := 0, slots := 0, locals := 46 }
def m_M_can (a1 : Int32) (a2 : Int32) (a3 : Int32) (a4 : Int32) (σ : SM) : Option (Int32) :=
  (if a2 = 0 then (mrd 1240 (g_mpl σ) (((20 : Int32) * a1) + a3) fun r7 => (if r7 = (-1 : Int32) then some (1 : Int32) else some (0 : Int32))) else (if a2 = (1 : Int32) then (mrd 1240 (g_mpl σ) (((20 : Int32) * a1) + a3) fun r6 => (if r6 = (-1 : Int32) then some (0 : Int32) else some (1 : Int32))) else (if a2 = (2 : Int32) then (mb1 (m_M_mayGo a1 a3 σ) fun r4 => (mzr r4 (some r4))) else (if a2 = (3 : Int32) then (mrd 620 (g_mwa σ) (((10 : Int32) * a1) + a3) fun r3 => (if r3 = 0 then some (1 : Int32) else some (0 : Int32))) else (if a2 = (4 : Int32) then (mb1 (m_M_mayGive a1 a3 a4 σ) fun r1 => (mzr r1 (some r1))) else (if a2 = (5 : Int32) then some (1 : Int32) else (if a3 = a4 then some (0 : Int32) else some (1 : Int32))))))))
set_option maxHeartbeats 4000000 in
set_option maxRecDepth 100000 in
theorem w_M_can {x : JX} {bd : Nat → Nat} {cA : ClassId} {ad : Nat → Nat} {σ0 : SP} {wr : va_W} (C : jC x cc_M_can 5 "PlainWarehouseModel") (hT : (jT x)[0]? = some (cA, .int)) (hR : jR x = rm_M_can)  (a1 : Int32) (a2 : Int32) (a3 : Int32) (a4 : Int32) (σ : SM) {r : Int32} (hr : (jt x).sig.returnType = some .boolean) (E : jE x 0 0 (some (.int r)) ((wP ad cA σ0) ++ ((wM bd cA σ) ++ wr))) (h : m_M_can a1 a2 a3 a4 σ = some r) : jW x 5 0 0 0 [(0, .ref (bd 0)), (1, .int a1), (2, .int a2), (3, .int a3), (4, .int a4)] [] ((wP ad cA σ0) ++ ((wM bd cA σ) ++ wr)) := by
  unfold m_M_can at h
  refine j_iload_n C 2 d_M_can_0 rfl rfl rfl ?_
  refine j_if_ne (tgt := 25) C d_M_can_1 (by decide) rfl h (fun h => ?_) (fun h => ?_)
  · refine j_iload_n C 2 d_M_can_25 rfl rfl rfl ?_
    refine j_iconst (v := 1) C d_M_can_26 rfl (by decide) ?_
    refine j_icmp_ne (tgt := 51) C d_M_can_27 (by decide) rfl h (fun h => ?_) (fun h => ?_)
    · refine j_iload_n C 2 d_M_can_51 rfl rfl rfl ?_
      refine j_iconst (v := 2) C d_M_can_52 rfl (by decide) ?_
      refine j_icmp_ne (tgt := 63) C d_M_can_53 (by decide) rfl h (fun h => ?_) (fun h => ?_)
      · refine j_iload_n C 2 d_M_can_63 rfl rfl rfl ?_
        refine j_iconst (v := 3) C d_M_can_64 rfl (by decide) ?_
        refine j_icmp_ne (tgt := 88) C d_M_can_65 (by decide) rfl h (fun h => ?_) (fun h => ?_)
        · refine j_iload_n C 2 d_M_can_88 rfl rfl rfl ?_
          refine j_iconst (v := 4) C d_M_can_89 rfl (by decide) ?_
          refine j_icmp_ne (tgt := 102) C d_M_can_90 (by decide) rfl h (fun h => ?_) (fun h => ?_)
          · refine j_iload_n C 2 d_M_can_102 rfl rfl rfl ?_
            refine j_iconst (v := 5) C d_M_can_103 rfl (by decide) ?_
            refine j_icmp_eq (tgt := 113) C d_M_can_104 (by decide) rfl h (fun h => ?_) (fun h => ?_)
            · refine j_iconst (v := 1) C d_M_can_113 rfl (by decide) ?_
              refine j_goto (tgt := 118) C d_M_can_114 (by decide) ?_
              cases h
              exact j_zret C E hr rfl d_M_can_118
            · refine j_iload_n C 3 d_M_can_107 rfl rfl rfl ?_
              refine j_iload C 4 d_M_can_108 rfl rfl ?_
              refine j_icmp_eq (tgt := 117) C d_M_can_110 (by decide) rfl h (fun h => ?_) (fun h => ?_)
              · refine j_iconst (v := 0) C d_M_can_117 rfl (by decide) ?_
                cases h
                exact j_zret C E hr rfl d_M_can_118
              · refine j_iconst (v := 1) C d_M_can_113 rfl (by decide) ?_
                refine j_goto (tgt := 118) C d_M_can_114 (by decide) ?_
                cases h
                exact j_zret C E hr rfl d_M_can_118
          · refine j_aload_n C 0 d_M_can_93 rfl rfl rfl ?_
            refine j_iload_n C 1 d_M_can_94 rfl rfl rfl ?_
            refine j_iload_n C 3 d_M_can_95 rfl rfl rfl ?_
            refine j_iload C 4 d_M_can_96 rfl rfl ?_
            obtain ⟨r1, h2, h⟩ := mb1_some h
            refine j_callV C hR (As := [.int a1, .int a3, .int a4]) (ct_M_mayGive (jl x) (jD x) (jT x) hT a1 a3 a4 σ h2) kf_M_mayGive (by decide) tw_662 tw_664 tw_36 18 rfl rfl (rest := []) rfl rfl (Nat.le_of_ble_eq_true rfl) (by decide) ⟨rfl, rfl⟩ d_M_can_98 rfl (st1 := [.int r1]) rfl ?_
            obtain ⟨hz, h⟩ := mzr_some h
            cases h
            exact j_zret C E hr hz d_M_can_101
        · refine j_aload_n C 0 d_M_can_68 rfl rfl rfl ?_
          refine j_get C in_M 18 rfl rfl 10 (by decide) tw_585 rfl (v := .ref (bd 8)) rfl d_M_can_69 rfl ?_
          refine j_bipush (v := 10) C d_M_can_72 rfl (by decide) ?_
          refine j_iload_n C 1 d_M_can_74 rfl rfl rfl ?_
          refine j_imul C d_M_can_75 rfl ?_
          refine j_iload_n C 3 d_M_can_76 rfl rfl rfl ?_
          refine j_iadd C d_M_can_77 rfl ?_
          refine j_iald C 26 0 rfl hT d_M_can_78 rfl h (fun r3 h => ?_)
          refine j_if_ne (tgt := 86) C d_M_can_79 (by decide) rfl h (fun h => ?_) (fun h => ?_)
          · refine j_iconst (v := 0) C d_M_can_86 rfl (by decide) ?_
            cases h
            exact j_zret C E hr rfl d_M_can_87
          · refine j_iconst (v := 1) C d_M_can_82 rfl (by decide) ?_
            refine j_goto (tgt := 87) C d_M_can_83 (by decide) ?_
            cases h
            exact j_zret C E hr rfl d_M_can_87
      · refine j_aload_n C 0 d_M_can_56 rfl rfl rfl ?_
        refine j_iload_n C 1 d_M_can_57 rfl rfl rfl ?_
        refine j_iload_n C 3 d_M_can_58 rfl rfl rfl ?_
        obtain ⟨r4, h5, h⟩ := mb1_some h
        refine j_callV C hR (As := [.int a1, .int a3]) (ct_M_mayGo (jl x) (jD x) (jT x) hT a1 a3 σ h5) kf_M_mayGo (by decide) tw_654 tw_656 tw_34 18 rfl rfl (rest := []) rfl rfl (Nat.le_of_ble_eq_true rfl) (by decide) ⟨rfl, rfl⟩ d_M_can_59 rfl (st1 := [.int r4]) rfl ?_
        obtain ⟨hz, h⟩ := mzr_some h
        cases h
        exact j_zret C E hr hz d_M_can_62
    · refine j_aload_n C 0 d_M_can_30 rfl rfl rfl ?_
      refine j_get C in_M 18 rfl rfl 7 (by decide) tw_582 rfl (v := .ref (bd 5)) rfl d_M_can_31 rfl ?_
      refine j_bipush (v := 20) C d_M_can_34 rfl (by decide) ?_
      refine j_iload_n C 1 d_M_can_36 rfl rfl rfl ?_
      refine j_imul C d_M_can_37 rfl ?_
      refine j_iload_n C 3 d_M_can_38 rfl rfl rfl ?_
      refine j_iadd C d_M_can_39 rfl ?_
      refine j_iald C 23 0 rfl hT d_M_can_40 rfl h (fun r6 h => ?_)
      refine j_iconst (v := (-1)) C d_M_can_41 rfl (by decide) ?_
      refine j_icmp_eq (tgt := 49) C d_M_can_42 (by decide) rfl h (fun h => ?_) (fun h => ?_)
      · refine j_iconst (v := 0) C d_M_can_49 rfl (by decide) ?_
        cases h
        exact j_zret C E hr rfl d_M_can_50
      · refine j_iconst (v := 1) C d_M_can_45 rfl (by decide) ?_
        refine j_goto (tgt := 50) C d_M_can_46 (by decide) ?_
        cases h
        exact j_zret C E hr rfl d_M_can_50
  · refine j_aload_n C 0 d_M_can_4 rfl rfl rfl ?_
    refine j_get C in_M 18 rfl rfl 7 (by decide) tw_582 rfl (v := .ref (bd 5)) rfl d_M_can_5 rfl ?_
    refine j_bipush (v := 20) C d_M_can_8 rfl (by decide) ?_
    refine j_iload_n C 1 d_M_can_10 rfl rfl rfl ?_
    refine j_imul C d_M_can_11 rfl ?_
    refine j_iload_n C 3 d_M_can_12 rfl rfl rfl ?_
    refine j_iadd C d_M_can_13 rfl ?_
    refine j_iald C 23 0 rfl hT d_M_can_14 rfl h (fun r7 h => ?_)
    refine j_iconst (v := (-1)) C d_M_can_15 rfl (by decide) ?_
    refine j_icmp_ne (tgt := 23) C d_M_can_16 (by decide) rfl h (fun h => ?_) (fun h => ?_)
    · refine j_iconst (v := 0) C d_M_can_23 rfl (by decide) ?_
      cases h
      exact j_zret C E hr rfl d_M_can_24
    · refine j_iconst (v := 1) C d_M_can_19 rfl (by decide) ?_
      refine j_goto (tgt := 24) C d_M_can_20 (by decide) ?_
      cases h
      exact j_zret C E hr rfl d_M_can_24
theorem ct_M_can (l : Launch) (D : va_G) (tys : List (ClassId × FieldType)) {bd : Nat → Nat} {cA : ClassId} {ad : Nat → Nat} {σ0 : SP} {wr : va_W} (hT : tys[0]? = some (cA, .int)) (a1 : Int32) (a2 : Int32) (a3 : Int32) (a4 : Int32) (σ : SM) {r : Int32} (h : m_M_can a1 a2 a3 a4 σ = some r) : jM l y_M_can ws_M_can rm_M_can D tys [.ref (bd 0), .int a1, .int a2, .int a3, .int a4] ((wP ad cA σ0) ++ ((wM bd cA σ) ++ wr)) (some (.int r)) ((wP ad cA σ0) ++ ((wM bd cA σ) ++ wr)) :=
  j_of (by decide +kernel) rfl (Nat.le_of_ble_eq_true rfl) rfl (fun x _ _ hT' hR C hr _ E => w_M_can C (by rw [hT']; exact hT) hR a1 a2 a3 a4 σ hr E h)
