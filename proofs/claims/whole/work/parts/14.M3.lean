set_option maxRecDepth 100000 in
theorem tw_33 : Cond.selects "PlainWarehouseModel" (⟨"PlainWarehouseModel", "can", "(IIII)Z"⟩ : MethodName) (⟨"PlainWarehouseModel", "can", "(IIII)Z"⟩ : MethodName) ∈ WS := ws_in 33 rfl rfl
set_option maxRecDepth 100000 in
theorem tw_37 : Cond.selects "PlainWarehouseModel" (⟨"PlainWarehouseModel", "copy", "(II)V"⟩ : MethodName) (⟨"PlainWarehouseModel", "copy", "(II)V"⟩ : MethodName) ∈ WS := ws_in 37 rfl rfl
set_option maxRecDepth 100000 in
theorem tw_38 : Cond.selects "PlainWarehouseModel" (⟨"PlainWarehouseModel", "apply", "(IIIII)V"⟩ : MethodName) (⟨"PlainWarehouseModel", "apply", "(IIIII)V"⟩ : MethodName) ∈ WS := ws_in 38 rfl rfl
set_option maxRecDepth 100000 in
theorem tw_39 : Cond.selects "PlainWarehouseModel" (⟨"PlainWarehouseModel", "isOrder", "(I)Z"⟩ : MethodName) (⟨"PlainWarehouseModel", "isOrder", "(I)Z"⟩ : MethodName) ∈ WS := ws_in 39 rfl rfl
set_option maxRecDepth 100000 in
theorem tw_40 : Cond.selects "PlainWarehouseModel" (⟨"PlainWarehouseModel", "freeOf", "(I)I"⟩ : MethodName) (⟨"PlainWarehouseModel", "freeOf", "(I)I"⟩ : MethodName) ∈ WS := ws_in 40 rfl rfl
set_option maxRecDepth 100000 in
theorem tw_41 : Cond.selects "PlainWarehouseModel" (⟨"PlainWarehouseModel", "filled", "(II)I"⟩ : MethodName) (⟨"PlainWarehouseModel", "filled", "(II)I"⟩ : MethodName) ∈ WS := ws_in 41 rfl rfl
set_option maxRecDepth 100000 in
theorem tw_577 : Cond.fieldLink "PlainWarehouseModel" (90 : Nat) "PlainWarehouseModel" "refused" "I" ∈ WS := ws_in 577 rfl rfl
set_option maxRecDepth 100000 in
theorem tw_578 : Cond.fieldLink "PlainWarehouseModel" (7 : Nat) "PlainWarehouseModel" "kind" "[I" ∈ WS := ws_in 578 rfl rfl
set_option maxRecDepth 100000 in
theorem tw_579 : Cond.fieldLink "PlainWarehouseModel" (13 : Nat) "PlainWarehouseModel" "a" "[I" ∈ WS := ws_in 579 rfl rfl
set_option maxRecDepth 100000 in
theorem tw_580 : Cond.fieldLink "PlainWarehouseModel" (16 : Nat) "PlainWarehouseModel" "b" "[I" ∈ WS := ws_in 580 rfl rfl
set_option maxRecDepth 100000 in
theorem tw_581 : Cond.fieldLink "PlainWarehouseModel" (19 : Nat) "PlainWarehouseModel" "c" "[I" ∈ WS := ws_in 581 rfl rfl
set_option maxRecDepth 100000 in
theorem tw_638 : Cond.methodLink "PlainWarehouseModel" (83 : Nat) ({ cls := "PlainWarehouseModel", name := "isSaid", desc := "(IIII)Z" } : MethodName) ∈ WS := ws_in 638 rfl rfl
set_option maxRecDepth 100000 in
theorem tw_639 : Cond.static ({ cls := "PlainWarehouseModel", name := "isSaid", desc := "(IIII)Z" } : MethodName) ∈ WS := ws_in 639 rfl rfl
set_option maxRecDepth 100000 in
theorem tw_650 : Cond.methodLink "PlainWarehouseModel" (87 : Nat) ({ cls := "PlainWarehouseModel", name := "can", desc := "(IIII)Z" } : MethodName) ∈ WS := ws_in 650 rfl rfl
set_option maxRecDepth 100000 in
theorem tw_652 : Cond.instanceMethod ({ cls := "PlainWarehouseModel", name := "can", desc := "(IIII)Z" } : MethodName) ∈ WS := ws_in 652 rfl rfl
set_option maxRecDepth 100000 in
theorem tw_666 : Cond.methodLink "PlainWarehouseModel" (93 : Nat) ({ cls := "PlainWarehouseModel", name := "copy", desc := "(II)V" } : MethodName) ∈ WS := ws_in 666 rfl rfl
set_option maxRecDepth 100000 in
theorem tw_668 : Cond.instanceMethod ({ cls := "PlainWarehouseModel", name := "copy", desc := "(II)V" } : MethodName) ∈ WS := ws_in 668 rfl rfl
set_option maxRecDepth 100000 in
theorem tw_670 : Cond.methodLink "PlainWarehouseModel" (97 : Nat) ({ cls := "PlainWarehouseModel", name := "apply", desc := "(IIIII)V" } : MethodName) ∈ WS := ws_in 670 rfl rfl
set_option maxRecDepth 100000 in
theorem tw_672 : Cond.instanceMethod ({ cls := "PlainWarehouseModel", name := "apply", desc := "(IIIII)V" } : MethodName) ∈ WS := ws_in 672 rfl rfl
set_option maxRecDepth 100000 in
theorem tw_694 : Cond.methodLink "PlainWarehouseModel" (101 : Nat) ({ cls := "PlainWarehouseModel", name := "isOrder", desc := "(I)Z" } : MethodName) ∈ WS := ws_in 694 rfl rfl
set_option maxRecDepth 100000 in
theorem tw_696 : Cond.instanceMethod ({ cls := "PlainWarehouseModel", name := "isOrder", desc := "(I)Z" } : MethodName) ∈ WS := ws_in 696 rfl rfl
set_option maxRecDepth 100000 in
theorem tw_698 : Cond.methodLink "PlainWarehouseModel" (104 : Nat) ({ cls := "PlainWarehouseModel", name := "freeOf", desc := "(I)I" } : MethodName) ∈ WS := ws_in 698 rfl rfl
set_option maxRecDepth 100000 in
theorem tw_700 : Cond.instanceMethod ({ cls := "PlainWarehouseModel", name := "freeOf", desc := "(I)I" } : MethodName) ∈ WS := ws_in 700 rfl rfl
set_option maxRecDepth 100000 in
theorem tw_706 : Cond.methodLink "PlainWarehouseModel" (108 : Nat) ({ cls := "PlainWarehouseModel", name := "filled", desc := "(II)I" } : MethodName) ∈ WS := ws_in 706 rfl rfl
set_option maxRecDepth 100000 in
theorem tw_708 : Cond.instanceMethod ({ cls := "PlainWarehouseModel", name := "filled", desc := "(II)I" } : MethodName) ∈ WS := ws_in 708 rfl rfl
def rm_M_event : Room := { frames := 3, cells := 0, slots := 0, locals := 70 }
def k_M_event_30 (p1 : Int32) (p2 : Int32) (p3 : Int32) (p4 : Int32) (s0 : Int32) (σ : SM) : Option (Int32 × SM) :=
  (mlet (u_mcode σ s0) fun σ3 => (if (g_mcode σ3) ≤ 0 then (mb1 (m_M_can (g_mev σ3) p1 p2 p3 σ3) fun r4 => (if r4 = 0 then (mlet (u_mrf σ3 ((g_mrf σ3) + (1 : Int32))) fun σ15 => some ((0 : Int32), σ15)) else (mck 60 (g_mev σ3) (mlet (u_mkd σ3 (upd (g_mkd σ3) (g_mev σ3).toNatClampNeg p1)) fun σ6 => (mck 60 (g_mev σ6) (mlet (u_mxa σ6 (upd (g_mxa σ6) (g_mev σ6).toNatClampNeg p2)) fun σ7 => (mck 60 (g_mev σ7) (mlet (u_mxb σ7 (upd (g_mxb σ7) (g_mev σ7).toNatClampNeg p3)) fun σ8 => (mck 60 (g_mev σ8) (mlet (u_mxc σ8 (upd (g_mxc σ8) (g_mev σ8).toNatClampNeg p4)) fun σ9 => (mb1 (m_M_copy (g_mev σ9) ((g_mev σ9) + (1 : Int32)) σ9) fun σ10 => (mlet (u_mev σ10 ((g_mev σ10) + (1 : Int32))) fun σ12 => (mb1 (m_M_apply (g_mev σ12) p1 p2 p3 p4 σ12) fun σ13 => some ((1 : Int32), σ13)))))))))))))) else some ((0 : Int32), σ3)))
def m_M_event (a1 : Int32) (a2 : Int32) (a3 : Int32) (a4 : Int32) (σ : SM) : Option (Int32 × SM) :=
  (mb1 (m_M_isSaid a1 a2 a3 a4) fun r1 => (if r1 = 0 then (k_M_event_30 a1 a2 a3 a4 (1 : Int32) σ) else (if (g_mev σ) = (60 : Int32) then (k_M_event_30 a1 a2 a3 a4 (2 : Int32) σ) else (k_M_event_30 a1 a2 a3 a4 (0 : Int32) σ))))
set_option maxHeartbeats 4000000 in
set_option maxRecDepth 100000 in
theorem wk_M_event_30 {x : JX} {bd : Nat → Nat} {cA : ClassId} {ad : Nat → Nat} {σ0 : SP} {wr : va_W} (C : jC x cc_M_event 5 "PlainWarehouseModel") (hT : (jT x)[0]? = some (cA, .int)) (hR : jR x = rm_M_event)  (p1 : Int32) (p2 : Int32) (p3 : Int32) (p4 : Int32) (s0 : Int32) (σ : SM) {r : Int32} {σ' : SM} (hr : (jt x).sig.returnType = some .int) (E : jE x 0 0 (some (.int r)) ((wP ad cA σ0) ++ ((wM bd cA σ') ++ wr))) (h : k_M_event_30 p1 p2 p3 p4 s0 σ = some (r, σ')) : jW x 5 0 0 30 [(0, .ref (bd 0)), (1, .int p1), (2, .int p2), (3, .int p3), (4, .int p4)] [.int s0, .ref (bd 0)] ((wP ad cA σ0) ++ ((wM bd cA σ) ++ wr)) := by
  unfold k_M_event_30 at h
  refine j_put C in_M ty_M_ok nm_M 18 rfl rfl 0 (by decide) tw_575 rfl rfl rfl (Nat.le_of_ble_eq_true rfl) (fun t => (wP ad cA σ0) ++ ((wM bd cA t) ++ wr)) d_M_event_30 rfl h rfl (fun σ3 h => ?_)
  refine j_aload_n C 0 d_M_event_33 rfl rfl rfl ?_
  refine j_get C in_M 18 rfl rfl 0 (by decide) tw_575 rfl (v := .int (g_mcode σ3)) rfl d_M_event_34 rfl ?_
  refine j_if_le (tgt := 42) C d_M_event_37 (by decide) rfl h (fun h => ?_) (fun h => ?_)
  · refine j_aload_n C 0 d_M_event_42 rfl rfl rfl ?_
    refine j_aload_n C 0 d_M_event_43 rfl rfl rfl ?_
    refine j_get C in_M 18 rfl rfl 1 (by decide) tw_576 rfl (v := .int (g_mev σ3)) rfl d_M_event_44 rfl ?_
    refine j_iload_n C 1 d_M_event_47 rfl rfl rfl ?_
    refine j_iload_n C 2 d_M_event_48 rfl rfl rfl ?_
    refine j_iload_n C 3 d_M_event_49 rfl rfl rfl ?_
    obtain ⟨r4, h5, h⟩ := mb1_some h
    refine j_callV C hR (As := [.int (g_mev σ3), .int p1, .int p2, .int p3]) (ct_M_can (jl x) (jD x) (jT x) hT (g_mev σ3) p1 p2 p3 σ3 h5) kf_M_can (by decide) tw_650 tw_652 tw_33 18 rfl rfl (rest := []) rfl rfl (Nat.le_of_ble_eq_true rfl) (by decide) ⟨rfl, rfl⟩ d_M_event_50 rfl (st1 := [.int r4]) rfl ?_
    refine j_if_ne (tgt := 68) C d_M_event_53 (by decide) rfl h (fun h => ?_) (fun h => ?_)
    · refine j_aload_n C 0 d_M_event_68 rfl rfl rfl ?_
      refine j_get C in_M 18 rfl rfl 3 (by decide) tw_578 rfl (v := .ref (bd 1)) rfl d_M_event_69 rfl ?_
      refine j_aload_n C 0 d_M_event_72 rfl rfl rfl ?_
      refine j_get C in_M 18 rfl rfl 1 (by decide) tw_576 rfl (v := .int (g_mev σ3)) rfl d_M_event_73 rfl ?_
      refine j_iload_n C 1 d_M_event_76 rfl rfl rfl ?_
      refine j_iast C (fun t => (wP ad cA σ0) ++ ((wM bd cA t) ++ wr)) 19 0 rfl hT d_M_event_77 rfl h rfl (fun σ6 h => ?_)
      refine j_aload_n C 0 d_M_event_78 rfl rfl rfl ?_
      refine j_get C in_M 18 rfl rfl 4 (by decide) tw_579 rfl (v := .ref (bd 2)) rfl d_M_event_79 rfl ?_
      refine j_aload_n C 0 d_M_event_82 rfl rfl rfl ?_
      refine j_get C in_M 18 rfl rfl 1 (by decide) tw_576 rfl (v := .int (g_mev σ6)) rfl d_M_event_83 rfl ?_
      refine j_iload_n C 2 d_M_event_86 rfl rfl rfl ?_
      refine j_iast C (fun t => (wP ad cA σ0) ++ ((wM bd cA t) ++ wr)) 20 0 rfl hT d_M_event_87 rfl h rfl (fun σ7 h => ?_)
      refine j_aload_n C 0 d_M_event_88 rfl rfl rfl ?_
      refine j_get C in_M 18 rfl rfl 5 (by decide) tw_580 rfl (v := .ref (bd 3)) rfl d_M_event_89 rfl ?_
      refine j_aload_n C 0 d_M_event_92 rfl rfl rfl ?_
      refine j_get C in_M 18 rfl rfl 1 (by decide) tw_576 rfl (v := .int (g_mev σ7)) rfl d_M_event_93 rfl ?_
      refine j_iload_n C 3 d_M_event_96 rfl rfl rfl ?_
      refine j_iast C (fun t => (wP ad cA σ0) ++ ((wM bd cA t) ++ wr)) 21 0 rfl hT d_M_event_97 rfl h rfl (fun σ8 h => ?_)
      refine j_aload_n C 0 d_M_event_98 rfl rfl rfl ?_
      refine j_get C in_M 18 rfl rfl 6 (by decide) tw_581 rfl (v := .ref (bd 4)) rfl d_M_event_99 rfl ?_
      refine j_aload_n C 0 d_M_event_102 rfl rfl rfl ?_
      refine j_get C in_M 18 rfl rfl 1 (by decide) tw_576 rfl (v := .int (g_mev σ8)) rfl d_M_event_103 rfl ?_
      refine j_iload C 4 d_M_event_106 rfl rfl ?_
      refine j_iast C (fun t => (wP ad cA σ0) ++ ((wM bd cA t) ++ wr)) 22 0 rfl hT d_M_event_108 rfl h rfl (fun σ9 h => ?_)
      refine j_aload_n C 0 d_M_event_109 rfl rfl rfl ?_
      refine j_aload_n C 0 d_M_event_110 rfl rfl rfl ?_
      refine j_get C in_M 18 rfl rfl 1 (by decide) tw_576 rfl (v := .int (g_mev σ9)) rfl d_M_event_111 rfl ?_
      refine j_aload_n C 0 d_M_event_114 rfl rfl rfl ?_
      refine j_get C in_M 18 rfl rfl 1 (by decide) tw_576 rfl (v := .int (g_mev σ9)) rfl d_M_event_115 rfl ?_
      refine j_iconst (v := 1) C d_M_event_118 rfl (by decide) ?_
      refine j_iadd C d_M_event_119 rfl ?_
      obtain ⟨σ10, h11, h⟩ := mb1_some h
      refine j_callV C hR (As := [.int (g_mev σ9), .int ((g_mev σ9) + (1 : Int32))]) (ct_M_copy (jl x) (jD x) (jT x) hT (g_mev σ9) ((g_mev σ9) + (1 : Int32)) σ9 h11) kf_M_copy (by decide) tw_666 tw_668 tw_37 18 rfl rfl (rest := []) rfl rfl (Nat.le_of_ble_eq_true rfl) (by decide) ⟨rfl, rfl⟩ d_M_event_120 rfl (st1 := []) rfl ?_
      refine j_aload_n C 0 d_M_event_123 rfl rfl rfl ?_
      refine j_dup C d_M_event_124 rfl rfl ?_
      refine j_get C in_M 18 rfl rfl 1 (by decide) tw_576 rfl (v := .int (g_mev σ10)) rfl d_M_event_125 rfl ?_
      refine j_iconst (v := 1) C d_M_event_128 rfl (by decide) ?_
      refine j_iadd C d_M_event_129 rfl ?_
      refine j_put C in_M ty_M_ok nm_M 18 rfl rfl 1 (by decide) tw_576 rfl rfl rfl (Nat.le_of_ble_eq_true rfl) (fun t => (wP ad cA σ0) ++ ((wM bd cA t) ++ wr)) d_M_event_130 rfl h rfl (fun σ12 h => ?_)
      refine j_aload_n C 0 d_M_event_133 rfl rfl rfl ?_
      refine j_aload_n C 0 d_M_event_134 rfl rfl rfl ?_
      refine j_get C in_M 18 rfl rfl 1 (by decide) tw_576 rfl (v := .int (g_mev σ12)) rfl d_M_event_135 rfl ?_
      refine j_iload_n C 1 d_M_event_138 rfl rfl rfl ?_
      refine j_iload_n C 2 d_M_event_139 rfl rfl rfl ?_
      refine j_iload_n C 3 d_M_event_140 rfl rfl rfl ?_
      refine j_iload C 4 d_M_event_141 rfl rfl ?_
      obtain ⟨σ13, h14, h⟩ := mb1_some h
      refine j_callV C hR (As := [.int (g_mev σ12), .int p1, .int p2, .int p3, .int p4]) (ct_M_apply (jl x) (jD x) (jT x) hT (g_mev σ12) p1 p2 p3 p4 σ12 h14) kf_M_apply (by decide) tw_670 tw_672 tw_38 18 rfl rfl (rest := []) rfl rfl (Nat.le_of_ble_eq_true rfl) (by decide) ⟨rfl, rfl⟩ d_M_event_143 rfl (st1 := []) rfl ?_
      refine j_iconst (v := 1) C d_M_event_146 rfl (by decide) ?_
      cases h
      exact j_iret C E hr d_M_event_147
    · refine j_aload_n C 0 d_M_event_56 rfl rfl rfl ?_
      refine j_dup C d_M_event_57 rfl rfl ?_
      refine j_get C in_M 18 rfl rfl 2 (by decide) tw_577 rfl (v := .int (g_mrf σ3)) rfl d_M_event_58 rfl ?_
      refine j_iconst (v := 1) C d_M_event_61 rfl (by decide) ?_
      refine j_iadd C d_M_event_62 rfl ?_
      refine j_put C in_M ty_M_ok nm_M 18 rfl rfl 2 (by decide) tw_577 rfl rfl rfl (Nat.le_of_ble_eq_true rfl) (fun t => (wP ad cA σ0) ++ ((wM bd cA t) ++ wr)) d_M_event_63 rfl h rfl (fun σ15 h => ?_)
      refine j_iconst (v := 0) C d_M_event_66 rfl (by decide) ?_
      cases h
      exact j_iret C E hr d_M_event_67
  · refine j_iconst (v := 0) C d_M_event_40 rfl (by decide) ?_
    cases h
    exact j_iret C E hr d_M_event_41
set_option maxHeartbeats 4000000 in
set_option maxRecDepth 100000 in
theorem w_M_event {x : JX} {bd : Nat → Nat} {cA : ClassId} {ad : Nat → Nat} {σ0 : SP} {wr : va_W} (C : jC x cc_M_event 5 "PlainWarehouseModel") (hT : (jT x)[0]? = some (cA, .int)) (hR : jR x = rm_M_event)  (a1 : Int32) (a2 : Int32) (a3 : Int32) (a4 : Int32) (σ : SM) {r : Int32} {σ' : SM} (hr : (jt x).sig.returnType = some .int) (E : jE x 0 0 (some (.int r)) ((wP ad cA σ0) ++ ((wM bd cA σ') ++ wr))) (h : m_M_event a1 a2 a3 a4 σ = some (r, σ')) : jW x 5 0 0 0 [(0, .ref (bd 0)), (1, .int a1), (2, .int a2), (3, .int a3), (4, .int a4)] [] ((wP ad cA σ0) ++ ((wM bd cA σ) ++ wr)) := by
  unfold m_M_event at h
  refine j_aload_n C 0 d_M_event_0 rfl rfl rfl ?_
  refine j_iload_n C 1 d_M_event_1 rfl rfl rfl ?_
  refine j_iload_n C 2 d_M_event_2 rfl rfl rfl ?_
  refine j_iload_n C 3 d_M_event_3 rfl rfl rfl ?_
  refine j_iload C 4 d_M_event_4 rfl rfl ?_
  obtain ⟨r1, h2, h⟩ := mb1_some h
  refine j_callS C hR (As := [.int a1, .int a2, .int a3, .int a4]) (ct_M_isSaid (jl x) (jD x) (jT x) a1 a2 a3 a4 h2) kf_M_isSaid (by decide) tw_638 tw_639 (rest := [.ref (bd 0)]) rfl rfl (Nat.le_of_ble_eq_true rfl) (by decide) ⟨rfl, rfl⟩ d_M_event_6 rfl (st1 := [.int r1, .ref (bd 0)]) rfl ?_
  refine j_if_ne (tgt := 16) C d_M_event_9 (by decide) rfl h (fun h => ?_) (fun h => ?_)
  · refine j_aload_n C 0 d_M_event_16 rfl rfl rfl ?_
    refine j_get C in_M 18 rfl rfl 1 (by decide) tw_576 rfl (v := .int (g_mev σ)) rfl d_M_event_17 rfl ?_
    refine j_bipush (v := 60) C d_M_event_20 rfl (by decide) ?_
    refine j_icmp_ne (tgt := 29) C d_M_event_22 (by decide) rfl h (fun h => ?_) (fun h => ?_)
    · refine j_iconst (v := 0) C d_M_event_29 rfl (by decide) ?_
      exact j_sub [0, 1, 2, 3, 4] rfl (wk_M_event_30 C hT hR a1 a2 a3 a4 (0 : Int32) σ hr E h)
    · refine j_iconst (v := 2) C d_M_event_25 rfl (by decide) ?_
      refine j_goto (tgt := 30) C d_M_event_26 (by decide) ?_
      exact j_sub [0, 1, 2, 3, 4] rfl (wk_M_event_30 C hT hR a1 a2 a3 a4 (2 : Int32) σ hr E h)
  · refine j_iconst (v := 1) C d_M_event_12 rfl (by decide) ?_
    refine j_goto (tgt := 30) C d_M_event_13 (by decide) ?_
    exact j_sub [0, 1, 2, 3, 4] rfl (wk_M_event_30 C hT hR a1 a2 a3 a4 (1 : Int32) σ hr E h)
theorem ct_M_event (l : Launch) (D : va_G) (tys : List (ClassId × FieldType)) {bd : Nat → Nat} {cA : ClassId} {ad : Nat → Nat} {σ0 : SP} {wr : va_W} (hT : tys[0]? = some (cA, .int)) (a1 : Int32) (a2 : Int32) (a3 : Int32) (a4 : Int32) (σ : SM) {r : Int32} {σ' : SM} (h : m_M_event a1 a2 a3 a4 σ = some (r, σ')) : jM l y_M_event ws_M_event rm_M_event D tys [.ref (bd 0), .int a1, .int a2, .int a3, .int a4] ((wP ad cA σ0) ++ ((wM bd cA σ) ++ wr)) (some (.int r)) ((wP ad cA σ0) ++ ((wM bd cA σ') ++ wr)) :=
  j_of (by decide +kernel) rfl (Nat.le_of_ble_eq_true rfl) rfl (fun x _ _ hT' hR C hr _ E => w_M_event C (by rw [hT']; exact hT) hR a1 a2 a3 a4 σ hr E h)
def rm_M_back : Room := { frames := 0, cells := 0, slots := 0, locals := 0 }
def k_M_back_13 (s0 : Int32) (σ : SM) : Option (SM) :=
  (mlet (u_mcode σ s0) fun σ1 => (if (g_mcode σ1) = 0 then (mlet (u_mev σ1 ((g_mev σ1) - (1 : Int32))) fun σ2 => some σ2) else some σ1))
def m_M_back (σ : SM) : Option (SM) :=
  (if (g_mev σ) = 0 then (k_M_back_13 (1 : Int32) σ) else (k_M_back_13 (0 : Int32) σ))
set_option maxHeartbeats 4000000 in
set_option maxRecDepth 100000 in
theorem wk_M_back_13 {x : JX} {bd : Nat → Nat} {cA : ClassId} {ad : Nat → Nat} {σ0 : SP} {wr : va_W} (C : jC x cc_M_back 1 "PlainWarehouseModel") (hT : (jT x)[0]? = some (cA, .int)) (hR : jR x = rm_M_back)  (s0 : Int32) (σ : SM) {σ' : SM} (hr : (jt x).sig.returnType = none) (E : jE x 0 0 none ((wP ad cA σ0) ++ ((wM bd cA σ') ++ wr))) (h : k_M_back_13 s0 σ = some σ') : jW x 1 0 0 13 [(0, .ref (bd 0))] [.int s0, .ref (bd 0)] ((wP ad cA σ0) ++ ((wM bd cA σ) ++ wr)) := by
  unfold k_M_back_13 at h
  refine j_put C in_M ty_M_ok nm_M 18 rfl rfl 0 (by decide) tw_575 rfl rfl rfl (Nat.le_of_ble_eq_true rfl) (fun t => (wP ad cA σ0) ++ ((wM bd cA t) ++ wr)) d_M_back_13 rfl h rfl (fun σ1 h => ?_)
  refine j_aload_n C 0 d_M_back_16 rfl rfl rfl ?_
  refine j_get C in_M 18 rfl rfl 0 (by decide) tw_575 rfl (v := .int (g_mcode σ1)) rfl d_M_back_17 rfl ?_
  refine j_if_ne (tgt := 33) C d_M_back_20 (by decide) rfl h (fun h => ?_) (fun h => ?_)
  · cases h
    exact j_vret C E hr d_M_back_33
  · refine j_aload_n C 0 d_M_back_23 rfl rfl rfl ?_
    refine j_dup C d_M_back_24 rfl rfl ?_
    refine j_get C in_M 18 rfl rfl 1 (by decide) tw_576 rfl (v := .int (g_mev σ1)) rfl d_M_back_25 rfl ?_
    refine j_iconst (v := 1) C d_M_back_28 rfl (by decide) ?_
    refine j_isub C d_M_back_29 rfl ?_
    refine j_put C in_M ty_M_ok nm_M 18 rfl rfl 1 (by decide) tw_576 rfl rfl rfl (Nat.le_of_ble_eq_true rfl) (fun t => (wP ad cA σ0) ++ ((wM bd cA t) ++ wr)) d_M_back_30 rfl h rfl (fun σ2 h => ?_)
    cases h
    exact j_vret C E hr d_M_back_33
set_option maxHeartbeats 4000000 in
set_option maxRecDepth 100000 in
theorem w_M_back {x : JX} {bd : Nat → Nat} {cA : ClassId} {ad : Nat → Nat} {σ0 : SP} {wr : va_W} (C : jC x cc_M_back 1 "PlainWarehouseModel") (hT : (jT x)[0]? = some (cA, .int)) (hR : jR x = rm_M_back)  (σ : SM) {σ' : SM} (hr : (jt x).sig.returnType = none) (E : jE x 0 0 none ((wP ad cA σ0) ++ ((wM bd cA σ') ++ wr))) (h : m_M_back σ = some σ') : jW x 1 0 0 0 [(0, .ref (bd 0))] [] ((wP ad cA σ0) ++ ((wM bd cA σ) ++ wr)) := by
  unfold m_M_back at h
  refine j_aload_n C 0 d_M_back_0 rfl rfl rfl ?_
  refine j_aload_n C 0 d_M_back_1 rfl rfl rfl ?_
  refine j_get C in_M 18 rfl rfl 1 (by decide) tw_576 rfl (v := .int (g_mev σ)) rfl d_M_back_2 rfl ?_
  refine j_if_ne (tgt := 12) C d_M_back_5 (by decide) rfl h (fun h => ?_) (fun h => ?_)
  · refine j_iconst (v := 0) C d_M_back_12 rfl (by decide) ?_
    exact j_sub [0] rfl (wk_M_back_13 C hT hR (0 : Int32) σ hr E h)
  · refine j_iconst (v := 1) C d_M_back_8 rfl (by decide) ?_
    refine j_goto (tgt := 13) C d_M_back_9 (by decide) ?_
    exact j_sub [0] rfl (wk_M_back_13 C hT hR (1 : Int32) σ hr E h)
theorem ct_M_back (l : Launch) (D : va_G) (tys : List (ClassId × FieldType)) {bd : Nat → Nat} {cA : ClassId} {ad : Nat → Nat} {σ0 : SP} {wr : va_W} (hT : tys[0]? = some (cA, .int)) (σ : SM) {σ' : SM} (h : m_M_back σ = some σ') : jM l y_M_back ws_M_back rm_M_back D tys [.ref (bd 0)] ((wP ad cA σ0) ++ ((wM bd cA σ) ++ wr)) none ((wP ad cA σ0) ++ ((wM bd cA σ') ++ wr)) :=
  j_of (by decide +kernel) rfl (Nat.le_of_ble_eq_true rfl) rfl (fun x _ _ hT' hR C hr _ E => w_M_back C (by rw [hT']; exact hT) hR σ hr E h)
def rm_M_stock : Room := { frames := 1, cells := 0, slots := 0, locals := 22 }
def b_M_stock_33 (c1 : Int32) (c2 : Int32) (σ : SM) (v3 : Int32) (v4 : Int32) : Option ((Int32 × Int32) ⊕ (Int32 × Int32)) :=
  (if (20 : Int32) ≤ v4 then some (.inr (v3, v4)) else (if (g_mcode σ) = 0 then (mrd 1240 (g_mpl σ) (((20 : Int32) * (g_mev σ)) + v4) fun r4 => (if r4 = (-1 : Int32) then some (.inl ((v3 + (0 : Int32)), (v4 + 1))) else (if c1 < 0 then (if c2 < 0 then some (.inl ((v3 + (1 : Int32)), (v4 + 1))) else (mrd 1240 (g_mgd σ) (((20 : Int32) * (g_mev σ)) + v4) fun r5 => (if r5 = c2 then some (.inl ((v3 + (1 : Int32)), (v4 + 1))) else some (.inl ((v3 + (0 : Int32)), (v4 + 1)))))) else (if r4 = c1 then (if c2 < 0 then some (.inl ((v3 + (1 : Int32)), (v4 + 1))) else (mrd 1240 (g_mgd σ) (((20 : Int32) * (g_mev σ)) + v4) fun r6 => (if r6 = c2 then some (.inl ((v3 + (1 : Int32)), (v4 + 1))) else some (.inl ((v3 + (0 : Int32)), (v4 + 1)))))) else some (.inl ((v3 + (0 : Int32)), (v4 + 1))))))) else some (.inr (v3, v4))))
def k_M_stock_25 (p1 : Int32) (p2 : Int32) (s0 : Int32) (σ : SM) : Option (Int32 × SM) :=
  (mlet (u_mcode σ s0) fun σ3 => (mb2 (lp (fun s => b_M_stock_33 p1 p2 σ3 s.1 s.2) FU ((0 : Int32), (0 : Int32))) fun w7 w8 => some (w7, σ3)))
def k_M_stock_20 (p1 : Int32) (p2 : Int32) (σ : SM) : Option (Int32 × SM) :=
  (k_M_stock_25 p1 p2 (1 : Int32) σ)
def m_M_stock (a1 : Int32) (a2 : Int32) (σ : SM) : Option (Int32 × SM) :=
  (mb1 (m_M_in a1 (-1 : Int32) (9 : Int32)) fun r1 => (if r1 = 0 then (k_M_stock_20 a1 a2 σ) else (mb1 (m_M_in a2 (-1 : Int32) (5 : Int32)) fun r10 => (if r10 = 0 then (k_M_stock_20 a1 a2 σ) else (k_M_stock_25 a1 a2 (0 : Int32) σ)))))
set_option maxHeartbeats 4000000 in
set_option maxRecDepth 100000 in
theorem wb_M_stock_33 {x : JX} {bd : Nat → Nat} {cA : ClassId} {ad : Nat → Nat} {σ0 : SP} {wr : va_W} (C : jC x cc_M_stock 6 "PlainWarehouseModel") (hT : (jT x)[0]? = some (cA, .int)) (hR : jR x = rm_M_stock)  (c1 : Int32) (c2 : Int32) (σ : SM) (v3 : Int32) (v4 : Int32) {o : (Int32 × Int32) ⊕ (Int32 × Int32)} (h : b_M_stock_33 c1 c2 σ v3 v4 = some o) (kc : ∀ (u3 : Int32) (u4 : Int32), o = .inl (u3, u4) → jW x 6 0 0 33 [(0, .ref (bd 0)), (1, .int c1), (2, .int c2), (3, .int u3), (4, .int u4)] [] ((wP ad cA σ0) ++ ((wM bd cA σ) ++ wr))) (ke : ∀ (u3 : Int32) (u4 : Int32), o = .inr (u3, u4) → jW x 6 0 0 117 [(0, .ref (bd 0)), (1, .int c1), (2, .int c2), (3, .int u3), (4, .int u4)] [] ((wP ad cA σ0) ++ ((wM bd cA σ) ++ wr))) : jW x 6 0 0 33 [(0, .ref (bd 0)), (1, .int c1), (2, .int c2), (3, .int v3), (4, .int v4)] [] ((wP ad cA σ0) ++ ((wM bd cA σ) ++ wr)) := by
  unfold b_M_stock_33 at h
  refine j_iload C 4 d_M_stock_33 rfl rfl ?_
  refine j_bipush (v := 20) C d_M_stock_35 rfl (by decide) ?_
  refine j_icmp_ge (tgt := 117) C d_M_stock_37 (by decide) rfl h (fun h => ?_) (fun h => ?_)
  · cases h
    refine j_sub [0, 1, 2, 3, 4] rfl (ke _ _ rfl)
  · refine j_aload_n C 0 d_M_stock_40 rfl rfl rfl ?_
    refine j_get C in_M 18 rfl rfl 0 (by decide) tw_575 rfl (v := .int (g_mcode σ)) rfl d_M_stock_41 rfl ?_
    refine j_if_ne (tgt := 117) C d_M_stock_44 (by decide) rfl h (fun h => ?_) (fun h => ?_)
    · cases h
      refine j_sub [0, 1, 2, 3, 4] rfl (ke _ _ rfl)
    · refine j_aload_n C 0 d_M_stock_47 rfl rfl rfl ?_
      refine j_get C in_M 18 rfl rfl 7 (by decide) tw_582 rfl (v := .ref (bd 5)) rfl d_M_stock_48 rfl ?_
      refine j_bipush (v := 20) C d_M_stock_51 rfl (by decide) ?_
      refine j_aload_n C 0 d_M_stock_53 rfl rfl rfl ?_
      refine j_get C in_M 18 rfl rfl 1 (by decide) tw_576 rfl (v := .int (g_mev σ)) rfl d_M_stock_54 rfl ?_
      refine j_imul C d_M_stock_57 rfl ?_
      refine j_iload C 4 d_M_stock_58 rfl rfl ?_
      refine j_iadd C d_M_stock_60 rfl ?_
      refine j_iald C 23 0 rfl hT d_M_stock_61 rfl h (fun r4 h => ?_)
      refine j_istore (lv' := [(5, .int r4), (0, .ref (bd 0)), (1, .int c1), (2, .int c2), (3, .int v3), (4, .int v4)]) C d_M_stock_62 rfl (by decide) rfl ?_
      refine j_iload_n C 4 d_M_stock_64 rfl rfl rfl ?_
      refine j_iload C 0 d_M_stock_65 rfl rfl ?_
      refine j_iconst (v := (-1)) C d_M_stock_67 rfl (by decide) ?_
      refine j_icmp_eq (tgt := 108) C d_M_stock_68 (by decide) rfl h (fun h => ?_) (fun h => ?_)
      · refine j_iconst (v := 0) C d_M_stock_108 rfl (by decide) ?_
        refine j_iadd C d_M_stock_109 rfl ?_
        refine j_istore_n (lv' := [(3, .int (v3 + (0 : Int32))), (5, .int r4), (0, .ref (bd 0)), (1, .int c1), (2, .int c2), (4, .int v4)]) C d_M_stock_110 rfl rfl (by decide) rfl ?_
        refine j_iinc (v' := (v4 + 1)) (lv' := [(4, .int (v4 + 1)), (3, .int (v3 + (0 : Int32))), (5, .int r4), (0, .ref (bd 0)), (1, .int c1), (2, .int c2)]) C 5 d_M_stock_111 rfl rfl rfl (by decide) rfl ?_
        refine j_goto (tgt := 33) C d_M_stock_114 (by decide) ?_
        cases h
        refine j_sub [3, 4, 5, 1, 0] rfl (kc _ _ rfl)
      · refine j_iload_n C 2 d_M_stock_71 rfl rfl rfl ?_
        refine j_if_lt (tgt := 81) C d_M_stock_72 (by decide) rfl h (fun h => ?_) (fun h => ?_)
        · refine j_iload_n C 3 d_M_stock_81 rfl rfl rfl ?_
          refine j_if_lt (tgt := 104) C d_M_stock_82 (by decide) rfl h (fun h => ?_) (fun h => ?_)
          · refine j_iconst (v := 1) C d_M_stock_104 rfl (by decide) ?_
            refine j_goto (tgt := 109) C d_M_stock_105 (by decide) ?_
            refine j_iadd C d_M_stock_109 rfl ?_
            refine j_istore_n (lv' := [(3, .int (v3 + (1 : Int32))), (5, .int r4), (0, .ref (bd 0)), (1, .int c1), (2, .int c2), (4, .int v4)]) C d_M_stock_110 rfl rfl (by decide) rfl ?_
            refine j_iinc (v' := (v4 + 1)) (lv' := [(4, .int (v4 + 1)), (3, .int (v3 + (1 : Int32))), (5, .int r4), (0, .ref (bd 0)), (1, .int c1), (2, .int c2)]) C 5 d_M_stock_111 rfl rfl rfl (by decide) rfl ?_
            refine j_goto (tgt := 33) C d_M_stock_114 (by decide) ?_
            cases h
            refine j_sub [3, 4, 5, 1, 0] rfl (kc _ _ rfl)
          · refine j_aload_n C 1 d_M_stock_85 rfl rfl rfl ?_
            refine j_get C in_M 18 rfl rfl 8 (by decide) tw_583 rfl (v := .ref (bd 6)) rfl d_M_stock_86 rfl ?_
            refine j_bipush (v := 20) C d_M_stock_89 rfl (by decide) ?_
            refine j_aload_n C 1 d_M_stock_91 rfl rfl rfl ?_
            refine j_get C in_M 18 rfl rfl 1 (by decide) tw_576 rfl (v := .int (g_mev σ)) rfl d_M_stock_92 rfl ?_
            refine j_imul C d_M_stock_95 rfl ?_
            refine j_iload C 5 d_M_stock_96 rfl rfl ?_
            refine j_iadd C d_M_stock_98 rfl ?_
            refine j_iald C 24 0 rfl hT d_M_stock_99 rfl h (fun r5 h => ?_)
            refine j_iload_n C 3 d_M_stock_100 rfl rfl rfl ?_
            refine j_icmp_ne (tgt := 108) C d_M_stock_101 (by decide) rfl h (fun h => ?_) (fun h => ?_)
            · refine j_iconst (v := 0) C d_M_stock_108 rfl (by decide) ?_
              refine j_iadd C d_M_stock_109 rfl ?_
              refine j_istore_n (lv' := [(3, .int (v3 + (0 : Int32))), (5, .int r4), (0, .ref (bd 0)), (1, .int c1), (2, .int c2), (4, .int v4)]) C d_M_stock_110 rfl rfl (by decide) rfl ?_
              refine j_iinc (v' := (v4 + 1)) (lv' := [(4, .int (v4 + 1)), (3, .int (v3 + (0 : Int32))), (5, .int r4), (0, .ref (bd 0)), (1, .int c1), (2, .int c2)]) C 5 d_M_stock_111 rfl rfl rfl (by decide) rfl ?_
              refine j_goto (tgt := 33) C d_M_stock_114 (by decide) ?_
              cases h
              refine j_sub [3, 4, 5, 1, 0] rfl (kc _ _ rfl)
            · refine j_iconst (v := 1) C d_M_stock_104 rfl (by decide) ?_
              refine j_goto (tgt := 109) C d_M_stock_105 (by decide) ?_
              refine j_iadd C d_M_stock_109 rfl ?_
              refine j_istore_n (lv' := [(3, .int (v3 + (1 : Int32))), (5, .int r4), (0, .ref (bd 0)), (1, .int c1), (2, .int c2), (4, .int v4)]) C d_M_stock_110 rfl rfl (by decide) rfl ?_
              refine j_iinc (v' := (v4 + 1)) (lv' := [(4, .int (v4 + 1)), (3, .int (v3 + (1 : Int32))), (5, .int r4), (0, .ref (bd 0)), (1, .int c1), (2, .int c2)]) C 5 d_M_stock_111 rfl rfl rfl (by decide) rfl ?_
              refine j_goto (tgt := 33) C d_M_stock_114 (by decide) ?_
              cases h
              refine j_sub [3, 4, 5, 1, 0] rfl (kc _ _ rfl)
        · refine j_iload C 0 d_M_stock_75 rfl rfl ?_
          refine j_iload_n C 2 d_M_stock_77 rfl rfl rfl ?_
          refine j_icmp_ne (tgt := 108) C d_M_stock_78 (by decide) rfl h (fun h => ?_) (fun h => ?_)
          · refine j_iconst (v := 0) C d_M_stock_108 rfl (by decide) ?_
            refine j_iadd C d_M_stock_109 rfl ?_
            refine j_istore_n (lv' := [(3, .int (v3 + (0 : Int32))), (5, .int r4), (0, .ref (bd 0)), (1, .int c1), (2, .int c2), (4, .int v4)]) C d_M_stock_110 rfl rfl (by decide) rfl ?_
            refine j_iinc (v' := (v4 + 1)) (lv' := [(4, .int (v4 + 1)), (3, .int (v3 + (0 : Int32))), (5, .int r4), (0, .ref (bd 0)), (1, .int c1), (2, .int c2)]) C 5 d_M_stock_111 rfl rfl rfl (by decide) rfl ?_
            refine j_goto (tgt := 33) C d_M_stock_114 (by decide) ?_
            cases h
            refine j_sub [3, 4, 5, 1, 0] rfl (kc _ _ rfl)
          · refine j_iload_n C 3 d_M_stock_81 rfl rfl rfl ?_
            refine j_if_lt (tgt := 104) C d_M_stock_82 (by decide) rfl h (fun h => ?_) (fun h => ?_)
            · refine j_iconst (v := 1) C d_M_stock_104 rfl (by decide) ?_
              refine j_goto (tgt := 109) C d_M_stock_105 (by decide) ?_
              refine j_iadd C d_M_stock_109 rfl ?_
              refine j_istore_n (lv' := [(3, .int (v3 + (1 : Int32))), (5, .int r4), (0, .ref (bd 0)), (1, .int c1), (2, .int c2), (4, .int v4)]) C d_M_stock_110 rfl rfl (by decide) rfl ?_
              refine j_iinc (v' := (v4 + 1)) (lv' := [(4, .int (v4 + 1)), (3, .int (v3 + (1 : Int32))), (5, .int r4), (0, .ref (bd 0)), (1, .int c1), (2, .int c2)]) C 5 d_M_stock_111 rfl rfl rfl (by decide) rfl ?_
              refine j_goto (tgt := 33) C d_M_stock_114 (by decide) ?_
              cases h
              refine j_sub [3, 4, 5, 1, 0] rfl (kc _ _ rfl)
            · refine j_aload_n C 1 d_M_stock_85 rfl rfl rfl ?_
              refine j_get C in_M 18 rfl rfl 8 (by decide) tw_583 rfl (v := .ref (bd 6)) rfl d_M_stock_86 rfl ?_
              refine j_bipush (v := 20) C d_M_stock_89 rfl (by decide) ?_
              refine j_aload_n C 1 d_M_stock_91 rfl rfl rfl ?_
              refine j_get C in_M 18 rfl rfl 1 (by decide) tw_576 rfl (v := .int (g_mev σ)) rfl d_M_stock_92 rfl ?_
              refine j_imul C d_M_stock_95 rfl ?_
              refine j_iload C 5 d_M_stock_96 rfl rfl ?_
              refine j_iadd C d_M_stock_98 rfl ?_
              refine j_iald C 24 0 rfl hT d_M_stock_99 rfl h (fun r6 h => ?_)
              refine j_iload_n C 3 d_M_stock_100 rfl rfl rfl ?_
              refine j_icmp_ne (tgt := 108) C d_M_stock_101 (by decide) rfl h (fun h => ?_) (fun h => ?_)
              · refine j_iconst (v := 0) C d_M_stock_108 rfl (by decide) ?_
                refine j_iadd C d_M_stock_109 rfl ?_
                refine j_istore_n (lv' := [(3, .int (v3 + (0 : Int32))), (5, .int r4), (0, .ref (bd 0)), (1, .int c1), (2, .int c2), (4, .int v4)]) C d_M_stock_110 rfl rfl (by decide) rfl ?_
                refine j_iinc (v' := (v4 + 1)) (lv' := [(4, .int (v4 + 1)), (3, .int (v3 + (0 : Int32))), (5, .int r4), (0, .ref (bd 0)), (1, .int c1), (2, .int c2)]) C 5 d_M_stock_111 rfl rfl rfl (by decide) rfl ?_
                refine j_goto (tgt := 33) C d_M_stock_114 (by decide) ?_
                cases h
                refine j_sub [3, 4, 5, 1, 0] rfl (kc _ _ rfl)
              · refine j_iconst (v := 1) C d_M_stock_104 rfl (by decide) ?_
                refine j_goto (tgt := 109) C d_M_stock_105 (by decide) ?_
                refine j_iadd C d_M_stock_109 rfl ?_
                refine j_istore_n (lv' := [(3, .int (v3 + (1 : Int32))), (5, .int r4), (0, .ref (bd 0)), (1, .int c1), (2, .int c2), (4, .int v4)]) C d_M_stock_110 rfl rfl (by decide) rfl ?_
                refine j_iinc (v' := (v4 + 1)) (lv' := [(4, .int (v4 + 1)), (3, .int (v3 + (1 : Int32))), (5, .int r4), (0, .ref (bd 0)), (1, .int c1), (2, .int c2)]) C 5 d_M_stock_111 rfl rfl rfl (by decide) rfl ?_
                refine j_goto (tgt := 33) C d_M_stock_114 (by decide) ?_
                cases h
                refine j_sub [3, 4, 5, 1, 0] rfl (kc _ _ rfl)
set_option maxRecDepth 100000 in
theorem wl_M_stock_33 {x : JX} {bd : Nat → Nat} {cA : ClassId} {ad : Nat → Nat} {σ0 : SP} {wr : va_W} (C : jC x cc_M_stock 6 "PlainWarehouseModel") (hT : (jT x)[0]? = some (cA, .int)) (hR : jR x = rm_M_stock)  (c1 : Int32) (c2 : Int32) (σ : SM) (v3 : Int32) (v4 : Int32) {u3 : Int32} {u4 : Int32} (n : Nat) (h : lp (fun s => b_M_stock_33 c1 c2 σ s.1 s.2) n (v3, v4) = some (u3, u4)) (K : jW x 6 0 0 117 [(0, .ref (bd 0)), (1, .int c1), (2, .int c2), (3, .int u3), (4, .int u4)] [] ((wP ad cA σ0) ++ ((wM bd cA σ) ++ wr))) : jW x 6 0 0 33 [(0, .ref (bd 0)), (1, .int c1), (2, .int c2), (3, .int v3), (4, .int v4)] [] ((wP ad cA σ0) ++ ((wM bd cA σ) ++ wr)) :=
  j_lp (Pr := fun s => jW x 6 0 0 33 [(0, .ref (bd 0)), (1, .int c1), (2, .int c2), (3, .int s.1), (4, .int s.2)] [] ((wP ad cA σ0) ++ ((wM bd cA σ) ++ wr))) (K := fun s => jW x 6 0 0 117 [(0, .ref (bd 0)), (1, .int c1), (2, .int c2), (3, .int s.1), (4, .int s.2)] [] ((wP ad cA σ0) ++ ((wM bd cA σ) ++ wr))) (fun s o h kc ke => wb_M_stock_33 C hT hR c1 c2 σ s.1 s.2 h (fun u3 u4 e => kc _ e) (fun u3 u4 e => ke _ e)) n _ _ h K
set_option maxHeartbeats 4000000 in
set_option maxRecDepth 100000 in
theorem wk_M_stock_25 {x : JX} {bd : Nat → Nat} {cA : ClassId} {ad : Nat → Nat} {σ0 : SP} {wr : va_W} (C : jC x cc_M_stock 6 "PlainWarehouseModel") (hT : (jT x)[0]? = some (cA, .int)) (hR : jR x = rm_M_stock)  (p1 : Int32) (p2 : Int32) (s0 : Int32) (σ : SM) {r : Int32} {σ' : SM} (hr : (jt x).sig.returnType = some .int) (E : jE x 0 0 (some (.int r)) ((wP ad cA σ0) ++ ((wM bd cA σ') ++ wr))) (h : k_M_stock_25 p1 p2 s0 σ = some (r, σ')) : jW x 6 0 0 25 [(0, .ref (bd 0)), (1, .int p1), (2, .int p2)] [.int s0, .ref (bd 0)] ((wP ad cA σ0) ++ ((wM bd cA σ) ++ wr)) := by
  unfold k_M_stock_25 at h
  refine j_put C in_M ty_M_ok nm_M 18 rfl rfl 0 (by decide) tw_575 rfl rfl rfl (Nat.le_of_ble_eq_true rfl) (fun t => (wP ad cA σ0) ++ ((wM bd cA t) ++ wr)) d_M_stock_25 rfl h rfl (fun σ3 h => ?_)
  refine j_iconst (v := 0) C d_M_stock_28 rfl (by decide) ?_
  refine j_istore_n (lv' := [(3, .int (0 : Int32)), (0, .ref (bd 0)), (1, .int p1), (2, .int p2)]) C d_M_stock_29 rfl rfl (by decide) rfl ?_
  refine j_iconst (v := 0) C d_M_stock_30 rfl (by decide) ?_
  refine j_istore (lv' := [(4, .int (0 : Int32)), (3, .int (0 : Int32)), (0, .ref (bd 0)), (1, .int p1), (2, .int p2)]) C d_M_stock_31 rfl (by decide) rfl ?_
  obtain ⟨w7, w8, h9, h⟩ := mb2_some h
  refine j_sub [2, 3, 4, 1, 0] rfl (wl_M_stock_33 C hT hR p1 p2 σ3 (0 : Int32) (0 : Int32) FU h9 ?_)
  refine j_iload_n C 3 d_M_stock_117 rfl rfl rfl ?_
  cases h
  exact j_iret C E hr d_M_stock_118
set_option maxHeartbeats 4000000 in
set_option maxRecDepth 100000 in
theorem wk_M_stock_20 {x : JX} {bd : Nat → Nat} {cA : ClassId} {ad : Nat → Nat} {σ0 : SP} {wr : va_W} (C : jC x cc_M_stock 6 "PlainWarehouseModel") (hT : (jT x)[0]? = some (cA, .int)) (hR : jR x = rm_M_stock)  (p1 : Int32) (p2 : Int32) (σ : SM) {r : Int32} {σ' : SM} (hr : (jt x).sig.returnType = some .int) (E : jE x 0 0 (some (.int r)) ((wP ad cA σ0) ++ ((wM bd cA σ') ++ wr))) (h : k_M_stock_20 p1 p2 σ = some (r, σ')) : jW x 6 0 0 20 [(0, .ref (bd 0)), (1, .int p1), (2, .int p2)] [.ref (bd 0)] ((wP ad cA σ0) ++ ((wM bd cA σ) ++ wr)) := by
  unfold k_M_stock_20 at h
  refine j_iconst (v := 1) C d_M_stock_20 rfl (by decide) ?_
  refine j_goto (tgt := 25) C d_M_stock_21 (by decide) ?_
  exact j_sub [0, 1, 2] rfl (wk_M_stock_25 C hT hR p1 p2 (1 : Int32) σ hr E h)
set_option maxHeartbeats 4000000 in
set_option maxRecDepth 100000 in
theorem w_M_stock {x : JX} {bd : Nat → Nat} {cA : ClassId} {ad : Nat → Nat} {σ0 : SP} {wr : va_W} (C : jC x cc_M_stock 6 "PlainWarehouseModel") (hT : (jT x)[0]? = some (cA, .int)) (hR : jR x = rm_M_stock)  (a1 : Int32) (a2 : Int32) (σ : SM) {r : Int32} {σ' : SM} (hr : (jt x).sig.returnType = some .int) (E : jE x 0 0 (some (.int r)) ((wP ad cA σ0) ++ ((wM bd cA σ') ++ wr))) (h : m_M_stock a1 a2 σ = some (r, σ')) : jW x 6 0 0 0 [(0, .ref (bd 0)), (1, .int a1), (2, .int a2)] [] ((wP ad cA σ0) ++ ((wM bd cA σ) ++ wr)) := by
  unfold m_M_stock at h
  refine j_aload_n C 0 d_M_stock_0 rfl rfl rfl ?_
  refine j_iload_n C 1 d_M_stock_1 rfl rfl rfl ?_
  refine j_iconst (v := (-1)) C d_M_stock_2 rfl (by decide) ?_
  refine j_bipush (v := 9) C d_M_stock_3 rfl (by decide) ?_
  obtain ⟨r1, h2, h⟩ := mb1_some h
  refine j_callS C hR (As := [.int a1, .int (-1 : Int32), .int (9 : Int32)]) (ct_M_in (jl x) (jD x) (jT x) a1 (-1 : Int32) (9 : Int32) h2) kf_M_in (by decide) tw_644 tw_645 (rest := [.ref (bd 0)]) rfl rfl (Nat.le_of_ble_eq_true rfl) (by decide) ⟨rfl, rfl⟩ d_M_stock_5 rfl (st1 := [.int r1, .ref (bd 0)]) rfl ?_
  refine j_if_eq (tgt := 20) C d_M_stock_8 (by decide) rfl h (fun h => ?_) (fun h => ?_)
  · exact j_sub [0, 1, 2] rfl (wk_M_stock_20 C hT hR a1 a2 σ hr E h)
  · refine j_iload_n C 2 d_M_stock_11 rfl rfl rfl ?_
    refine j_iconst (v := (-1)) C d_M_stock_12 rfl (by decide) ?_
    refine j_iconst (v := 5) C d_M_stock_13 rfl (by decide) ?_
    obtain ⟨r10, h11, h⟩ := mb1_some h
    refine j_callS C hR (As := [.int a2, .int (-1 : Int32), .int (5 : Int32)]) (ct_M_in (jl x) (jD x) (jT x) a2 (-1 : Int32) (5 : Int32) h11) kf_M_in (by decide) tw_644 tw_645 (rest := [.ref (bd 0)]) rfl rfl (Nat.le_of_ble_eq_true rfl) (by decide) ⟨rfl, rfl⟩ d_M_stock_14 rfl (st1 := [.int r10, .ref (bd 0)]) rfl ?_
    refine j_if_ne (tgt := 24) C d_M_stock_17 (by decide) rfl h (fun h => ?_) (fun h => ?_)
    · refine j_iconst (v := 0) C d_M_stock_24 rfl (by decide) ?_
      exact j_sub [0, 1, 2] rfl (wk_M_stock_25 C hT hR a1 a2 (0 : Int32) σ hr E h)
    · exact j_sub [0, 1, 2] rfl (wk_M_stock_20 C hT hR a1 a2 σ hr E h)
theorem ct_M_stock (l : Launch) (D : va_G) (tys : List (ClassId × FieldType)) {bd : Nat → Nat} {cA : ClassId} {ad : Nat → Nat} {σ0 : SP} {wr : va_W} (hT : tys[0]? = some (cA, .int)) (a1 : Int32) (a2 : Int32) (σ : SM) {r : Int32} {σ' : SM} (h : m_M_stock a1 a2 σ = some (r, σ')) : jM l y_M_stock ws_M_stock rm_M_stock D tys [.ref (bd 0), .int a1, .int a2] ((wP ad cA σ0) ++ ((wM bd cA σ) ++ wr)) (some (.int r)) ((wP ad cA σ0) ++ ((wM bd cA σ') ++ wr)) :=
  j_of (by decide +kernel) rfl (Nat.le_of_ble_eq_true rfl) rfl (fun x _ _ hT' hR C hr _ E => w_M_stock C (by rw [hT']; exact hT) hR a1 a2 σ hr E h)
def rm_M_where : Room := { frames := 2, cells := 0, slots := 0, locals := 42 }
def k_M_where_29 (p1 : Int32) (p2 : Int32) (s0 : Int32) (σ : SM) : Option (Int32 × SM) :=
  (mlet (u_mcode σ s0) fun σ5 => (if (g_mcode σ5) ≤ 0 then (mrd 1240 (g_mpl σ5) (((20 : Int32) * p2) + p1) fun r6 => some (r6, σ5)) else some ((0 : Int32), σ5)))
def m_M_where (a1 : Int32) (a2 : Int32) (σ : SM) : Option (Int32 × SM) :=
  (mb1 (m_M_in a2 (0 : Int32) (g_mev σ)) fun r1 => (if r1 = 0 then (k_M_where_29 a1 a2 (1 : Int32) σ) else (mb1 (m_M_isUnit a1) fun r3 => (if r3 = 0 then (k_M_where_29 a1 a2 (2 : Int32) σ) else (k_M_where_29 a1 a2 (0 : Int32) σ)))))
set_option maxHeartbeats 4000000 in
set_option maxRecDepth 100000 in
theorem wk_M_where_29 {x : JX} {bd : Nat → Nat} {cA : ClassId} {ad : Nat → Nat} {σ0 : SP} {wr : va_W} (C : jC x cc_M_where 3 "PlainWarehouseModel") (hT : (jT x)[0]? = some (cA, .int)) (hR : jR x = rm_M_where)  (p1 : Int32) (p2 : Int32) (s0 : Int32) (σ : SM) {r : Int32} {σ' : SM} (hr : (jt x).sig.returnType = some .int) (E : jE x 0 0 (some (.int r)) ((wP ad cA σ0) ++ ((wM bd cA σ') ++ wr))) (h : k_M_where_29 p1 p2 s0 σ = some (r, σ')) : jW x 3 0 0 29 [(0, .ref (bd 0)), (1, .int p1), (2, .int p2)] [.int s0, .ref (bd 0)] ((wP ad cA σ0) ++ ((wM bd cA σ) ++ wr)) := by
  unfold k_M_where_29 at h
  refine j_put C in_M ty_M_ok nm_M 18 rfl rfl 0 (by decide) tw_575 rfl rfl rfl (Nat.le_of_ble_eq_true rfl) (fun t => (wP ad cA σ0) ++ ((wM bd cA t) ++ wr)) d_M_where_29 rfl h rfl (fun σ5 h => ?_)
  refine j_aload_n C 0 d_M_where_32 rfl rfl rfl ?_
  refine j_get C in_M 18 rfl rfl 0 (by decide) tw_575 rfl (v := .int (g_mcode σ5)) rfl d_M_where_33 rfl ?_
  refine j_if_le (tgt := 43) C d_M_where_36 (by decide) rfl h (fun h => ?_) (fun h => ?_)
  · refine j_aload_n C 0 d_M_where_43 rfl rfl rfl ?_
    refine j_get C in_M 18 rfl rfl 7 (by decide) tw_582 rfl (v := .ref (bd 5)) rfl d_M_where_44 rfl ?_
    refine j_bipush (v := 20) C d_M_where_47 rfl (by decide) ?_
    refine j_iload_n C 2 d_M_where_49 rfl rfl rfl ?_
    refine j_imul C d_M_where_50 rfl ?_
    refine j_iload_n C 1 d_M_where_51 rfl rfl rfl ?_
    refine j_iadd C d_M_where_52 rfl ?_
    refine j_iald C 23 0 rfl hT d_M_where_53 rfl h (fun r6 h => ?_)
    cases h
    exact j_iret C E hr d_M_where_54
  · refine j_iconst (v := 0) C d_M_where_39 rfl (by decide) ?_
    refine j_goto (tgt := 54) C d_M_where_40 (by decide) ?_
    cases h
    exact j_iret C E hr d_M_where_54
set_option maxHeartbeats 4000000 in
set_option maxRecDepth 100000 in
theorem w_M_where {x : JX} {bd : Nat → Nat} {cA : ClassId} {ad : Nat → Nat} {σ0 : SP} {wr : va_W} (C : jC x cc_M_where 3 "PlainWarehouseModel") (hT : (jT x)[0]? = some (cA, .int)) (hR : jR x = rm_M_where)  (a1 : Int32) (a2 : Int32) (σ : SM) {r : Int32} {σ' : SM} (hr : (jt x).sig.returnType = some .int) (E : jE x 0 0 (some (.int r)) ((wP ad cA σ0) ++ ((wM bd cA σ') ++ wr))) (h : m_M_where a1 a2 σ = some (r, σ')) : jW x 3 0 0 0 [(0, .ref (bd 0)), (1, .int a1), (2, .int a2)] [] ((wP ad cA σ0) ++ ((wM bd cA σ) ++ wr)) := by
  unfold m_M_where at h
  refine j_aload_n C 0 d_M_where_0 rfl rfl rfl ?_
  refine j_iload_n C 2 d_M_where_1 rfl rfl rfl ?_
  refine j_iconst (v := 0) C d_M_where_2 rfl (by decide) ?_
  refine j_aload_n C 0 d_M_where_3 rfl rfl rfl ?_
  refine j_get C in_M 18 rfl rfl 1 (by decide) tw_576 rfl (v := .int (g_mev σ)) rfl d_M_where_4 rfl ?_
  obtain ⟨r1, h2, h⟩ := mb1_some h
  refine j_callS C hR (As := [.int a2, .int (0 : Int32), .int (g_mev σ)]) (ct_M_in (jl x) (jD x) (jT x) a2 (0 : Int32) (g_mev σ) h2) kf_M_in (by decide) tw_644 tw_645 (rest := [.ref (bd 0)]) rfl rfl (Nat.le_of_ble_eq_true rfl) (by decide) ⟨rfl, rfl⟩ d_M_where_7 rfl (st1 := [.int r1, .ref (bd 0)]) rfl ?_
  refine j_if_ne (tgt := 17) C d_M_where_10 (by decide) rfl h (fun h => ?_) (fun h => ?_)
  · refine j_iload_n C 1 d_M_where_17 rfl rfl rfl ?_
    obtain ⟨r3, h4, h⟩ := mb1_some h
    refine j_callS C hR (As := [.int a1]) (ct_M_isUnit (jl x) (jD x) (jT x) a1 h4) kf_M_isUnit (by decide) tw_641 tw_642 (rest := [.ref (bd 0)]) rfl rfl (Nat.le_of_ble_eq_true rfl) (by decide) ⟨rfl, rfl⟩ d_M_where_18 rfl (st1 := [.int r3, .ref (bd 0)]) rfl ?_
    refine j_if_ne (tgt := 28) C d_M_where_21 (by decide) rfl h (fun h => ?_) (fun h => ?_)
    · refine j_iconst (v := 0) C d_M_where_28 rfl (by decide) ?_
      exact j_sub [0, 1, 2] rfl (wk_M_where_29 C hT hR a1 a2 (0 : Int32) σ hr E h)
    · refine j_iconst (v := 2) C d_M_where_24 rfl (by decide) ?_
      refine j_goto (tgt := 29) C d_M_where_25 (by decide) ?_
      exact j_sub [0, 1, 2] rfl (wk_M_where_29 C hT hR a1 a2 (2 : Int32) σ hr E h)
  · refine j_iconst (v := 1) C d_M_where_13 rfl (by decide) ?_
    refine j_goto (tgt := 29) C d_M_where_14 (by decide) ?_
    exact j_sub [0, 1, 2] rfl (wk_M_where_29 C hT hR a1 a2 (1 : Int32) σ hr E h)
theorem ct_M_where (l : Launch) (D : va_G) (tys : List (ClassId × FieldType)) {bd : Nat → Nat} {cA : ClassId} {ad : Nat → Nat} {σ0 : SP} {wr : va_W} (hT : tys[0]? = some (cA, .int)) (a1 : Int32) (a2 : Int32) (σ : SM) {r : Int32} {σ' : SM} (h : m_M_where a1 a2 σ = some (r, σ')) : jM l y_M_where ws_M_where rm_M_where D tys [.ref (bd 0), .int a1, .int a2] ((wP ad cA σ0) ++ ((wM bd cA σ) ++ wr)) (some (.int r)) ((wP ad cA σ0) ++ ((wM bd cA σ') ++ wr)) :=
  j_of (by decide +kernel) rfl (Nat.le_of_ble_eq_true rfl) rfl (fun x _ _ hT' hR C hr _ E => w_M_where C (by rw [hT']; exact hT) hR a1 a2 σ hr E h)
def rm_M_money : Room := { frames := 1, cells := 0, slots := 0, locals := 22 }
def k_M_money_31 (p1 : Int32) (p2 : Int32) (s0 : Int32) (σ : SM) : Option (Int32 × SM) :=
  (mlet (u_mcode σ s0) fun σ5 => (if (g_mcode σ5) ≤ 0 then (mrd 248 (g_mce σ5) (((4 : Int32) * p2) + p1) fun r6 => some (r6, σ5)) else some ((0 : Int32), σ5)))
def m_M_money (a1 : Int32) (a2 : Int32) (σ : SM) : Option (Int32 × SM) :=
  (mb1 (m_M_in a2 (0 : Int32) (g_mev σ)) fun r1 => (if r1 = 0 then (k_M_money_31 a1 a2 (1 : Int32) σ) else (mb1 (m_M_in a1 (0 : Int32) (3 : Int32)) fun r3 => (if r3 = 0 then (k_M_money_31 a1 a2 (2 : Int32) σ) else (k_M_money_31 a1 a2 (0 : Int32) σ)))))
set_option maxHeartbeats 4000000 in
set_option maxRecDepth 100000 in
theorem wk_M_money_31 {x : JX} {bd : Nat → Nat} {cA : ClassId} {ad : Nat → Nat} {σ0 : SP} {wr : va_W} (C : jC x cc_M_money 3 "PlainWarehouseModel") (hT : (jT x)[0]? = some (cA, .int)) (hR : jR x = rm_M_money)  (p1 : Int32) (p2 : Int32) (s0 : Int32) (σ : SM) {r : Int32} {σ' : SM} (hr : (jt x).sig.returnType = some .int) (E : jE x 0 0 (some (.int r)) ((wP ad cA σ0) ++ ((wM bd cA σ') ++ wr))) (h : k_M_money_31 p1 p2 s0 σ = some (r, σ')) : jW x 3 0 0 31 [(0, .ref (bd 0)), (1, .int p1), (2, .int p2)] [.int s0, .ref (bd 0)] ((wP ad cA σ0) ++ ((wM bd cA σ) ++ wr)) := by
  unfold k_M_money_31 at h
  refine j_put C in_M ty_M_ok nm_M 18 rfl rfl 0 (by decide) tw_575 rfl rfl rfl (Nat.le_of_ble_eq_true rfl) (fun t => (wP ad cA σ0) ++ ((wM bd cA t) ++ wr)) d_M_money_31 rfl h rfl (fun σ5 h => ?_)
  refine j_aload_n C 0 d_M_money_34 rfl rfl rfl ?_
  refine j_get C in_M 18 rfl rfl 0 (by decide) tw_575 rfl (v := .int (g_mcode σ5)) rfl d_M_money_35 rfl ?_
  refine j_if_le (tgt := 45) C d_M_money_38 (by decide) rfl h (fun h => ?_) (fun h => ?_)
  · refine j_aload_n C 0 d_M_money_45 rfl rfl rfl ?_
    refine j_get C in_M 18 rfl rfl 13 (by decide) tw_588 rfl (v := .ref (bd 11)) rfl d_M_money_46 rfl ?_
    refine j_iconst (v := 4) C d_M_money_49 rfl (by decide) ?_
    refine j_iload_n C 2 d_M_money_50 rfl rfl rfl ?_
    refine j_imul C d_M_money_51 rfl ?_
    refine j_iload_n C 1 d_M_money_52 rfl rfl rfl ?_
    refine j_iadd C d_M_money_53 rfl ?_
    refine j_iald C 29 0 rfl hT d_M_money_54 rfl h (fun r6 h => ?_)
    cases h
    exact j_iret C E hr d_M_money_55
  · refine j_iconst (v := 0) C d_M_money_41 rfl (by decide) ?_
    refine j_goto (tgt := 55) C d_M_money_42 (by decide) ?_
    cases h
    exact j_iret C E hr d_M_money_55
set_option maxHeartbeats 4000000 in
set_option maxRecDepth 100000 in
theorem w_M_money {x : JX} {bd : Nat → Nat} {cA : ClassId} {ad : Nat → Nat} {σ0 : SP} {wr : va_W} (C : jC x cc_M_money 3 "PlainWarehouseModel") (hT : (jT x)[0]? = some (cA, .int)) (hR : jR x = rm_M_money)  (a1 : Int32) (a2 : Int32) (σ : SM) {r : Int32} {σ' : SM} (hr : (jt x).sig.returnType = some .int) (E : jE x 0 0 (some (.int r)) ((wP ad cA σ0) ++ ((wM bd cA σ') ++ wr))) (h : m_M_money a1 a2 σ = some (r, σ')) : jW x 3 0 0 0 [(0, .ref (bd 0)), (1, .int a1), (2, .int a2)] [] ((wP ad cA σ0) ++ ((wM bd cA σ) ++ wr)) := by
  unfold m_M_money at h
  refine j_aload_n C 0 d_M_money_0 rfl rfl rfl ?_
  refine j_iload_n C 2 d_M_money_1 rfl rfl rfl ?_
  refine j_iconst (v := 0) C d_M_money_2 rfl (by decide) ?_
  refine j_aload_n C 0 d_M_money_3 rfl rfl rfl ?_
  refine j_get C in_M 18 rfl rfl 1 (by decide) tw_576 rfl (v := .int (g_mev σ)) rfl d_M_money_4 rfl ?_
  obtain ⟨r1, h2, h⟩ := mb1_some h
  refine j_callS C hR (As := [.int a2, .int (0 : Int32), .int (g_mev σ)]) (ct_M_in (jl x) (jD x) (jT x) a2 (0 : Int32) (g_mev σ) h2) kf_M_in (by decide) tw_644 tw_645 (rest := [.ref (bd 0)]) rfl rfl (Nat.le_of_ble_eq_true rfl) (by decide) ⟨rfl, rfl⟩ d_M_money_7 rfl (st1 := [.int r1, .ref (bd 0)]) rfl ?_
  refine j_if_ne (tgt := 17) C d_M_money_10 (by decide) rfl h (fun h => ?_) (fun h => ?_)
  · refine j_iload_n C 1 d_M_money_17 rfl rfl rfl ?_
    refine j_iconst (v := 0) C d_M_money_18 rfl (by decide) ?_
    refine j_iconst (v := 3) C d_M_money_19 rfl (by decide) ?_
    obtain ⟨r3, h4, h⟩ := mb1_some h
    refine j_callS C hR (As := [.int a1, .int (0 : Int32), .int (3 : Int32)]) (ct_M_in (jl x) (jD x) (jT x) a1 (0 : Int32) (3 : Int32) h4) kf_M_in (by decide) tw_644 tw_645 (rest := [.ref (bd 0)]) rfl rfl (Nat.le_of_ble_eq_true rfl) (by decide) ⟨rfl, rfl⟩ d_M_money_20 rfl (st1 := [.int r3, .ref (bd 0)]) rfl ?_
    refine j_if_ne (tgt := 30) C d_M_money_23 (by decide) rfl h (fun h => ?_) (fun h => ?_)
    · refine j_iconst (v := 0) C d_M_money_30 rfl (by decide) ?_
      exact j_sub [0, 1, 2] rfl (wk_M_money_31 C hT hR a1 a2 (0 : Int32) σ hr E h)
    · refine j_iconst (v := 2) C d_M_money_26 rfl (by decide) ?_
      refine j_goto (tgt := 31) C d_M_money_27 (by decide) ?_
      exact j_sub [0, 1, 2] rfl (wk_M_money_31 C hT hR a1 a2 (2 : Int32) σ hr E h)
  · refine j_iconst (v := 1) C d_M_money_13 rfl (by decide) ?_
    refine j_goto (tgt := 31) C d_M_money_14 (by decide) ?_
    exact j_sub [0, 1, 2] rfl (wk_M_money_31 C hT hR a1 a2 (1 : Int32) σ hr E h)
theorem ct_M_money (l : Launch) (D : va_G) (tys : List (ClassId × FieldType)) {bd : Nat → Nat} {cA : ClassId} {ad : Nat → Nat} {σ0 : SP} {wr : va_W} (hT : tys[0]? = some (cA, .int)) (a1 : Int32) (a2 : Int32) (σ : SM) {r : Int32} {σ' : SM} (h : m_M_money a1 a2 σ = some (r, σ')) : jM l y_M_money ws_M_money rm_M_money D tys [.ref (bd 0), .int a1, .int a2] ((wP ad cA σ0) ++ ((wM bd cA σ) ++ wr)) (some (.int r)) ((wP ad cA σ0) ++ ((wM bd cA σ') ++ wr)) :=
  j_of (by decide +kernel) rfl (Nat.le_of_ble_eq_true rfl) rfl (fun x _ _ hT' hR C hr _ E => w_M_money C (by rw [hT']; exact hT) hR a1 a2 σ hr E h)
def rm_M_freeOf : Room := { frames := 0, cells := 0, slots := 0, locals := 0 }
def b_M_freeOf_4 (c1 : Int32) (σ : SM) (v2 : Int32) (v3 : Int32) : Option ((Int32 × Int32) ⊕ (Int32 × Int32)) :=
  (if (20 : Int32) ≤ v3 then some (.inr (v2, v3)) else (mrd 1240 (g_mpl σ) (((20 : Int32) * (g_mev σ)) + v3) fun r1 => (if r1 = (-1 : Int32) then some (.inl ((v2 + (0 : Int32)), (v3 + 1))) else (mrd 1240 (g_mgv σ) (((20 : Int32) * (g_mev σ)) + v3) fun r2 => (if r2 = (-1 : Int32) then (mrd 1240 (g_mgd σ) (((20 : Int32) * (g_mev σ)) + v3) fun r3 => (if r3 = c1 then some (.inl ((v2 + (1 : Int32)), (v3 + 1))) else some (.inl ((v2 + (0 : Int32)), (v3 + 1))))) else some (.inl ((v2 + (0 : Int32)), (v3 + 1))))))))
def m_M_freeOf (a1 : Int32) (σ : SM) : Option (Int32) :=
  (mb2 (lp (fun s => b_M_freeOf_4 a1 σ s.1 s.2) FU ((0 : Int32), (0 : Int32))) fun w4 w5 => some w4)
set_option maxHeartbeats 4000000 in
set_option maxRecDepth 100000 in
theorem wb_M_freeOf_4 {x : JX} {bd : Nat → Nat} {cA : ClassId} {ad : Nat → Nat} {σ0 : SP} {wr : va_W} (C : jC x cc_M_freeOf 4 "PlainWarehouseModel") (hT : (jT x)[0]? = some (cA, .int)) (hR : jR x = rm_M_freeOf)  (c1 : Int32) (σ : SM) (v2 : Int32) (v3 : Int32) {o : (Int32 × Int32) ⊕ (Int32 × Int32)} (h : b_M_freeOf_4 c1 σ v2 v3 = some o) (kc : ∀ (u2 : Int32) (u3 : Int32), o = .inl (u2, u3) → jW x 4 0 0 4 [(0, .ref (bd 0)), (1, .int c1), (2, .int u2), (3, .int u3)] [] ((wP ad cA σ0) ++ ((wM bd cA σ) ++ wr))) (ke : ∀ (u2 : Int32) (u3 : Int32), o = .inr (u2, u3) → jW x 4 0 0 78 [(0, .ref (bd 0)), (1, .int c1), (2, .int u2), (3, .int u3)] [] ((wP ad cA σ0) ++ ((wM bd cA σ) ++ wr))) : jW x 4 0 0 4 [(0, .ref (bd 0)), (1, .int c1), (2, .int v2), (3, .int v3)] [] ((wP ad cA σ0) ++ ((wM bd cA σ) ++ wr)) := by
  unfold b_M_freeOf_4 at h
  refine j_iload_n C 3 d_M_freeOf_4 rfl rfl rfl ?_
  refine j_bipush (v := 20) C d_M_freeOf_5 rfl (by decide) ?_
  refine j_icmp_ge (tgt := 78) C d_M_freeOf_7 (by decide) rfl h (fun h => ?_) (fun h => ?_)
  · cases h
    refine j_sub [0, 1, 2, 3] rfl (ke _ _ rfl)
  · refine j_iload_n C 2 d_M_freeOf_10 rfl rfl rfl ?_
    refine j_aload_n C 0 d_M_freeOf_11 rfl rfl rfl ?_
    refine j_get C in_M 18 rfl rfl 7 (by decide) tw_582 rfl (v := .ref (bd 5)) rfl d_M_freeOf_12 rfl ?_
    refine j_bipush (v := 20) C d_M_freeOf_15 rfl (by decide) ?_
    refine j_aload_n C 0 d_M_freeOf_17 rfl rfl rfl ?_
    refine j_get C in_M 18 rfl rfl 1 (by decide) tw_576 rfl (v := .int (g_mev σ)) rfl d_M_freeOf_18 rfl ?_
    refine j_imul C d_M_freeOf_21 rfl ?_
    refine j_iload_n C 3 d_M_freeOf_22 rfl rfl rfl ?_
    refine j_iadd C d_M_freeOf_23 rfl ?_
    refine j_iald C 23 0 rfl hT d_M_freeOf_24 rfl h (fun r1 h => ?_)
    refine j_iconst (v := (-1)) C d_M_freeOf_25 rfl (by decide) ?_
    refine j_icmp_eq (tgt := 69) C d_M_freeOf_26 (by decide) rfl h (fun h => ?_) (fun h => ?_)
    · refine j_iconst (v := 0) C d_M_freeOf_69 rfl (by decide) ?_
      refine j_iadd C d_M_freeOf_70 rfl ?_
      refine j_istore_n (lv' := [(2, .int (v2 + (0 : Int32))), (0, .ref (bd 0)), (1, .int c1), (3, .int v3)]) C d_M_freeOf_71 rfl rfl (by decide) rfl ?_
      refine j_iinc (v' := (v3 + 1)) (lv' := [(3, .int (v3 + 1)), (2, .int (v2 + (0 : Int32))), (0, .ref (bd 0)), (1, .int c1)]) C 3 d_M_freeOf_72 rfl rfl rfl (by decide) rfl ?_
      refine j_goto (tgt := 4) C d_M_freeOf_75 (by decide) ?_
      cases h
      refine j_sub [2, 3, 1, 0] rfl (kc _ _ rfl)
    · refine j_aload_n C 0 d_M_freeOf_29 rfl rfl rfl ?_
      refine j_get C in_M 18 rfl rfl 9 (by decide) tw_584 rfl (v := .ref (bd 7)) rfl d_M_freeOf_30 rfl ?_
      refine j_bipush (v := 20) C d_M_freeOf_33 rfl (by decide) ?_
      refine j_aload_n C 0 d_M_freeOf_35 rfl rfl rfl ?_
      refine j_get C in_M 18 rfl rfl 1 (by decide) tw_576 rfl (v := .int (g_mev σ)) rfl d_M_freeOf_36 rfl ?_
      refine j_imul C d_M_freeOf_39 rfl ?_
      refine j_iload_n C 3 d_M_freeOf_40 rfl rfl rfl ?_
      refine j_iadd C d_M_freeOf_41 rfl ?_
      refine j_iald C 25 0 rfl hT d_M_freeOf_42 rfl h (fun r2 h => ?_)
      refine j_iconst (v := (-1)) C d_M_freeOf_43 rfl (by decide) ?_
      refine j_icmp_ne (tgt := 69) C d_M_freeOf_44 (by decide) rfl h (fun h => ?_) (fun h => ?_)
      · refine j_iconst (v := 0) C d_M_freeOf_69 rfl (by decide) ?_
        refine j_iadd C d_M_freeOf_70 rfl ?_
        refine j_istore_n (lv' := [(2, .int (v2 + (0 : Int32))), (0, .ref (bd 0)), (1, .int c1), (3, .int v3)]) C d_M_freeOf_71 rfl rfl (by decide) rfl ?_
        refine j_iinc (v' := (v3 + 1)) (lv' := [(3, .int (v3 + 1)), (2, .int (v2 + (0 : Int32))), (0, .ref (bd 0)), (1, .int c1)]) C 3 d_M_freeOf_72 rfl rfl rfl (by decide) rfl ?_
        refine j_goto (tgt := 4) C d_M_freeOf_75 (by decide) ?_
        cases h
        refine j_sub [2, 3, 1, 0] rfl (kc _ _ rfl)
      · refine j_aload_n C 0 d_M_freeOf_47 rfl rfl rfl ?_
        refine j_get C in_M 18 rfl rfl 8 (by decide) tw_583 rfl (v := .ref (bd 6)) rfl d_M_freeOf_48 rfl ?_
        refine j_bipush (v := 20) C d_M_freeOf_51 rfl (by decide) ?_
        refine j_aload_n C 0 d_M_freeOf_53 rfl rfl rfl ?_
        refine j_get C in_M 18 rfl rfl 1 (by decide) tw_576 rfl (v := .int (g_mev σ)) rfl d_M_freeOf_54 rfl ?_
        refine j_imul C d_M_freeOf_57 rfl ?_
        refine j_iload_n C 3 d_M_freeOf_58 rfl rfl rfl ?_
        refine j_iadd C d_M_freeOf_59 rfl ?_
        refine j_iald C 24 0 rfl hT d_M_freeOf_60 rfl h (fun r3 h => ?_)
        refine j_iload_n C 1 d_M_freeOf_61 rfl rfl rfl ?_
        refine j_icmp_ne (tgt := 69) C d_M_freeOf_62 (by decide) rfl h (fun h => ?_) (fun h => ?_)
        · refine j_iconst (v := 0) C d_M_freeOf_69 rfl (by decide) ?_
          refine j_iadd C d_M_freeOf_70 rfl ?_
          refine j_istore_n (lv' := [(2, .int (v2 + (0 : Int32))), (0, .ref (bd 0)), (1, .int c1), (3, .int v3)]) C d_M_freeOf_71 rfl rfl (by decide) rfl ?_
          refine j_iinc (v' := (v3 + 1)) (lv' := [(3, .int (v3 + 1)), (2, .int (v2 + (0 : Int32))), (0, .ref (bd 0)), (1, .int c1)]) C 3 d_M_freeOf_72 rfl rfl rfl (by decide) rfl ?_
          refine j_goto (tgt := 4) C d_M_freeOf_75 (by decide) ?_
          cases h
          refine j_sub [2, 3, 1, 0] rfl (kc _ _ rfl)
        · refine j_iconst (v := 1) C d_M_freeOf_65 rfl (by decide) ?_
          refine j_goto (tgt := 70) C d_M_freeOf_66 (by decide) ?_
          refine j_iadd C d_M_freeOf_70 rfl ?_
          refine j_istore_n (lv' := [(2, .int (v2 + (1 : Int32))), (0, .ref (bd 0)), (1, .int c1), (3, .int v3)]) C d_M_freeOf_71 rfl rfl (by decide) rfl ?_
          refine j_iinc (v' := (v3 + 1)) (lv' := [(3, .int (v3 + 1)), (2, .int (v2 + (1 : Int32))), (0, .ref (bd 0)), (1, .int c1)]) C 3 d_M_freeOf_72 rfl rfl rfl (by decide) rfl ?_
          refine j_goto (tgt := 4) C d_M_freeOf_75 (by decide) ?_
          cases h
          refine j_sub [2, 3, 1, 0] rfl (kc _ _ rfl)
set_option maxRecDepth 100000 in
theorem wl_M_freeOf_4 {x : JX} {bd : Nat → Nat} {cA : ClassId} {ad : Nat → Nat} {σ0 : SP} {wr : va_W} (C : jC x cc_M_freeOf 4 "PlainWarehouseModel") (hT : (jT x)[0]? = some (cA, .int)) (hR : jR x = rm_M_freeOf)  (c1 : Int32) (σ : SM) (v2 : Int32) (v3 : Int32) {u2 : Int32} {u3 : Int32} (n : Nat) (h : lp (fun s => b_M_freeOf_4 c1 σ s.1 s.2) n (v2, v3) = some (u2, u3)) (K : jW x 4 0 0 78 [(0, .ref (bd 0)), (1, .int c1), (2, .int u2), (3, .int u3)] [] ((wP ad cA σ0) ++ ((wM bd cA σ) ++ wr))) : jW x 4 0 0 4 [(0, .ref (bd 0)), (1, .int c1), (2, .int v2), (3, .int v3)] [] ((wP ad cA σ0) ++ ((wM bd cA σ) ++ wr)) :=
  j_lp (Pr := fun s => jW x 4 0 0 4 [(0, .ref (bd 0)), (1, .int c1), (2, .int s.1), (3, .int s.2)] [] ((wP ad cA σ0) ++ ((wM bd cA σ) ++ wr))) (K := fun s => jW x 4 0 0 78 [(0, .ref (bd 0)), (1, .int c1), (2, .int s.1), (3, .int s.2)] [] ((wP ad cA σ0) ++ ((wM bd cA σ) ++ wr))) (fun s o h kc ke => wb_M_freeOf_4 C hT hR c1 σ s.1 s.2 h (fun u2 u3 e => kc _ e) (fun u2 u3 e => ke _ e)) n _ _ h K
set_option maxHeartbeats 4000000 in
set_option maxRecDepth 100000 in
theorem w_M_freeOf {x : JX} {bd : Nat → Nat} {cA : ClassId} {ad : Nat → Nat} {σ0 : SP} {wr : va_W} (C : jC x cc_M_freeOf 4 "PlainWarehouseModel") (hT : (jT x)[0]? = some (cA, .int)) (hR : jR x = rm_M_freeOf)  (a1 : Int32) (σ : SM) {r : Int32} (hr : (jt x).sig.returnType = some .int) (E : jE x 0 0 (some (.int r)) ((wP ad cA σ0) ++ ((wM bd cA σ) ++ wr))) (h : m_M_freeOf a1 σ = some r) : jW x 4 0 0 0 [(0, .ref (bd 0)), (1, .int a1)] [] ((wP ad cA σ0) ++ ((wM bd cA σ) ++ wr)) := by
  unfold m_M_freeOf at h
  refine j_iconst (v := 0) C d_M_freeOf_0 rfl (by decide) ?_
  refine j_istore_n (lv' := [(2, .int (0 : Int32)), (0, .ref (bd 0)), (1, .int a1)]) C d_M_freeOf_1 rfl rfl (by decide) rfl ?_
  refine j_iconst (v := 0) C d_M_freeOf_2 rfl (by decide) ?_
  refine j_istore_n (lv' := [(3, .int (0 : Int32)), (2, .int (0 : Int32)), (0, .ref (bd 0)), (1, .int a1)]) C d_M_freeOf_3 rfl rfl (by decide) rfl ?_
  obtain ⟨w4, w5, h6, h⟩ := mb2_some h
  refine j_sub [2, 3, 1, 0] rfl (wl_M_freeOf_4 C hT hR a1 σ (0 : Int32) (0 : Int32) FU h6 ?_)
  refine j_iload_n C 2 d_M_freeOf_78 rfl rfl rfl ?_
  cases h
  exact j_iret C E hr d_M_freeOf_79
theorem ct_M_freeOf (l : Launch) (D : va_G) (tys : List (ClassId × FieldType)) {bd : Nat → Nat} {cA : ClassId} {ad : Nat → Nat} {σ0 : SP} {wr : va_W} (hT : tys[0]? = some (cA, .int)) (a1 : Int32) (σ : SM) {r : Int32} (h : m_M_freeOf a1 σ = some r) : jM l y_M_freeOf ws_M_freeOf rm_M_freeOf D tys [.ref (bd 0), .int a1] ((wP ad cA σ0) ++ ((wM bd cA σ) ++ wr)) (some (.int r)) ((wP ad cA σ0) ++ ((wM bd cA σ) ++ wr)) :=
  j_of (by decide +kernel) rfl (Nat.le_of_ble_eq_true rfl) rfl (fun x _ _ hT' hR C hr _ E => w_M_freeOf C (by rw [hT']; exact hT) hR a1 σ hr E h)
def rm_M_order : Room := { frames := 2, cells := 0, slots := 0, locals := 43 }
def k_M_order_27 (p1 : Int32) (p2 : Int32) (s0 : Int32) (σ : SM) : Option (Int32 × SM) :=
  (mlet (u_mcode σ s0) fun σ5 => (if (g_mcode σ5) ≤ 0 then (if p2 = 0 then (mb1 (m_M_isOpen (g_mev σ5) p1 σ5) fun r11 => (if r11 = 0 then some ((1 : Int32), σ5) else some ((0 : Int32), σ5))) else (if p2 = (1 : Int32) then (mrd 620 (g_mgt σ5) (((10 : Int32) * (g_mev σ5)) + p1) fun r10 => some (r10, σ5)) else (if p2 = (2 : Int32) then (mrd 620 (g_mog σ5) (((10 : Int32) * (g_mev σ5)) + p1) fun r9 => some (r9, σ5)) else (mrd 620 (g_mog σ5) (((10 : Int32) * (g_mev σ5)) + p1) fun r6 => (mb1 (m_M_freeOf r6 σ5) fun r7 => some (r7, σ5)))))) else some ((0 : Int32), σ5)))
def m_M_order (a1 : Int32) (a2 : Int32) (σ : SM) : Option (Int32 × SM) :=
  (mb1 (m_M_isOrder a1 σ) fun r1 => (if r1 = 0 then (k_M_order_27 a1 a2 (1 : Int32) σ) else (mb1 (m_M_in a2 (0 : Int32) (3 : Int32)) fun r3 => (if r3 = 0 then (k_M_order_27 a1 a2 (2 : Int32) σ) else (k_M_order_27 a1 a2 (0 : Int32) σ)))))
set_option maxHeartbeats 4000000 in
set_option maxRecDepth 100000 in
theorem wk_M_order_27 {x : JX} {bd : Nat → Nat} {cA : ClassId} {ad : Nat → Nat} {σ0 : SP} {wr : va_W} (C : jC x cc_M_order 4 "PlainWarehouseModel") (hT : (jT x)[0]? = some (cA, .int)) (hR : jR x = rm_M_order)  (p1 : Int32) (p2 : Int32) (s0 : Int32) (σ : SM) {r : Int32} {σ' : SM} (hr : (jt x).sig.returnType = some .int) (E : jE x 0 0 (some (.int r)) ((wP ad cA σ0) ++ ((wM bd cA σ') ++ wr))) (h : k_M_order_27 p1 p2 s0 σ = some (r, σ')) : jW x 4 0 0 27 [(0, .ref (bd 0)), (1, .int p1), (2, .int p2)] [.int s0, .ref (bd 0)] ((wP ad cA σ0) ++ ((wM bd cA σ) ++ wr)) := by
  unfold k_M_order_27 at h
  refine j_put C in_M ty_M_ok nm_M 18 rfl rfl 0 (by decide) tw_575 rfl rfl rfl (Nat.le_of_ble_eq_true rfl) (fun t => (wP ad cA σ0) ++ ((wM bd cA t) ++ wr)) d_M_order_27 rfl h rfl (fun σ5 h => ?_)
  refine j_aload_n C 0 d_M_order_30 rfl rfl rfl ?_
  refine j_get C in_M 18 rfl rfl 0 (by decide) tw_575 rfl (v := .int (g_mcode σ5)) rfl d_M_order_31 rfl ?_
  refine j_if_le (tgt := 39) C d_M_order_34 (by decide) rfl h (fun h => ?_) (fun h => ?_)
  · refine j_bipush (v := 10) C d_M_order_39 rfl (by decide) ?_
    refine j_aload_n C 0 d_M_order_41 rfl rfl rfl ?_
    refine j_get C in_M 18 rfl rfl 1 (by decide) tw_576 rfl (v := .int (g_mev σ5)) rfl d_M_order_42 rfl ?_
    refine j_imul C d_M_order_45 rfl ?_
    refine j_iload_n C 1 d_M_order_46 rfl rfl rfl ?_
    refine j_iadd C d_M_order_47 rfl ?_
    refine j_istore_n (lv' := [(3, .int (((10 : Int32) * (g_mev σ5)) + p1)), (0, .ref (bd 0)), (1, .int p1), (2, .int p2)]) C d_M_order_48 rfl rfl (by decide) rfl ?_
    refine j_iload_n C 3 d_M_order_49 rfl rfl rfl ?_
    refine j_if_ne (tgt := 71) C d_M_order_50 (by decide) rfl h (fun h => ?_) (fun h => ?_)
    · refine j_iload_n C 3 d_M_order_71 rfl rfl rfl ?_
      refine j_iconst (v := 1) C d_M_order_72 rfl (by decide) ?_
      refine j_icmp_ne (tgt := 85) C d_M_order_73 (by decide) rfl h (fun h => ?_) (fun h => ?_)
      · refine j_iload_n C 3 d_M_order_85 rfl rfl rfl ?_
        refine j_iconst (v := 2) C d_M_order_86 rfl (by decide) ?_
        refine j_icmp_ne (tgt := 99) C d_M_order_87 (by decide) rfl h (fun h => ?_) (fun h => ?_)
        · refine j_aload_n C 1 d_M_order_99 rfl rfl rfl ?_
          refine j_aload_n C 1 d_M_order_100 rfl rfl rfl ?_
          refine j_get C in_M 18 rfl rfl 11 (by decide) tw_586 rfl (v := .ref (bd 9)) rfl d_M_order_101 rfl ?_
          refine j_iload_n C 0 d_M_order_104 rfl rfl rfl ?_
          refine j_iald C 27 0 rfl hT d_M_order_105 rfl h (fun r6 h => ?_)
          obtain ⟨r7, h8, h⟩ := mb1_some h
          refine j_callV C hR (As := [.int r6]) (ct_M_freeOf (jl x) (jD x) (jT x) hT r6 σ5 h8) kf_M_freeOf (by decide) tw_698 tw_700 tw_40 18 rfl rfl (rest := []) rfl rfl (Nat.le_of_ble_eq_true rfl) (by decide) ⟨rfl, rfl⟩ d_M_order_106 rfl (st1 := [.int r7]) rfl ?_
          cases h
          exact j_iret C E hr d_M_order_109
        · refine j_aload_n C 1 d_M_order_90 rfl rfl rfl ?_
          refine j_get C in_M 18 rfl rfl 11 (by decide) tw_586 rfl (v := .ref (bd 9)) rfl d_M_order_91 rfl ?_
          refine j_iload_n C 0 d_M_order_94 rfl rfl rfl ?_
          refine j_iald C 27 0 rfl hT d_M_order_95 rfl h (fun r9 h => ?_)
          refine j_goto (tgt := 109) C d_M_order_96 (by decide) ?_
          cases h
          exact j_iret C E hr d_M_order_109
      · refine j_aload_n C 1 d_M_order_76 rfl rfl rfl ?_
        refine j_get C in_M 18 rfl rfl 12 (by decide) tw_587 rfl (v := .ref (bd 10)) rfl d_M_order_77 rfl ?_
        refine j_iload_n C 0 d_M_order_80 rfl rfl rfl ?_
        refine j_iald C 28 0 rfl hT d_M_order_81 rfl h (fun r10 h => ?_)
        refine j_goto (tgt := 109) C d_M_order_82 (by decide) ?_
        cases h
        exact j_iret C E hr d_M_order_109
    · refine j_aload_n C 1 d_M_order_53 rfl rfl rfl ?_
      refine j_aload_n C 1 d_M_order_54 rfl rfl rfl ?_
      refine j_get C in_M 18 rfl rfl 1 (by decide) tw_576 rfl (v := .int (g_mev σ5)) rfl d_M_order_55 rfl ?_
      refine j_iload_n C 2 d_M_order_58 rfl rfl rfl ?_
      obtain ⟨r11, h12, h⟩ := mb1_some h
      refine j_callV C hR (As := [.int (g_mev σ5), .int p1]) (ct_M_isOpen (jl x) (jD x) (jT x) hT (g_mev σ5) p1 σ5 h12) kf_M_isOpen (by decide) tw_658 tw_660 tw_35 18 rfl rfl (rest := []) rfl rfl (Nat.le_of_ble_eq_true rfl) (by decide) ⟨rfl, rfl⟩ d_M_order_59 rfl (st1 := [.int r11]) rfl ?_
      refine j_if_eq (tgt := 69) C d_M_order_62 (by decide) rfl h (fun h => ?_) (fun h => ?_)
      · refine j_iconst (v := 1) C d_M_order_69 rfl (by decide) ?_
        cases h
        exact j_iret C E hr d_M_order_70
      · refine j_iconst (v := 0) C d_M_order_65 rfl (by decide) ?_
        refine j_goto (tgt := 70) C d_M_order_66 (by decide) ?_
        cases h
        exact j_iret C E hr d_M_order_70
  · refine j_iconst (v := 0) C d_M_order_37 rfl (by decide) ?_
    cases h
    exact j_iret C E hr d_M_order_38
set_option maxHeartbeats 4000000 in
set_option maxRecDepth 100000 in
theorem w_M_order {x : JX} {bd : Nat → Nat} {cA : ClassId} {ad : Nat → Nat} {σ0 : SP} {wr : va_W} (C : jC x cc_M_order 4 "PlainWarehouseModel") (hT : (jT x)[0]? = some (cA, .int)) (hR : jR x = rm_M_order)  (a1 : Int32) (a2 : Int32) (σ : SM) {r : Int32} {σ' : SM} (hr : (jt x).sig.returnType = some .int) (E : jE x 0 0 (some (.int r)) ((wP ad cA σ0) ++ ((wM bd cA σ') ++ wr))) (h : m_M_order a1 a2 σ = some (r, σ')) : jW x 4 0 0 0 [(0, .ref (bd 0)), (1, .int a1), (2, .int a2)] [] ((wP ad cA σ0) ++ ((wM bd cA σ) ++ wr)) := by
  unfold m_M_order at h
  refine j_aload_n C 0 d_M_order_0 rfl rfl rfl ?_
  refine j_aload_n C 0 d_M_order_1 rfl rfl rfl ?_
  refine j_iload_n C 1 d_M_order_2 rfl rfl rfl ?_
  obtain ⟨r1, h2, h⟩ := mb1_some h
  refine j_callV C hR (As := [.int a1]) (ct_M_isOrder (jl x) (jD x) (jT x) hT a1 σ h2) kf_M_isOrder (by decide) tw_694 tw_696 tw_39 18 rfl rfl (rest := [.ref (bd 0)]) rfl rfl (Nat.le_of_ble_eq_true rfl) (by decide) ⟨rfl, rfl⟩ d_M_order_3 rfl (st1 := [.int r1, .ref (bd 0)]) rfl ?_
  refine j_if_ne (tgt := 13) C d_M_order_6 (by decide) rfl h (fun h => ?_) (fun h => ?_)
  · refine j_iload_n C 2 d_M_order_13 rfl rfl rfl ?_
    refine j_iconst (v := 0) C d_M_order_14 rfl (by decide) ?_
    refine j_iconst (v := 3) C d_M_order_15 rfl (by decide) ?_
    obtain ⟨r3, h4, h⟩ := mb1_some h
    refine j_callS C hR (As := [.int a2, .int (0 : Int32), .int (3 : Int32)]) (ct_M_in (jl x) (jD x) (jT x) a2 (0 : Int32) (3 : Int32) h4) kf_M_in (by decide) tw_644 tw_645 (rest := [.ref (bd 0)]) rfl rfl (Nat.le_of_ble_eq_true rfl) (by decide) ⟨rfl, rfl⟩ d_M_order_16 rfl (st1 := [.int r3, .ref (bd 0)]) rfl ?_
    refine j_if_ne (tgt := 26) C d_M_order_19 (by decide) rfl h (fun h => ?_) (fun h => ?_)
    · refine j_iconst (v := 0) C d_M_order_26 rfl (by decide) ?_
      exact j_sub [0, 1, 2] rfl (wk_M_order_27 C hT hR a1 a2 (0 : Int32) σ hr E h)
    · refine j_iconst (v := 2) C d_M_order_22 rfl (by decide) ?_
      refine j_goto (tgt := 27) C d_M_order_23 (by decide) ?_
      exact j_sub [0, 1, 2] rfl (wk_M_order_27 C hT hR a1 a2 (2 : Int32) σ hr E h)
  · refine j_iconst (v := 1) C d_M_order_9 rfl (by decide) ?_
    refine j_goto (tgt := 27) C d_M_order_10 (by decide) ?_
    exact j_sub [0, 1, 2] rfl (wk_M_order_27 C hT hR a1 a2 (1 : Int32) σ hr E h)
theorem ct_M_order (l : Launch) (D : va_G) (tys : List (ClassId × FieldType)) {bd : Nat → Nat} {cA : ClassId} {ad : Nat → Nat} {σ0 : SP} {wr : va_W} (hT : tys[0]? = some (cA, .int)) (a1 : Int32) (a2 : Int32) (σ : SM) {r : Int32} {σ' : SM} (h : m_M_order a1 a2 σ = some (r, σ')) : jM l y_M_order ws_M_order rm_M_order D tys [.ref (bd 0), .int a1, .int a2] ((wP ad cA σ0) ++ ((wM bd cA σ) ++ wr)) (some (.int r)) ((wP ad cA σ0) ++ ((wM bd cA σ') ++ wr)) :=
  j_of (by decide +kernel) rfl (Nat.le_of_ble_eq_true rfl) rfl (fun x _ _ hT' hR C hr _ E => w_M_order C (by rw [hT']; exact hT) hR a1 a2 σ hr E h)
def rm_M_filled : Room := { frames := 1, cells := 0, slots := 0, locals := 23 }
def b_M_filled_22 (c1 : Int32) (c2 : Int32) (c5 : Int32) (σ : SM) (v3 : Int32) (v4 : Int32) (v6 : Int32) : Option ((Int32 × Int32 × Int32) ⊕ (Int32 × Int32 × Int32)) :=
  (if (10 : Int32) ≤ v6 then some (.inr (v3, v4, v6)) else (if ((c1 >>> (v6 &&& 31)) &&& (1 : Int32)) = 0 then some (.inl (v3, v4, (v6 + 1))) else (mrd 620 (g_mog σ) (((10 : Int32) * (g_mev σ)) + v6) fun r3 => (if r3 = c2 then (mrd 620 (g_mwa σ) (((10 : Int32) * (g_mev σ)) + v6) fun r4 => (mrd 620 (g_mgt σ) (((10 : Int32) * (g_mev σ)) + v6) fun r5 => (if (r4 - r5) = c5 then (if c5 ≤ v3 then some (.inl ((v3 - c5), (v4 + 1), (v6 + 1))) else some (.inl (v3, v4, (v6 + 1)))) else some (.inl (v3, v4, (v6 + 1)))))) else some (.inl (v3, v4, (v6 + 1)))))))
def b_M_filled_12 (c1 : Int32) (c2 : Int32) (σ : SM) (v3 : Int32) (v4 : Int32) (v5 : Int32) : Option ((Int32 × Int32 × Int32) ⊕ (Int32 × Int32 × Int32)) :=
  (if (10 : Int32) ≤ v5 then some (.inr (v3, v4, v5)) else (mb3 (lp (fun s => b_M_filled_22 c1 c2 v5 σ s.1 s.2.1 s.2.2) FU (v3, v4, (0 : Int32))) fun w6 w7 w8 => some (.inl (w6, w7, (v5 + 1)))))
def m_M_filled (a1 : Int32) (a2 : Int32) (σ : SM) : Option (Int32) :=
  (mb1 (m_M_freeOf a2 σ) fun r1 => (mb3 (lp (fun s => b_M_filled_12 a1 a2 σ s.1 s.2.1 s.2.2) FU (r1, (0 : Int32), (1 : Int32))) fun w10 w11 w12 => some w11))
set_option maxHeartbeats 4000000 in
set_option maxRecDepth 100000 in
theorem wb_M_filled_22 {x : JX} {bd : Nat → Nat} {cA : ClassId} {ad : Nat → Nat} {σ0 : SP} {wr : va_W} (C : jC x cc_M_filled 8 "PlainWarehouseModel") (hT : (jT x)[0]? = some (cA, .int)) (hR : jR x = rm_M_filled)  (c1 : Int32) (c2 : Int32) (c5 : Int32) (σ : SM) (v3 : Int32) (v4 : Int32) (v6 : Int32) {o : (Int32 × Int32 × Int32) ⊕ (Int32 × Int32 × Int32)} (h : b_M_filled_22 c1 c2 c5 σ v3 v4 v6 = some o) (kc : ∀ (u3 : Int32) (u4 : Int32) (u6 : Int32), o = .inl (u3, u4, u6) → jW x 8 0 0 22 [(0, .ref (bd 0)), (1, .int c1), (2, .int c2), (3, .int u3), (4, .int u4), (5, .int c5), (6, .int u6)] [] ((wP ad cA σ0) ++ ((wM bd cA σ) ++ wr))) (ke : ∀ (u3 : Int32) (u4 : Int32) (u6 : Int32), o = .inr (u3, u4, u6) → jW x 8 0 0 104 [(0, .ref (bd 0)), (1, .int c1), (2, .int c2), (3, .int u3), (4, .int u4), (5, .int c5), (6, .int u6)] [] ((wP ad cA σ0) ++ ((wM bd cA σ) ++ wr))) : jW x 8 0 0 22 [(0, .ref (bd 0)), (1, .int c1), (2, .int c2), (3, .int v3), (4, .int v4), (5, .int c5), (6, .int v6)] [] ((wP ad cA σ0) ++ ((wM bd cA σ) ++ wr)) := by
  unfold b_M_filled_22 at h
  refine j_iload C 6 d_M_filled_22 rfl rfl ?_
  refine j_bipush (v := 10) C d_M_filled_24 rfl (by decide) ?_
  refine j_icmp_ge (tgt := 104) C d_M_filled_26 (by decide) rfl h (fun h => ?_) (fun h => ?_)
  · cases h
    refine j_sub [0, 1, 2, 3, 4, 5, 6] rfl (ke _ _ _ rfl)
  · refine j_bipush (v := 10) C d_M_filled_29 rfl (by decide) ?_
    refine j_aload_n C 0 d_M_filled_31 rfl rfl rfl ?_
    refine j_get C in_M 18 rfl rfl 1 (by decide) tw_576 rfl (v := .int (g_mev σ)) rfl d_M_filled_32 rfl ?_
    refine j_imul C d_M_filled_35 rfl ?_
    refine j_iload C 6 d_M_filled_36 rfl rfl ?_
    refine j_iadd C d_M_filled_38 rfl ?_
    refine j_istore (lv' := [(7, .int (((10 : Int32) * (g_mev σ)) + v6)), (0, .ref (bd 0)), (1, .int c1), (2, .int c2), (3, .int v3), (4, .int v4), (5, .int c5), (6, .int v6)]) C d_M_filled_39 rfl (by decide) rfl ?_
    refine j_iload_n C 2 d_M_filled_41 rfl rfl rfl ?_
    refine j_iload C 7 d_M_filled_42 rfl rfl ?_
    refine j_ishr C d_M_filled_44 rfl ?_
    refine j_iconst (v := 1) C d_M_filled_45 rfl (by decide) ?_
    refine j_iand C d_M_filled_46 rfl ?_
    refine j_if_eq (tgt := 98) C d_M_filled_47 (by decide) rfl h (fun h => ?_) (fun h => ?_)
    · refine j_iinc (v' := (v6 + 1)) (lv' := [(6, .int (v6 + 1)), (7, .int (((10 : Int32) * (g_mev σ)) + v6)), (0, .ref (bd 0)), (1, .int c1), (2, .int c2), (3, .int v3), (4, .int v4), (5, .int c5)]) C 7 d_M_filled_98 rfl rfl rfl (by decide) rfl ?_
      refine j_goto (tgt := 22) C d_M_filled_101 (by decide) ?_
      cases h
      refine j_sub [2, 3, 4, 5, 6, 7, 0] rfl (kc _ _ _ rfl)
    · refine j_aload_n C 1 d_M_filled_50 rfl rfl rfl ?_
      refine j_get C in_M 18 rfl rfl 11 (by decide) tw_586 rfl (v := .ref (bd 9)) rfl d_M_filled_51 rfl ?_
      refine j_iload C 0 d_M_filled_54 rfl rfl ?_
      refine j_iald C 27 0 rfl hT d_M_filled_56 rfl h (fun r3 h => ?_)
      refine j_iload_n C 3 d_M_filled_57 rfl rfl rfl ?_
      refine j_icmp_ne (tgt := 98) C d_M_filled_58 (by decide) rfl h (fun h => ?_) (fun h => ?_)
      · refine j_iinc (v' := (v6 + 1)) (lv' := [(6, .int (v6 + 1)), (7, .int (((10 : Int32) * (g_mev σ)) + v6)), (0, .ref (bd 0)), (1, .int c1), (2, .int c2), (3, .int v3), (4, .int v4), (5, .int c5)]) C 7 d_M_filled_98 rfl rfl rfl (by decide) rfl ?_
        refine j_goto (tgt := 22) C d_M_filled_101 (by decide) ?_
        cases h
        refine j_sub [2, 3, 4, 5, 6, 7, 0] rfl (kc _ _ _ rfl)
      · refine j_aload_n C 1 d_M_filled_61 rfl rfl rfl ?_
        refine j_get C in_M 18 rfl rfl 10 (by decide) tw_585 rfl (v := .ref (bd 8)) rfl d_M_filled_62 rfl ?_
        refine j_iload C 0 d_M_filled_65 rfl rfl ?_
        refine j_iald C 26 0 rfl hT d_M_filled_67 rfl h (fun r4 h => ?_)
        refine j_aload_n C 1 d_M_filled_68 rfl rfl rfl ?_
        refine j_get C in_M 18 rfl rfl 12 (by decide) tw_587 rfl (v := .ref (bd 10)) rfl d_M_filled_69 rfl ?_
        refine j_iload C 0 d_M_filled_72 rfl rfl ?_
        refine j_iald C 28 0 rfl hT d_M_filled_74 rfl h (fun r5 h => ?_)
        refine j_isub C d_M_filled_75 rfl ?_
        refine j_iload C 6 d_M_filled_76 rfl rfl ?_
        refine j_icmp_ne (tgt := 98) C d_M_filled_78 (by decide) rfl h (fun h => ?_) (fun h => ?_)
        · refine j_iinc (v' := (v6 + 1)) (lv' := [(6, .int (v6 + 1)), (7, .int (((10 : Int32) * (g_mev σ)) + v6)), (0, .ref (bd 0)), (1, .int c1), (2, .int c2), (3, .int v3), (4, .int v4), (5, .int c5)]) C 7 d_M_filled_98 rfl rfl rfl (by decide) rfl ?_
          refine j_goto (tgt := 22) C d_M_filled_101 (by decide) ?_
          cases h
          refine j_sub [2, 3, 4, 5, 6, 7, 0] rfl (kc _ _ _ rfl)
        · refine j_iload C 6 d_M_filled_81 rfl rfl ?_
          refine j_iload_n C 4 d_M_filled_83 rfl rfl rfl ?_
          refine j_icmp_le (tgt := 90) C d_M_filled_84 (by decide) rfl h (fun h => ?_) (fun h => ?_)
          · refine j_iload_n C 4 d_M_filled_90 rfl rfl rfl ?_
            refine j_iload C 6 d_M_filled_91 rfl rfl ?_
            refine j_isub C d_M_filled_93 rfl ?_
            refine j_istore_n (lv' := [(3, .int (v3 - c5)), (7, .int (((10 : Int32) * (g_mev σ)) + v6)), (0, .ref (bd 0)), (1, .int c1), (2, .int c2), (4, .int v4), (5, .int c5), (6, .int v6)]) C d_M_filled_94 rfl rfl (by decide) rfl ?_
            refine j_iinc (v' := (v4 + 1)) (lv' := [(4, .int (v4 + 1)), (3, .int (v3 - c5)), (7, .int (((10 : Int32) * (g_mev σ)) + v6)), (0, .ref (bd 0)), (1, .int c1), (2, .int c2), (5, .int c5), (6, .int v6)]) C 5 d_M_filled_95 rfl rfl rfl (by decide) rfl ?_
            refine j_iinc (v' := (v6 + 1)) (lv' := [(6, .int (v6 + 1)), (4, .int (v4 + 1)), (3, .int (v3 - c5)), (7, .int (((10 : Int32) * (g_mev σ)) + v6)), (0, .ref (bd 0)), (1, .int c1), (2, .int c2), (5, .int c5)]) C 7 d_M_filled_98 rfl rfl rfl (by decide) rfl ?_
            refine j_goto (tgt := 22) C d_M_filled_101 (by decide) ?_
            cases h
            refine j_sub [4, 5, 6, 2, 1, 7, 0] rfl (kc _ _ _ rfl)
          · refine j_goto (tgt := 98) C d_M_filled_87 (by decide) ?_
            refine j_iinc (v' := (v6 + 1)) (lv' := [(6, .int (v6 + 1)), (7, .int (((10 : Int32) * (g_mev σ)) + v6)), (0, .ref (bd 0)), (1, .int c1), (2, .int c2), (3, .int v3), (4, .int v4), (5, .int c5)]) C 7 d_M_filled_98 rfl rfl rfl (by decide) rfl ?_
            refine j_goto (tgt := 22) C d_M_filled_101 (by decide) ?_
            cases h
            refine j_sub [2, 3, 4, 5, 6, 7, 0] rfl (kc _ _ _ rfl)
set_option maxRecDepth 100000 in
theorem wl_M_filled_22 {x : JX} {bd : Nat → Nat} {cA : ClassId} {ad : Nat → Nat} {σ0 : SP} {wr : va_W} (C : jC x cc_M_filled 8 "PlainWarehouseModel") (hT : (jT x)[0]? = some (cA, .int)) (hR : jR x = rm_M_filled)  (c1 : Int32) (c2 : Int32) (c5 : Int32) (σ : SM) (v3 : Int32) (v4 : Int32) (v6 : Int32) {u3 : Int32} {u4 : Int32} {u6 : Int32} (n : Nat) (h : lp (fun s => b_M_filled_22 c1 c2 c5 σ s.1 s.2.1 s.2.2) n (v3, v4, v6) = some (u3, u4, u6)) (K : jW x 8 0 0 104 [(0, .ref (bd 0)), (1, .int c1), (2, .int c2), (3, .int u3), (4, .int u4), (5, .int c5), (6, .int u6)] [] ((wP ad cA σ0) ++ ((wM bd cA σ) ++ wr))) : jW x 8 0 0 22 [(0, .ref (bd 0)), (1, .int c1), (2, .int c2), (3, .int v3), (4, .int v4), (5, .int c5), (6, .int v6)] [] ((wP ad cA σ0) ++ ((wM bd cA σ) ++ wr)) :=
  j_lp (Pr := fun s => jW x 8 0 0 22 [(0, .ref (bd 0)), (1, .int c1), (2, .int c2), (3, .int s.1), (4, .int s.2.1), (5, .int c5), (6, .int s.2.2)] [] ((wP ad cA σ0) ++ ((wM bd cA σ) ++ wr))) (K := fun s => jW x 8 0 0 104 [(0, .ref (bd 0)), (1, .int c1), (2, .int c2), (3, .int s.1), (4, .int s.2.1), (5, .int c5), (6, .int s.2.2)] [] ((wP ad cA σ0) ++ ((wM bd cA σ) ++ wr))) (fun s o h kc ke => wb_M_filled_22 C hT hR c1 c2 c5 σ s.1 s.2.1 s.2.2 h (fun u3 u4 u6 e => kc _ e) (fun u3 u4 u6 e => ke _ e)) n _ _ h K
set_option maxHeartbeats 4000000 in
set_option maxRecDepth 100000 in
theorem wb_M_filled_12 {x : JX} {bd : Nat → Nat} {cA : ClassId} {ad : Nat → Nat} {σ0 : SP} {wr : va_W} (C : jC x cc_M_filled 8 "PlainWarehouseModel") (hT : (jT x)[0]? = some (cA, .int)) (hR : jR x = rm_M_filled)  (c1 : Int32) (c2 : Int32) (σ : SM) (v3 : Int32) (v4 : Int32) (v5 : Int32) {o : (Int32 × Int32 × Int32) ⊕ (Int32 × Int32 × Int32)} (h : b_M_filled_12 c1 c2 σ v3 v4 v5 = some o) (kc : ∀ (u3 : Int32) (u4 : Int32) (u5 : Int32), o = .inl (u3, u4, u5) → jW x 8 0 0 12 [(0, .ref (bd 0)), (1, .int c1), (2, .int c2), (3, .int u3), (4, .int u4), (5, .int u5)] [] ((wP ad cA σ0) ++ ((wM bd cA σ) ++ wr))) (ke : ∀ (u3 : Int32) (u4 : Int32) (u5 : Int32), o = .inr (u3, u4, u5) → jW x 8 0 0 110 [(0, .ref (bd 0)), (1, .int c1), (2, .int c2), (3, .int u3), (4, .int u4), (5, .int u5)] [] ((wP ad cA σ0) ++ ((wM bd cA σ) ++ wr))) : jW x 8 0 0 12 [(0, .ref (bd 0)), (1, .int c1), (2, .int c2), (3, .int v3), (4, .int v4), (5, .int v5)] [] ((wP ad cA σ0) ++ ((wM bd cA σ) ++ wr)) := by
  unfold b_M_filled_12 at h
  refine j_iload C 5 d_M_filled_12 rfl rfl ?_
  refine j_bipush (v := 10) C d_M_filled_14 rfl (by decide) ?_
  refine j_icmp_ge (tgt := 110) C d_M_filled_16 (by decide) rfl h (fun h => ?_) (fun h => ?_)
  · cases h
    refine j_sub [0, 1, 2, 3, 4, 5] rfl (ke _ _ _ rfl)
  · refine j_iconst (v := 0) C d_M_filled_19 rfl (by decide) ?_
    refine j_istore (lv' := [(6, .int (0 : Int32)), (0, .ref (bd 0)), (1, .int c1), (2, .int c2), (3, .int v3), (4, .int v4), (5, .int v5)]) C d_M_filled_20 rfl (by decide) rfl ?_
    obtain ⟨w6, w7, w8, h9, h⟩ := mb3_some h
    refine j_sub [1, 2, 3, 4, 5, 6, 0] rfl (wl_M_filled_22 C hT hR c1 c2 v5 σ v3 v4 (0 : Int32) FU h9 ?_)
    refine j_iinc (v' := (v5 + 1)) (lv' := [(5, .int (v5 + 1)), (0, .ref (bd 0)), (1, .int c1), (2, .int c2), (3, .int w6), (4, .int w7), (6, .int w8)]) C 5 d_M_filled_104 rfl rfl rfl (by decide) rfl ?_
    refine j_goto (tgt := 12) C d_M_filled_107 (by decide) ?_
    cases h
    refine j_sub [1, 2, 3, 4, 5, 0] rfl (kc _ _ _ rfl)
set_option maxRecDepth 100000 in
theorem wl_M_filled_12 {x : JX} {bd : Nat → Nat} {cA : ClassId} {ad : Nat → Nat} {σ0 : SP} {wr : va_W} (C : jC x cc_M_filled 8 "PlainWarehouseModel") (hT : (jT x)[0]? = some (cA, .int)) (hR : jR x = rm_M_filled)  (c1 : Int32) (c2 : Int32) (σ : SM) (v3 : Int32) (v4 : Int32) (v5 : Int32) {u3 : Int32} {u4 : Int32} {u5 : Int32} (n : Nat) (h : lp (fun s => b_M_filled_12 c1 c2 σ s.1 s.2.1 s.2.2) n (v3, v4, v5) = some (u3, u4, u5)) (K : jW x 8 0 0 110 [(0, .ref (bd 0)), (1, .int c1), (2, .int c2), (3, .int u3), (4, .int u4), (5, .int u5)] [] ((wP ad cA σ0) ++ ((wM bd cA σ) ++ wr))) : jW x 8 0 0 12 [(0, .ref (bd 0)), (1, .int c1), (2, .int c2), (3, .int v3), (4, .int v4), (5, .int v5)] [] ((wP ad cA σ0) ++ ((wM bd cA σ) ++ wr)) :=
  j_lp (Pr := fun s => jW x 8 0 0 12 [(0, .ref (bd 0)), (1, .int c1), (2, .int c2), (3, .int s.1), (4, .int s.2.1), (5, .int s.2.2)] [] ((wP ad cA σ0) ++ ((wM bd cA σ) ++ wr))) (K := fun s => jW x 8 0 0 110 [(0, .ref (bd 0)), (1, .int c1), (2, .int c2), (3, .int s.1), (4, .int s.2.1), (5, .int s.2.2)] [] ((wP ad cA σ0) ++ ((wM bd cA σ) ++ wr))) (fun s o h kc ke => wb_M_filled_12 C hT hR c1 c2 σ s.1 s.2.1 s.2.2 h (fun u3 u4 u5 e => kc _ e) (fun u3 u4 u5 e => ke _ e)) n _ _ h K
set_option maxHeartbeats 4000000 in
set_option maxRecDepth 100000 in
theorem w_M_filled {x : JX} {bd : Nat → Nat} {cA : ClassId} {ad : Nat → Nat} {σ0 : SP} {wr : va_W} (C : jC x cc_M_filled 8 "PlainWarehouseModel") (hT : (jT x)[0]? = some (cA, .int)) (hR : jR x = rm_M_filled)  (a1 : Int32) (a2 : Int32) (σ : SM) {r : Int32} (hr : (jt x).sig.returnType = some .int) (E : jE x 0 0 (some (.int r)) ((wP ad cA σ0) ++ ((wM bd cA σ) ++ wr))) (h : m_M_filled a1 a2 σ = some r) : jW x 8 0 0 0 [(0, .ref (bd 0)), (1, .int a1), (2, .int a2)] [] ((wP ad cA σ0) ++ ((wM bd cA σ) ++ wr)) := by
  unfold m_M_filled at h
  refine j_aload_n C 0 d_M_filled_0 rfl rfl rfl ?_
  refine j_iload_n C 2 d_M_filled_1 rfl rfl rfl ?_
  obtain ⟨r1, h2, h⟩ := mb1_some h
  refine j_callV C hR (As := [.int a2]) (ct_M_freeOf (jl x) (jD x) (jT x) hT a2 σ h2) kf_M_freeOf (by decide) tw_698 tw_700 tw_40 18 rfl rfl (rest := []) rfl rfl (Nat.le_of_ble_eq_true rfl) (by decide) ⟨rfl, rfl⟩ d_M_filled_2 rfl (st1 := [.int r1]) rfl ?_
  refine j_istore_n (lv' := [(3, .int r1), (0, .ref (bd 0)), (1, .int a1), (2, .int a2)]) C d_M_filled_5 rfl rfl (by decide) rfl ?_
  refine j_iconst (v := 0) C d_M_filled_6 rfl (by decide) ?_
  refine j_istore (lv' := [(4, .int (0 : Int32)), (3, .int r1), (0, .ref (bd 0)), (1, .int a1), (2, .int a2)]) C d_M_filled_7 rfl (by decide) rfl ?_
  refine j_iconst (v := 1) C d_M_filled_9 rfl (by decide) ?_
  refine j_istore (lv' := [(5, .int (1 : Int32)), (4, .int (0 : Int32)), (3, .int r1), (0, .ref (bd 0)), (1, .int a1), (2, .int a2)]) C d_M_filled_10 rfl (by decide) rfl ?_
  obtain ⟨w10, w11, w12, h13, h⟩ := mb3_some h
  refine j_sub [3, 4, 5, 2, 1, 0] rfl (wl_M_filled_12 C hT hR a1 a2 σ r1 (0 : Int32) (1 : Int32) FU h13 ?_)
  refine j_iload C 4 d_M_filled_110 rfl rfl ?_
  cases h
  exact j_iret C E hr d_M_filled_112
theorem ct_M_filled (l : Launch) (D : va_G) (tys : List (ClassId × FieldType)) {bd : Nat → Nat} {cA : ClassId} {ad : Nat → Nat} {σ0 : SP} {wr : va_W} (hT : tys[0]? = some (cA, .int)) (a1 : Int32) (a2 : Int32) (σ : SM) {r : Int32} (h : m_M_filled a1 a2 σ = some r) : jM l y_M_filled ws_M_filled rm_M_filled D tys [.ref (bd 0), .int a1, .int a2] ((wP ad cA σ0) ++ ((wM bd cA σ) ++ wr)) (some (.int r)) ((wP ad cA σ0) ++ ((wM bd cA σ) ++ wr)) :=
  j_of (by decide +kernel) rfl (Nat.le_of_ble_eq_true rfl) rfl (fun x _ _ hT' hR C hr _ E => w_M_filled C (by rw [hT']; exact hT) hR a1 a2 σ hr E h)
def rm_M_promise : Room := { frames := 2, cells := 0, slots := 0, locals := 50 }
def b_M_promise_24 (c1 : Int32) (v2 : Int32) (v3 : Int32) (σ : SM) : Option ((Int32 × Int32 × SM) ⊕ (Int32 × Int32 × SM)) :=
  (if (10 : Int32) ≤ v3 then some (.inr (v2, v3, σ)) else (if (g_mcode σ) = 0 then (if ((c1 >>> (v3 &&& 31)) &&& (1 : Int32)) = 0 then some (.inl (v2, (v3 + 1), σ)) else (mb1 (m_M_isOrder v3 σ) fun r2 => (if r2 = 0 then (mlet (u_mcode σ (1 : Int32)) fun σ4 => some (.inl ((v2 + 1), (v3 + 1), σ4))) else (mlet (u_mcode σ (0 : Int32)) fun σ5 => some (.inl ((v2 + 1), (v3 + 1), σ5)))))) else some (.inr (v2, v3, σ))))
def b_M_promise_96 (c1 : Int32) (σ : SM) (v3 : Int32) (v4 : Int32) : Option ((Int32 × Int32) ⊕ (Int32 × Int32)) :=
  (if (6 : Int32) ≤ v4 then some (.inr (v3, v4)) else (mb1 (m_M_filled c1 v4 σ) fun r10 => some (.inl ((v3 + r10), (v4 + 1)))))
def k_M_promise_74 (p1 : Int32) (p2 : Int32) (σ : SM) : Option (Int32 × SM) :=
  (if (g_mcode σ) ≤ 0 then (if p2 ≤ (6 : Int32) then (mb2 (lp (fun s => b_M_promise_96 p1 σ s.1 s.2) FU ((0 : Int32), (0 : Int32))) fun w12 w13 => some (w12, σ)) else some ((-1 : Int32), σ)) else some ((0 : Int32), σ))
def k_M_promise_17 (p1 : Int32) (s0 : Int32) (σ : SM) : Option (Int32 × SM) :=
  (mlet (u_mcode σ s0) fun σ1 => (mb3 (lp (fun s => b_M_promise_24 p1 s.1 s.2.1 s.2.2) FU ((0 : Int32), (0 : Int32), σ1)) fun w6 w7 σ8 => (k_M_promise_74 p1 w6 σ8)))
def k_M_promise_12 (p1 : Int32) (σ : SM) : Option (Int32 × SM) :=
  (k_M_promise_17 p1 (1 : Int32) σ)
def m_M_promise (a1 : Int32) (σ : SM) : Option (Int32 × SM) :=
  (if a1 < 0 then (k_M_promise_12 a1 σ) else (if (a1 >>> ((10 : Int32) &&& 31)) = 0 then (k_M_promise_17 a1 (0 : Int32) σ) else (k_M_promise_12 a1 σ)))
set_option maxHeartbeats 4000000 in
set_option maxRecDepth 100000 in
theorem wb_M_promise_24 {x : JX} {bd : Nat → Nat} {cA : ClassId} {ad : Nat → Nat} {σ0 : SP} {wr : va_W} (C : jC x cc_M_promise 5 "PlainWarehouseModel") (hT : (jT x)[0]? = some (cA, .int)) (hR : jR x = rm_M_promise)  (c1 : Int32) (σ : SM) (v2 : Int32) (v3 : Int32) {o : (Int32 × Int32 × SM) ⊕ (Int32 × Int32 × SM)} (h : b_M_promise_24 c1 v2 v3 σ = some o) (kc : ∀ (u2 : Int32) (u3 : Int32) (τ : SM), o = .inl (u2, u3, τ) → jW x 5 0 0 24 [(0, .ref (bd 0)), (1, .int c1), (2, .int u2), (3, .int u3)] [] ((wP ad cA σ0) ++ ((wM bd cA τ) ++ wr))) (ke : ∀ (u2 : Int32) (u3 : Int32) (τ : SM), o = .inr (u2, u3, τ) → jW x 5 0 0 74 [(0, .ref (bd 0)), (1, .int c1), (2, .int u2), (3, .int u3)] [] ((wP ad cA σ0) ++ ((wM bd cA τ) ++ wr))) : jW x 5 0 0 24 [(0, .ref (bd 0)), (1, .int c1), (2, .int v2), (3, .int v3)] [] ((wP ad cA σ0) ++ ((wM bd cA σ) ++ wr)) := by
  unfold b_M_promise_24 at h
  refine j_iload_n C 3 d_M_promise_24 rfl rfl rfl ?_
  refine j_bipush (v := 10) C d_M_promise_25 rfl (by decide) ?_
  refine j_icmp_ge (tgt := 74) C d_M_promise_27 (by decide) rfl h (fun h => ?_) (fun h => ?_)
  · cases h
    refine j_sub [0, 1, 2, 3] rfl (ke _ _ _ rfl)
  · refine j_aload_n C 0 d_M_promise_30 rfl rfl rfl ?_
    refine j_get C in_M 18 rfl rfl 0 (by decide) tw_575 rfl (v := .int (g_mcode σ)) rfl d_M_promise_31 rfl ?_
    refine j_if_ne (tgt := 74) C d_M_promise_34 (by decide) rfl h (fun h => ?_) (fun h => ?_)
    · cases h
      refine j_sub [0, 1, 2, 3] rfl (ke _ _ _ rfl)
    · refine j_iload_n C 1 d_M_promise_37 rfl rfl rfl ?_
      refine j_iload_n C 3 d_M_promise_38 rfl rfl rfl ?_
      refine j_ishr C d_M_promise_39 rfl ?_
      refine j_iconst (v := 1) C d_M_promise_40 rfl (by decide) ?_
      refine j_iand C d_M_promise_41 rfl ?_
      refine j_if_ne (tgt := 48) C d_M_promise_42 (by decide) rfl h (fun h => ?_) (fun h => ?_)
      · refine j_aload_n C 0 d_M_promise_48 rfl rfl rfl ?_
        refine j_aload_n C 0 d_M_promise_49 rfl rfl rfl ?_
        refine j_iload_n C 3 d_M_promise_50 rfl rfl rfl ?_
        obtain ⟨r2, h3, h⟩ := mb1_some h
        refine j_callV C hR (As := [.int v3]) (ct_M_isOrder (jl x) (jD x) (jT x) hT v3 σ h3) kf_M_isOrder (by decide) tw_694 tw_696 tw_39 18 rfl rfl (rest := [.ref (bd 0)]) rfl rfl (Nat.le_of_ble_eq_true rfl) (by decide) ⟨rfl, rfl⟩ d_M_promise_51 rfl (st1 := [.int r2, .ref (bd 0)]) rfl ?_
        refine j_if_eq (tgt := 61) C d_M_promise_54 (by decide) rfl h (fun h => ?_) (fun h => ?_)
        · refine j_iconst (v := 1) C d_M_promise_61 rfl (by decide) ?_
          refine j_put C in_M ty_M_ok nm_M 18 rfl rfl 0 (by decide) tw_575 rfl rfl rfl (Nat.le_of_ble_eq_true rfl) (fun t => (wP ad cA σ0) ++ ((wM bd cA t) ++ wr)) d_M_promise_62 rfl h rfl (fun σ4 h => ?_)
          refine j_iinc (v' := (v2 + 1)) (lv' := [(2, .int (v2 + 1)), (0, .ref (bd 0)), (1, .int c1), (3, .int v3)]) C 2 d_M_promise_65 rfl rfl rfl (by decide) rfl ?_
          refine j_iinc (v' := (v3 + 1)) (lv' := [(3, .int (v3 + 1)), (2, .int (v2 + 1)), (0, .ref (bd 0)), (1, .int c1)]) C 3 d_M_promise_68 rfl rfl rfl (by decide) rfl ?_
          refine j_goto (tgt := 24) C d_M_promise_71 (by decide) ?_
          cases h
          refine j_sub [2, 3, 1, 0] rfl (kc _ _ _ rfl)
        · refine j_iconst (v := 0) C d_M_promise_57 rfl (by decide) ?_
          refine j_goto (tgt := 62) C d_M_promise_58 (by decide) ?_
          refine j_put C in_M ty_M_ok nm_M 18 rfl rfl 0 (by decide) tw_575 rfl rfl rfl (Nat.le_of_ble_eq_true rfl) (fun t => (wP ad cA σ0) ++ ((wM bd cA t) ++ wr)) d_M_promise_62 rfl h rfl (fun σ5 h => ?_)
          refine j_iinc (v' := (v2 + 1)) (lv' := [(2, .int (v2 + 1)), (0, .ref (bd 0)), (1, .int c1), (3, .int v3)]) C 2 d_M_promise_65 rfl rfl rfl (by decide) rfl ?_
          refine j_iinc (v' := (v3 + 1)) (lv' := [(3, .int (v3 + 1)), (2, .int (v2 + 1)), (0, .ref (bd 0)), (1, .int c1)]) C 3 d_M_promise_68 rfl rfl rfl (by decide) rfl ?_
          refine j_goto (tgt := 24) C d_M_promise_71 (by decide) ?_
          cases h
          refine j_sub [2, 3, 1, 0] rfl (kc _ _ _ rfl)
      · refine j_goto (tgt := 68) C d_M_promise_45 (by decide) ?_
        refine j_iinc (v' := (v3 + 1)) (lv' := [(3, .int (v3 + 1)), (0, .ref (bd 0)), (1, .int c1), (2, .int v2)]) C 3 d_M_promise_68 rfl rfl rfl (by decide) rfl ?_
        refine j_goto (tgt := 24) C d_M_promise_71 (by decide) ?_
        cases h
        refine j_sub [1, 2, 3, 0] rfl (kc _ _ _ rfl)
set_option maxRecDepth 100000 in
theorem wl_M_promise_24 {x : JX} {bd : Nat → Nat} {cA : ClassId} {ad : Nat → Nat} {σ0 : SP} {wr : va_W} (C : jC x cc_M_promise 5 "PlainWarehouseModel") (hT : (jT x)[0]? = some (cA, .int)) (hR : jR x = rm_M_promise)  (c1 : Int32) (σ : SM) (v2 : Int32) (v3 : Int32) {u2 : Int32} {u3 : Int32} {τ : SM} (n : Nat) (h : lp (fun s => b_M_promise_24 c1 s.1 s.2.1 s.2.2) n (v2, v3, σ) = some (u2, u3, τ)) (K : jW x 5 0 0 74 [(0, .ref (bd 0)), (1, .int c1), (2, .int u2), (3, .int u3)] [] ((wP ad cA σ0) ++ ((wM bd cA τ) ++ wr))) : jW x 5 0 0 24 [(0, .ref (bd 0)), (1, .int c1), (2, .int v2), (3, .int v3)] [] ((wP ad cA σ0) ++ ((wM bd cA σ) ++ wr)) :=
  j_lp (Pr := fun s => jW x 5 0 0 24 [(0, .ref (bd 0)), (1, .int c1), (2, .int s.1), (3, .int s.2.1)] [] ((wP ad cA σ0) ++ ((wM bd cA s.2.2) ++ wr))) (K := fun s => jW x 5 0 0 74 [(0, .ref (bd 0)), (1, .int c1), (2, .int s.1), (3, .int s.2.1)] [] ((wP ad cA σ0) ++ ((wM bd cA s.2.2) ++ wr))) (fun s o h kc ke => wb_M_promise_24 C hT hR c1 s.2.2 s.1 s.2.1 h (fun u2 u3 τ e => kc _ e) (fun u2 u3 τ e => ke _ e)) n _ _ h K
set_option maxHeartbeats 4000000 in
set_option maxRecDepth 100000 in
theorem wb_M_promise_96 {x : JX} {bd : Nat → Nat} {cA : ClassId} {ad : Nat → Nat} {σ0 : SP} {wr : va_W} (C : jC x cc_M_promise 5 "PlainWarehouseModel") (hT : (jT x)[0]? = some (cA, .int)) (hR : jR x = rm_M_promise)  (c1 : Int32) (σ : SM) (v3 : Int32) (v4 : Int32) {o : (Int32 × Int32) ⊕ (Int32 × Int32)} (h : b_M_promise_96 c1 σ v3 v4 = some o) (kc : ∀ (u3 : Int32) (u4 : Int32), o = .inl (u3, u4) → jW x 5 0 0 96 [(0, .ref (bd 0)), (1, .int c1), (3, .int u3), (4, .int u4)] [] ((wP ad cA σ0) ++ ((wM bd cA σ) ++ wr))) (ke : ∀ (u3 : Int32) (u4 : Int32), o = .inr (u3, u4) → jW x 5 0 0 119 [(0, .ref (bd 0)), (1, .int c1), (3, .int u3), (4, .int u4)] [] ((wP ad cA σ0) ++ ((wM bd cA σ) ++ wr))) : jW x 5 0 0 96 [(0, .ref (bd 0)), (1, .int c1), (3, .int v3), (4, .int v4)] [] ((wP ad cA σ0) ++ ((wM bd cA σ) ++ wr)) := by
  unfold b_M_promise_96 at h
  refine j_iload C 3 d_M_promise_96 rfl rfl ?_
  refine j_bipush (v := 6) C d_M_promise_98 rfl (by decide) ?_
  refine j_icmp_ge (tgt := 119) C d_M_promise_100 (by decide) rfl h (fun h => ?_) (fun h => ?_)
  · cases h
    refine j_sub [0, 1, 2, 3] rfl (ke _ _ rfl)
  · refine j_iload_n C 2 d_M_promise_103 rfl rfl rfl ?_
    refine j_aload_n C 0 d_M_promise_104 rfl rfl rfl ?_
    refine j_iload_n C 1 d_M_promise_105 rfl rfl rfl ?_
    refine j_iload C 3 d_M_promise_106 rfl rfl ?_
    obtain ⟨r10, h11, h⟩ := mb1_some h
    refine j_callV C hR (As := [.int c1, .int v4]) (ct_M_filled (jl x) (jD x) (jT x) hT c1 v4 σ h11) kf_M_filled (by decide) tw_706 tw_708 tw_41 18 rfl rfl (rest := [.int v3]) rfl rfl (Nat.le_of_ble_eq_true rfl) (by decide) ⟨rfl, rfl⟩ d_M_promise_108 rfl (st1 := [.int r10, .int v3]) rfl ?_
    refine j_iadd C d_M_promise_111 rfl ?_
    refine j_istore_n (lv' := [(3, .int (v3 + r10)), (0, .ref (bd 0)), (1, .int c1), (4, .int v4)]) C d_M_promise_112 rfl rfl (by decide) rfl ?_
    refine j_iinc (v' := (v4 + 1)) (lv' := [(4, .int (v4 + 1)), (3, .int (v3 + r10)), (0, .ref (bd 0)), (1, .int c1)]) C 3 d_M_promise_113 rfl rfl rfl (by decide) rfl ?_
    refine j_goto (tgt := 96) C d_M_promise_116 (by decide) ?_
    cases h
    refine j_sub [2, 3, 1, 0] rfl (kc _ _ rfl)
set_option maxRecDepth 100000 in
theorem wl_M_promise_96 {x : JX} {bd : Nat → Nat} {cA : ClassId} {ad : Nat → Nat} {σ0 : SP} {wr : va_W} (C : jC x cc_M_promise 5 "PlainWarehouseModel") (hT : (jT x)[0]? = some (cA, .int)) (hR : jR x = rm_M_promise)  (c1 : Int32) (σ : SM) (v3 : Int32) (v4 : Int32) {u3 : Int32} {u4 : Int32} (n : Nat) (h : lp (fun s => b_M_promise_96 c1 σ s.1 s.2) n (v3, v4) = some (u3, u4)) (K : jW x 5 0 0 119 [(0, .ref (bd 0)), (1, .int c1), (3, .int u3), (4, .int u4)] [] ((wP ad cA σ0) ++ ((wM bd cA σ) ++ wr))) : jW x 5 0 0 96 [(0, .ref (bd 0)), (1, .int c1), (3, .int v3), (4, .int v4)] [] ((wP ad cA σ0) ++ ((wM bd cA σ) ++ wr)) :=
  j_lp (Pr := fun s => jW x 5 0 0 96 [(0, .ref (bd 0)), (1, .int c1), (3, .int s.1), (4, .int s.2)] [] ((wP ad cA σ0) ++ ((wM bd cA σ) ++ wr))) (K := fun s => jW x 5 0 0 119 [(0, .ref (bd 0)), (1, .int c1), (3, .int s.1), (4, .int s.2)] [] ((wP ad cA σ0) ++ ((wM bd cA σ) ++ wr))) (fun s o h kc ke => wb_M_promise_96 C hT hR c1 σ s.1 s.2 h (fun u3 u4 e => kc _ e) (fun u3 u4 e => ke _ e)) n _ _ h K
set_option maxHeartbeats 4000000 in
set_option maxRecDepth 100000 in
theorem wk_M_promise_74 {x : JX} {bd : Nat → Nat} {cA : ClassId} {ad : Nat → Nat} {σ0 : SP} {wr : va_W} (C : jC x cc_M_promise 5 "PlainWarehouseModel") (hT : (jT x)[0]? = some (cA, .int)) (hR : jR x = rm_M_promise)  (p1 : Int32) (p2 : Int32) (σ : SM) {r : Int32} {σ' : SM} (hr : (jt x).sig.returnType = some .int) (E : jE x 0 0 (some (.int r)) ((wP ad cA σ0) ++ ((wM bd cA σ') ++ wr))) (h : k_M_promise_74 p1 p2 σ = some (r, σ')) : jW x 5 0 0 74 [(0, .ref (bd 0)), (1, .int p1), (2, .int p2)] [] ((wP ad cA σ0) ++ ((wM bd cA σ) ++ wr)) := by
  unfold k_M_promise_74 at h
  refine j_aload_n C 0 d_M_promise_74 rfl rfl rfl ?_
  refine j_get C in_M 18 rfl rfl 0 (by decide) tw_575 rfl (v := .int (g_mcode σ)) rfl d_M_promise_75 rfl ?_
  refine j_if_le (tgt := 83) C d_M_promise_78 (by decide) rfl h (fun h => ?_) (fun h => ?_)
  · refine j_iload_n C 2 d_M_promise_83 rfl rfl rfl ?_
    refine j_bipush (v := 6) C d_M_promise_84 rfl (by decide) ?_
    refine j_icmp_le (tgt := 91) C d_M_promise_86 (by decide) rfl h (fun h => ?_) (fun h => ?_)
    · refine j_iconst (v := 0) C d_M_promise_91 rfl (by decide) ?_
      refine j_istore_n (lv' := [(3, .int (0 : Int32)), (0, .ref (bd 0)), (1, .int p1), (2, .int p2)]) C d_M_promise_92 rfl rfl (by decide) rfl ?_
      refine j_iconst (v := 0) C d_M_promise_93 rfl (by decide) ?_
      refine j_istore (lv' := [(4, .int (0 : Int32)), (3, .int (0 : Int32)), (0, .ref (bd 0)), (1, .int p1), (2, .int p2)]) C d_M_promise_94 rfl (by decide) rfl ?_
      obtain ⟨w12, w13, h14, h⟩ := mb2_some h
      refine j_sub [2, 3, 1, 0] rfl (wl_M_promise_96 C hT hR p1 σ (0 : Int32) (0 : Int32) FU h14 ?_)
      refine j_iload_n C 2 d_M_promise_119 rfl rfl rfl ?_
      cases h
      exact j_iret C E hr d_M_promise_120
    · refine j_iconst (v := (-1)) C d_M_promise_89 rfl (by decide) ?_
      cases h
      exact j_iret C E hr d_M_promise_90
  · refine j_iconst (v := 0) C d_M_promise_81 rfl (by decide) ?_
    cases h
    exact j_iret C E hr d_M_promise_82
set_option maxHeartbeats 4000000 in
set_option maxRecDepth 100000 in
theorem wk_M_promise_17 {x : JX} {bd : Nat → Nat} {cA : ClassId} {ad : Nat → Nat} {σ0 : SP} {wr : va_W} (C : jC x cc_M_promise 5 "PlainWarehouseModel") (hT : (jT x)[0]? = some (cA, .int)) (hR : jR x = rm_M_promise)  (p1 : Int32) (s0 : Int32) (σ : SM) {r : Int32} {σ' : SM} (hr : (jt x).sig.returnType = some .int) (E : jE x 0 0 (some (.int r)) ((wP ad cA σ0) ++ ((wM bd cA σ') ++ wr))) (h : k_M_promise_17 p1 s0 σ = some (r, σ')) : jW x 5 0 0 17 [(0, .ref (bd 0)), (1, .int p1)] [.int s0, .ref (bd 0)] ((wP ad cA σ0) ++ ((wM bd cA σ) ++ wr)) := by
  unfold k_M_promise_17 at h
  refine j_put C in_M ty_M_ok nm_M 18 rfl rfl 0 (by decide) tw_575 rfl rfl rfl (Nat.le_of_ble_eq_true rfl) (fun t => (wP ad cA σ0) ++ ((wM bd cA t) ++ wr)) d_M_promise_17 rfl h rfl (fun σ1 h => ?_)
  refine j_iconst (v := 0) C d_M_promise_20 rfl (by decide) ?_
  refine j_istore_n (lv' := [(2, .int (0 : Int32)), (0, .ref (bd 0)), (1, .int p1)]) C d_M_promise_21 rfl rfl (by decide) rfl ?_
  refine j_iconst (v := 0) C d_M_promise_22 rfl (by decide) ?_
  refine j_istore_n (lv' := [(3, .int (0 : Int32)), (2, .int (0 : Int32)), (0, .ref (bd 0)), (1, .int p1)]) C d_M_promise_23 rfl rfl (by decide) rfl ?_
  obtain ⟨w6, w7, σ8, h9, h⟩ := mb3_some h
  refine j_sub [2, 3, 1, 0] rfl (wl_M_promise_24 C hT hR p1 σ1 (0 : Int32) (0 : Int32) FU h9 ?_)
  exact j_sub [0, 1, 2] rfl (wk_M_promise_74 C hT hR p1 w6 σ8 hr E h)
set_option maxHeartbeats 4000000 in
set_option maxRecDepth 100000 in
theorem wk_M_promise_12 {x : JX} {bd : Nat → Nat} {cA : ClassId} {ad : Nat → Nat} {σ0 : SP} {wr : va_W} (C : jC x cc_M_promise 5 "PlainWarehouseModel") (hT : (jT x)[0]? = some (cA, .int)) (hR : jR x = rm_M_promise)  (p1 : Int32) (σ : SM) {r : Int32} {σ' : SM} (hr : (jt x).sig.returnType = some .int) (E : jE x 0 0 (some (.int r)) ((wP ad cA σ0) ++ ((wM bd cA σ') ++ wr))) (h : k_M_promise_12 p1 σ = some (r, σ')) : jW x 5 0 0 12 [(0, .ref (bd 0)), (1, .int p1)] [.ref (bd 0)] ((wP ad cA σ0) ++ ((wM bd cA σ) ++ wr)) := by
  unfold k_M_promise_12 at h
  refine j_iconst (v := 1) C d_M_promise_12 rfl (by decide) ?_
  refine j_goto (tgt := 17) C d_M_promise_13 (by decide) ?_
  exact j_sub [0, 1] rfl (wk_M_promise_17 C hT hR p1 (1 : Int32) σ hr E h)
set_option maxHeartbeats 4000000 in
set_option maxRecDepth 100000 in
theorem w_M_promise {x : JX} {bd : Nat → Nat} {cA : ClassId} {ad : Nat → Nat} {σ0 : SP} {wr : va_W} (C : jC x cc_M_promise 5 "PlainWarehouseModel") (hT : (jT x)[0]? = some (cA, .int)) (hR : jR x = rm_M_promise)  (a1 : Int32) (σ : SM) {r : Int32} {σ' : SM} (hr : (jt x).sig.returnType = some .int) (E : jE x 0 0 (some (.int r)) ((wP ad cA σ0) ++ ((wM bd cA σ') ++ wr))) (h : m_M_promise a1 σ = some (r, σ')) : jW x 5 0 0 0 [(0, .ref (bd 0)), (1, .int a1)] [] ((wP ad cA σ0) ++ ((wM bd cA σ) ++ wr)) := by
  unfold m_M_promise at h
  refine j_aload_n C 0 d_M_promise_0 rfl rfl rfl ?_
  refine j_iload_n C 1 d_M_promise_1 rfl rfl rfl ?_
  refine j_if_lt (tgt := 12) C d_M_promise_2 (by decide) rfl h (fun h => ?_) (fun h => ?_)
  · exact j_sub [0, 1] rfl (wk_M_promise_12 C hT hR a1 σ hr E h)
  · refine j_iload_n C 1 d_M_promise_5 rfl rfl rfl ?_
    refine j_bipush (v := 10) C d_M_promise_6 rfl (by decide) ?_
    refine j_ishr C d_M_promise_8 rfl ?_
    refine j_if_eq (tgt := 16) C d_M_promise_9 (by decide) rfl h (fun h => ?_) (fun h => ?_)
    · refine j_iconst (v := 0) C d_M_promise_16 rfl (by decide) ?_
      exact j_sub [0, 1] rfl (wk_M_promise_17 C hT hR a1 (0 : Int32) σ hr E h)
    · exact j_sub [0, 1] rfl (wk_M_promise_12 C hT hR a1 σ hr E h)
theorem ct_M_promise (l : Launch) (D : va_G) (tys : List (ClassId × FieldType)) {bd : Nat → Nat} {cA : ClassId} {ad : Nat → Nat} {σ0 : SP} {wr : va_W} (hT : tys[0]? = some (cA, .int)) (a1 : Int32) (σ : SM) {r : Int32} {σ' : SM} (h : m_M_promise a1 σ = some (r, σ')) : jM l y_M_promise ws_M_promise rm_M_promise D tys [.ref (bd 0), .int a1] ((wP ad cA σ0) ++ ((wM bd cA σ) ++ wr)) (some (.int r)) ((wP ad cA σ0) ++ ((wM bd cA σ') ++ wr)) :=
  j_of (by decide +kernel) rfl (Nat.le_of_ble_eq_true rfl) rfl (fun x _ _ hT' hR C hr _ E => w_M_promise C (by rw [hT']; exact hT) hR a1 σ hr E h)
