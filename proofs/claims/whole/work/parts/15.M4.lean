set_option maxRecDepth 100000 in
theorem tw_42 : Cond.selects "PlainWarehouseModel" (⟨"PlainWarehouseModel", "reach", "()V"⟩ : MethodName) (⟨"PlainWarehouseModel", "reach", "()V"⟩ : MethodName) ∈ WS := ws_in 42 rfl rfl
set_option maxRecDepth 100000 in
theorem tw_43 : Cond.selects "PlainWarehouseModel" (⟨"PlainWarehouseModel", "places", "(I)I"⟩ : MethodName) (⟨"PlainWarehouseModel", "places", "(I)I"⟩ : MethodName) ∈ WS := ws_in 43 rfl rfl
set_option maxRecDepth 100000 in
theorem tw_44 : Cond.selects "PlainWarehouseModel" (⟨"PlainWarehouseModel", "isEvent", "(I)Z"⟩ : MethodName) (⟨"PlainWarehouseModel", "isEvent", "(I)Z"⟩ : MethodName) ∈ WS := ws_in 44 rfl rfl
set_option maxRecDepth 100000 in
theorem tw_45 : Cond.selects "PlainWarehouseModel" (⟨"PlainWarehouseModel", "without", "(IZ)I"⟩ : MethodName) (⟨"PlainWarehouseModel", "without", "(IZ)I"⟩ : MethodName) ∈ WS := ws_in 45 rfl rfl
set_option maxRecDepth 100000 in
theorem tw_590 : Cond.fieldLink "PlainWarehouseModel" (46 : Nat) "PlainWarehouseModel" "far" "[I" ∈ WS := ws_in 590 rfl rfl
set_option maxRecDepth 100000 in
theorem tw_591 : Cond.fieldLink "PlainWarehouseModel" (49 : Nat) "PlainWarehouseModel" "stops" "[I" ∈ WS := ws_in 591 rfl rfl
set_option maxRecDepth 100000 in
theorem tw_592 : Cond.fieldLink "PlainWarehouseModel" (52 : Nat) "PlainWarehouseModel" "costs" "[I" ∈ WS := ws_in 592 rfl rfl
set_option maxRecDepth 100000 in
theorem tw_714 : Cond.methodLink "PlainWarehouseModel" (113 : Nat) ({ cls := "PlainWarehouseModel", name := "reach", desc := "()V" } : MethodName) ∈ WS := ws_in 714 rfl rfl
set_option maxRecDepth 100000 in
theorem tw_716 : Cond.instanceMethod ({ cls := "PlainWarehouseModel", name := "reach", desc := "()V" } : MethodName) ∈ WS := ws_in 716 rfl rfl
set_option maxRecDepth 100000 in
theorem tw_718 : Cond.constant "PlainWarehouseModel" (112 : Nat) (1048576 : Int32) ∈ WS := ws_in 718 rfl rfl
set_option maxRecDepth 100000 in
theorem tw_723 : Cond.methodLink "PlainWarehouseModel" (116 : Nat) ({ cls := "PlainWarehouseModel", name := "places", desc := "(I)I" } : MethodName) ∈ WS := ws_in 723 rfl rfl
set_option maxRecDepth 100000 in
theorem tw_725 : Cond.instanceMethod ({ cls := "PlainWarehouseModel", name := "places", desc := "(I)I" } : MethodName) ∈ WS := ws_in 725 rfl rfl
set_option maxRecDepth 100000 in
theorem tw_731 : Cond.methodLink "PlainWarehouseModel" (119 : Nat) ({ cls := "PlainWarehouseModel", name := "isEvent", desc := "(I)Z" } : MethodName) ∈ WS := ws_in 731 rfl rfl
set_option maxRecDepth 100000 in
theorem tw_733 : Cond.instanceMethod ({ cls := "PlainWarehouseModel", name := "isEvent", desc := "(I)Z" } : MethodName) ∈ WS := ws_in 733 rfl rfl
set_option maxRecDepth 100000 in
theorem tw_735 : Cond.methodLink "PlainWarehouseModel" (122 : Nat) ({ cls := "PlainWarehouseModel", name := "without", desc := "(IZ)I" } : MethodName) ∈ WS := ws_in 735 rfl rfl
set_option maxRecDepth 100000 in
theorem tw_737 : Cond.instanceMethod ({ cls := "PlainWarehouseModel", name := "without", desc := "(IZ)I" } : MethodName) ∈ WS := ws_in 737 rfl rfl
def rm_M_reach : Room := { frames := 0, cells := 0, slots := 0, locals := 0 }
def b_M_reach_2 (v1 : Int32) (σ : SM) : Option ((Int32 × SM) ⊕ (Int32 × SM)) :=
  (if (100 : Int32) ≤ v1 then some (.inr (v1, σ)) else (if (v1 - v1 / (11 : Int32) * (11 : Int32)) = 0 then (mck 100 v1 (mlet (u_mfa σ (upd (g_mfa σ) v1.toNatClampNeg (0 : Int32))) fun σ5 => some (.inl ((v1 + 1), σ5)))) else (mrd 6200 (g_mlk σ) (((100 : Int32) * (g_mev σ)) + v1) fun r1 => (if r1 ≤ 0 then (mck 100 v1 (mlet (u_mfa σ (upd (g_mfa σ) v1.toNatClampNeg (1048576 : Int32))) fun σ2 => some (.inl ((v1 + 1), σ2)))) else (mrd 6200 (g_mlk σ) (((100 : Int32) * (g_mev σ)) + v1) fun r3 => (mck 100 v1 (mlet (u_mfa σ (upd (g_mfa σ) v1.toNatClampNeg r3)) fun σ4 => some (.inl ((v1 + 1), σ4)))))))))
def b_M_reach_85 (c1 : Int32) (c2 : Int32) (v3 : Int32) (σ : SM) : Option ((Int32 × SM) ⊕ (Int32 × SM)) :=
  (if (10 : Int32) ≤ v3 then some (.inr (v3, σ)) else (mrd 100 (g_mfa σ) (((10 : Int32) * c2) + c1) fun r9 => (mrd 100 (g_mfa σ) (((10 : Int32) * c1) + v3) fun r10 => (mrd 100 (g_mfa σ) (((10 : Int32) * c2) + v3) fun r11 => (if r11 ≤ (r9 + r10) then some (.inl ((v3 + 1), σ)) else (mck 100 (((10 : Int32) * c2) + v3) (mlet (u_mfa σ (upd (g_mfa σ) (((10 : Int32) * c2) + v3).toNatClampNeg (r9 + r10))) fun σ12 => some (.inl ((v3 + 1), σ12)))))))))
def b_M_reach_77 (c1 : Int32) (v2 : Int32) (σ : SM) : Option ((Int32 × SM) ⊕ (Int32 × SM)) :=
  (if (10 : Int32) ≤ v2 then some (.inr (v2, σ)) else (mb2 (lp (fun s => b_M_reach_85 c1 v2 s.1 s.2) FU ((0 : Int32), σ)) fun w13 σ14 => some (.inl ((v2 + 1), σ14))))
def b_M_reach_69 (v1 : Int32) (σ : SM) : Option ((Int32 × SM) ⊕ (Int32 × SM)) :=
  (if (10 : Int32) ≤ v1 then some (.inr (v1, σ)) else (mb2 (lp (fun s => b_M_reach_77 v1 s.1 s.2) FU ((0 : Int32), σ)) fun w16 σ17 => some (.inl ((v1 + 1), σ17))))
def m_M_reach (σ : SM) : Option (SM) :=
  (mb2 (lp (fun s => b_M_reach_2 s.1 s.2) FU ((0 : Int32), σ)) fun w6 σ7 => (mb2 (lp (fun s => b_M_reach_69 s.1 s.2) FU ((0 : Int32), σ7)) fun w19 σ20 => some σ20))
set_option maxHeartbeats 4000000 in
set_option maxRecDepth 100000 in
theorem wb_M_reach_2 {x : JX} {bd : Nat → Nat} {cA : ClassId} {ad : Nat → Nat} {σ0 : SP} {wr : va_W} (C : jC x cc_M_reach 5 "PlainWarehouseModel") (hT : (jT x)[0]? = some (cA, .int)) (hR : jR x = rm_M_reach)  (σ : SM) (v1 : Int32) {o : (Int32 × SM) ⊕ (Int32 × SM)} (h : b_M_reach_2 v1 σ = some o) (kc : ∀ (u1 : Int32) (τ : SM), o = .inl (u1, τ) → jW x 5 0 0 2 [(0, .ref (bd 0)), (1, .int u1)] [] ((wP ad cA σ0) ++ ((wM bd cA τ) ++ wr))) (ke : ∀ (u1 : Int32) (τ : SM), o = .inr (u1, τ) → jW x 5 0 0 67 [(0, .ref (bd 0)), (1, .int u1)] [] ((wP ad cA σ0) ++ ((wM bd cA τ) ++ wr))) : jW x 5 0 0 2 [(0, .ref (bd 0)), (1, .int v1)] [] ((wP ad cA σ0) ++ ((wM bd cA σ) ++ wr)) := by
  unfold b_M_reach_2 at h
  refine j_iload_n C 1 d_M_reach_2 rfl rfl rfl ?_
  refine j_bipush (v := 100) C d_M_reach_3 rfl (by decide) ?_
  refine j_icmp_ge (tgt := 67) C d_M_reach_5 (by decide) rfl h (fun h => ?_) (fun h => ?_)
  · cases h
    refine j_sub [0, 1] rfl (ke _ _ rfl)
  · refine j_aload_n C 0 d_M_reach_8 rfl rfl rfl ?_
    refine j_get C in_M 18 rfl rfl 15 (by decide) tw_590 rfl (v := .ref (bd 13)) rfl d_M_reach_9 rfl ?_
    refine j_iload_n C 1 d_M_reach_12 rfl rfl rfl ?_
    refine j_iload_n C 1 d_M_reach_13 rfl rfl rfl ?_
    refine j_bipush (v := 11) C d_M_reach_14 rfl (by decide) ?_
    refine j_irem C d_M_reach_16 rfl (by decide) ?_
    refine j_if_ne (tgt := 24) C d_M_reach_17 (by decide) rfl h (fun h => ?_) (fun h => ?_)
    · refine j_aload_n C 0 d_M_reach_24 rfl rfl rfl ?_
      refine j_get C in_M 18 rfl rfl 14 (by decide) tw_589 rfl (v := .ref (bd 12)) rfl d_M_reach_25 rfl ?_
      refine j_bipush (v := 100) C d_M_reach_28 rfl (by decide) ?_
      refine j_aload_n C 0 d_M_reach_30 rfl rfl rfl ?_
      refine j_get C in_M 18 rfl rfl 1 (by decide) tw_576 rfl (v := .int (g_mev σ)) rfl d_M_reach_31 rfl ?_
      refine j_imul C d_M_reach_34 rfl ?_
      refine j_iload_n C 1 d_M_reach_35 rfl rfl rfl ?_
      refine j_iadd C d_M_reach_36 rfl ?_
      refine j_iald C 30 0 rfl hT d_M_reach_37 rfl h (fun r1 h => ?_)
      refine j_if_le (tgt := 58) C d_M_reach_38 (by decide) rfl h (fun h => ?_) (fun h => ?_)
      · refine j_ldc (v := 1048576) C d_M_reach_58 rfl tw_718 ?_
        refine j_iast C (fun t => (wP ad cA σ0) ++ ((wM bd cA t) ++ wr)) 31 0 rfl hT d_M_reach_60 rfl h rfl (fun σ2 h => ?_)
        refine j_iinc (v' := (v1 + 1)) (lv' := [(1, .int (v1 + 1)), (0, .ref (bd 0))]) C 1 d_M_reach_61 rfl rfl rfl (by decide) rfl ?_
        refine j_goto (tgt := 2) C d_M_reach_64 (by decide) ?_
        cases h
        refine j_sub [1, 0] rfl (kc _ _ rfl)
      · refine j_aload_n C 0 d_M_reach_41 rfl rfl rfl ?_
        refine j_get C in_M 18 rfl rfl 14 (by decide) tw_589 rfl (v := .ref (bd 12)) rfl d_M_reach_42 rfl ?_
        refine j_bipush (v := 100) C d_M_reach_45 rfl (by decide) ?_
        refine j_aload_n C 0 d_M_reach_47 rfl rfl rfl ?_
        refine j_get C in_M 18 rfl rfl 1 (by decide) tw_576 rfl (v := .int (g_mev σ)) rfl d_M_reach_48 rfl ?_
        refine j_imul C d_M_reach_51 rfl ?_
        refine j_iload_n C 1 d_M_reach_52 rfl rfl rfl ?_
        refine j_iadd C d_M_reach_53 rfl ?_
        refine j_iald C 30 0 rfl hT d_M_reach_54 rfl h (fun r3 h => ?_)
        refine j_goto (tgt := 60) C d_M_reach_55 (by decide) ?_
        refine j_iast C (fun t => (wP ad cA σ0) ++ ((wM bd cA t) ++ wr)) 31 0 rfl hT d_M_reach_60 rfl h rfl (fun σ4 h => ?_)
        refine j_iinc (v' := (v1 + 1)) (lv' := [(1, .int (v1 + 1)), (0, .ref (bd 0))]) C 1 d_M_reach_61 rfl rfl rfl (by decide) rfl ?_
        refine j_goto (tgt := 2) C d_M_reach_64 (by decide) ?_
        cases h
        refine j_sub [1, 0] rfl (kc _ _ rfl)
    · refine j_iconst (v := 0) C d_M_reach_20 rfl (by decide) ?_
      refine j_goto (tgt := 60) C d_M_reach_21 (by decide) ?_
      refine j_iast C (fun t => (wP ad cA σ0) ++ ((wM bd cA t) ++ wr)) 31 0 rfl hT d_M_reach_60 rfl h rfl (fun σ5 h => ?_)
      refine j_iinc (v' := (v1 + 1)) (lv' := [(1, .int (v1 + 1)), (0, .ref (bd 0))]) C 1 d_M_reach_61 rfl rfl rfl (by decide) rfl ?_
      refine j_goto (tgt := 2) C d_M_reach_64 (by decide) ?_
      cases h
      refine j_sub [1, 0] rfl (kc _ _ rfl)
set_option maxRecDepth 100000 in
theorem wl_M_reach_2 {x : JX} {bd : Nat → Nat} {cA : ClassId} {ad : Nat → Nat} {σ0 : SP} {wr : va_W} (C : jC x cc_M_reach 5 "PlainWarehouseModel") (hT : (jT x)[0]? = some (cA, .int)) (hR : jR x = rm_M_reach)  (σ : SM) (v1 : Int32) {u1 : Int32} {τ : SM} (n : Nat) (h : lp (fun s => b_M_reach_2 s.1 s.2) n (v1, σ) = some (u1, τ)) (K : jW x 5 0 0 67 [(0, .ref (bd 0)), (1, .int u1)] [] ((wP ad cA σ0) ++ ((wM bd cA τ) ++ wr))) : jW x 5 0 0 2 [(0, .ref (bd 0)), (1, .int v1)] [] ((wP ad cA σ0) ++ ((wM bd cA σ) ++ wr)) :=
  j_lp (Pr := fun s => jW x 5 0 0 2 [(0, .ref (bd 0)), (1, .int s.1)] [] ((wP ad cA σ0) ++ ((wM bd cA s.2) ++ wr))) (K := fun s => jW x 5 0 0 67 [(0, .ref (bd 0)), (1, .int s.1)] [] ((wP ad cA σ0) ++ ((wM bd cA s.2) ++ wr))) (fun s o h kc ke => wb_M_reach_2 C hT hR  s.2 s.1 h (fun u1 τ e => kc _ e) (fun u1 τ e => ke _ e)) n _ _ h K
set_option maxHeartbeats 4000000 in
set_option maxRecDepth 100000 in
theorem wb_M_reach_85 {x : JX} {bd : Nat → Nat} {cA : ClassId} {ad : Nat → Nat} {σ0 : SP} {wr : va_W} (C : jC x cc_M_reach 5 "PlainWarehouseModel") (hT : (jT x)[0]? = some (cA, .int)) (hR : jR x = rm_M_reach)  (c1 : Int32) (c2 : Int32) (σ : SM) (v3 : Int32) {o : (Int32 × SM) ⊕ (Int32 × SM)} (h : b_M_reach_85 c1 c2 v3 σ = some o) (kc : ∀ (u3 : Int32) (τ : SM), o = .inl (u3, τ) → jW x 5 0 0 85 [(0, .ref (bd 0)), (1, .int c1), (2, .int c2), (3, .int u3)] [] ((wP ad cA σ0) ++ ((wM bd cA τ) ++ wr))) (ke : ∀ (u3 : Int32) (τ : SM), o = .inr (u3, τ) → jW x 5 0 0 151 [(0, .ref (bd 0)), (1, .int c1), (2, .int c2), (3, .int u3)] [] ((wP ad cA σ0) ++ ((wM bd cA τ) ++ wr))) : jW x 5 0 0 85 [(0, .ref (bd 0)), (1, .int c1), (2, .int c2), (3, .int v3)] [] ((wP ad cA σ0) ++ ((wM bd cA σ) ++ wr)) := by
  unfold b_M_reach_85 at h
  refine j_iload_n C 3 d_M_reach_85 rfl rfl rfl ?_
  refine j_bipush (v := 10) C d_M_reach_86 rfl (by decide) ?_
  refine j_icmp_ge (tgt := 151) C d_M_reach_88 (by decide) rfl h (fun h => ?_) (fun h => ?_)
  · cases h
    refine j_sub [0, 1, 2, 3] rfl (ke _ _ rfl)
  · refine j_aload_n C 0 d_M_reach_91 rfl rfl rfl ?_
    refine j_get C in_M 18 rfl rfl 15 (by decide) tw_590 rfl (v := .ref (bd 13)) rfl d_M_reach_92 rfl ?_
    refine j_bipush (v := 10) C d_M_reach_95 rfl (by decide) ?_
    refine j_iload_n C 2 d_M_reach_97 rfl rfl rfl ?_
    refine j_imul C d_M_reach_98 rfl ?_
    refine j_iload_n C 1 d_M_reach_99 rfl rfl rfl ?_
    refine j_iadd C d_M_reach_100 rfl ?_
    refine j_iald C 31 0 rfl hT d_M_reach_101 rfl h (fun r9 h => ?_)
    refine j_aload_n C 0 d_M_reach_102 rfl rfl rfl ?_
    refine j_get C in_M 18 rfl rfl 15 (by decide) tw_590 rfl (v := .ref (bd 13)) rfl d_M_reach_103 rfl ?_
    refine j_bipush (v := 10) C d_M_reach_106 rfl (by decide) ?_
    refine j_iload_n C 1 d_M_reach_108 rfl rfl rfl ?_
    refine j_imul C d_M_reach_109 rfl ?_
    refine j_iload_n C 3 d_M_reach_110 rfl rfl rfl ?_
    refine j_iadd C d_M_reach_111 rfl ?_
    refine j_iald C 31 0 rfl hT d_M_reach_112 rfl h (fun r10 h => ?_)
    refine j_iadd C d_M_reach_113 rfl ?_
    refine j_istore (lv' := [(4, .int (r9 + r10)), (0, .ref (bd 0)), (1, .int c1), (2, .int c2), (3, .int v3)]) C d_M_reach_114 rfl (by decide) rfl ?_
    refine j_iload C 0 d_M_reach_116 rfl rfl ?_
    refine j_aload_n C 1 d_M_reach_118 rfl rfl rfl ?_
    refine j_get C in_M 18 rfl rfl 15 (by decide) tw_590 rfl (v := .ref (bd 13)) rfl d_M_reach_119 rfl ?_
    refine j_bipush (v := 10) C d_M_reach_122 rfl (by decide) ?_
    refine j_iload_n C 3 d_M_reach_124 rfl rfl rfl ?_
    refine j_imul C d_M_reach_125 rfl ?_
    refine j_iload_n C 4 d_M_reach_126 rfl rfl rfl ?_
    refine j_iadd C d_M_reach_127 rfl ?_
    refine j_iald C 31 0 rfl hT d_M_reach_128 rfl h (fun r11 h => ?_)
    refine j_icmp_ge (tgt := 145) C d_M_reach_129 (by decide) rfl h (fun h => ?_) (fun h => ?_)
    · refine j_iinc (v' := (v3 + 1)) (lv' := [(3, .int (v3 + 1)), (4, .int (r9 + r10)), (0, .ref (bd 0)), (1, .int c1), (2, .int c2)]) C 4 d_M_reach_145 rfl rfl rfl (by decide) rfl ?_
      refine j_goto (tgt := 85) C d_M_reach_148 (by decide) ?_
      cases h
      refine j_sub [2, 3, 4, 0] rfl (kc _ _ rfl)
    · refine j_aload_n C 1 d_M_reach_132 rfl rfl rfl ?_
      refine j_get C in_M 18 rfl rfl 15 (by decide) tw_590 rfl (v := .ref (bd 13)) rfl d_M_reach_133 rfl ?_
      refine j_bipush (v := 10) C d_M_reach_136 rfl (by decide) ?_
      refine j_iload_n C 3 d_M_reach_138 rfl rfl rfl ?_
      refine j_imul C d_M_reach_139 rfl ?_
      refine j_iload_n C 4 d_M_reach_140 rfl rfl rfl ?_
      refine j_iadd C d_M_reach_141 rfl ?_
      refine j_iload C 0 d_M_reach_142 rfl rfl ?_
      refine j_iast C (fun t => (wP ad cA σ0) ++ ((wM bd cA t) ++ wr)) 31 0 rfl hT d_M_reach_144 rfl h rfl (fun σ12 h => ?_)
      refine j_iinc (v' := (v3 + 1)) (lv' := [(3, .int (v3 + 1)), (4, .int (r9 + r10)), (0, .ref (bd 0)), (1, .int c1), (2, .int c2)]) C 4 d_M_reach_145 rfl rfl rfl (by decide) rfl ?_
      refine j_goto (tgt := 85) C d_M_reach_148 (by decide) ?_
      cases h
      refine j_sub [2, 3, 4, 0] rfl (kc _ _ rfl)
set_option maxRecDepth 100000 in
theorem wl_M_reach_85 {x : JX} {bd : Nat → Nat} {cA : ClassId} {ad : Nat → Nat} {σ0 : SP} {wr : va_W} (C : jC x cc_M_reach 5 "PlainWarehouseModel") (hT : (jT x)[0]? = some (cA, .int)) (hR : jR x = rm_M_reach)  (c1 : Int32) (c2 : Int32) (σ : SM) (v3 : Int32) {u3 : Int32} {τ : SM} (n : Nat) (h : lp (fun s => b_M_reach_85 c1 c2 s.1 s.2) n (v3, σ) = some (u3, τ)) (K : jW x 5 0 0 151 [(0, .ref (bd 0)), (1, .int c1), (2, .int c2), (3, .int u3)] [] ((wP ad cA σ0) ++ ((wM bd cA τ) ++ wr))) : jW x 5 0 0 85 [(0, .ref (bd 0)), (1, .int c1), (2, .int c2), (3, .int v3)] [] ((wP ad cA σ0) ++ ((wM bd cA σ) ++ wr)) :=
  j_lp (Pr := fun s => jW x 5 0 0 85 [(0, .ref (bd 0)), (1, .int c1), (2, .int c2), (3, .int s.1)] [] ((wP ad cA σ0) ++ ((wM bd cA s.2) ++ wr))) (K := fun s => jW x 5 0 0 151 [(0, .ref (bd 0)), (1, .int c1), (2, .int c2), (3, .int s.1)] [] ((wP ad cA σ0) ++ ((wM bd cA s.2) ++ wr))) (fun s o h kc ke => wb_M_reach_85 C hT hR c1 c2 s.2 s.1 h (fun u3 τ e => kc _ e) (fun u3 τ e => ke _ e)) n _ _ h K
set_option maxHeartbeats 4000000 in
set_option maxRecDepth 100000 in
theorem wb_M_reach_77 {x : JX} {bd : Nat → Nat} {cA : ClassId} {ad : Nat → Nat} {σ0 : SP} {wr : va_W} (C : jC x cc_M_reach 5 "PlainWarehouseModel") (hT : (jT x)[0]? = some (cA, .int)) (hR : jR x = rm_M_reach)  (c1 : Int32) (σ : SM) (v2 : Int32) {o : (Int32 × SM) ⊕ (Int32 × SM)} (h : b_M_reach_77 c1 v2 σ = some o) (kc : ∀ (u2 : Int32) (τ : SM), o = .inl (u2, τ) → jW x 5 0 0 77 [(0, .ref (bd 0)), (1, .int c1), (2, .int u2)] [] ((wP ad cA σ0) ++ ((wM bd cA τ) ++ wr))) (ke : ∀ (u2 : Int32) (τ : SM), o = .inr (u2, τ) → jW x 5 0 0 157 [(0, .ref (bd 0)), (1, .int c1), (2, .int u2)] [] ((wP ad cA σ0) ++ ((wM bd cA τ) ++ wr))) : jW x 5 0 0 77 [(0, .ref (bd 0)), (1, .int c1), (2, .int v2)] [] ((wP ad cA σ0) ++ ((wM bd cA σ) ++ wr)) := by
  unfold b_M_reach_77 at h
  refine j_iload_n C 2 d_M_reach_77 rfl rfl rfl ?_
  refine j_bipush (v := 10) C d_M_reach_78 rfl (by decide) ?_
  refine j_icmp_ge (tgt := 157) C d_M_reach_80 (by decide) rfl h (fun h => ?_) (fun h => ?_)
  · cases h
    refine j_sub [0, 1, 2] rfl (ke _ _ rfl)
  · refine j_iconst (v := 0) C d_M_reach_83 rfl (by decide) ?_
    refine j_istore_n (lv' := [(3, .int (0 : Int32)), (0, .ref (bd 0)), (1, .int c1), (2, .int v2)]) C d_M_reach_84 rfl rfl (by decide) rfl ?_
    obtain ⟨w13, σ14, h15, h⟩ := mb2_some h
    refine j_sub [1, 2, 3, 0] rfl (wl_M_reach_85 C hT hR c1 v2 σ (0 : Int32) FU h15 ?_)
    refine j_iinc (v' := (v2 + 1)) (lv' := [(2, .int (v2 + 1)), (0, .ref (bd 0)), (1, .int c1), (3, .int w13)]) C 2 d_M_reach_151 rfl rfl rfl (by decide) rfl ?_
    refine j_goto (tgt := 77) C d_M_reach_154 (by decide) ?_
    cases h
    refine j_sub [1, 2, 0] rfl (kc _ _ rfl)
set_option maxRecDepth 100000 in
theorem wl_M_reach_77 {x : JX} {bd : Nat → Nat} {cA : ClassId} {ad : Nat → Nat} {σ0 : SP} {wr : va_W} (C : jC x cc_M_reach 5 "PlainWarehouseModel") (hT : (jT x)[0]? = some (cA, .int)) (hR : jR x = rm_M_reach)  (c1 : Int32) (σ : SM) (v2 : Int32) {u2 : Int32} {τ : SM} (n : Nat) (h : lp (fun s => b_M_reach_77 c1 s.1 s.2) n (v2, σ) = some (u2, τ)) (K : jW x 5 0 0 157 [(0, .ref (bd 0)), (1, .int c1), (2, .int u2)] [] ((wP ad cA σ0) ++ ((wM bd cA τ) ++ wr))) : jW x 5 0 0 77 [(0, .ref (bd 0)), (1, .int c1), (2, .int v2)] [] ((wP ad cA σ0) ++ ((wM bd cA σ) ++ wr)) :=
  j_lp (Pr := fun s => jW x 5 0 0 77 [(0, .ref (bd 0)), (1, .int c1), (2, .int s.1)] [] ((wP ad cA σ0) ++ ((wM bd cA s.2) ++ wr))) (K := fun s => jW x 5 0 0 157 [(0, .ref (bd 0)), (1, .int c1), (2, .int s.1)] [] ((wP ad cA σ0) ++ ((wM bd cA s.2) ++ wr))) (fun s o h kc ke => wb_M_reach_77 C hT hR c1 s.2 s.1 h (fun u2 τ e => kc _ e) (fun u2 τ e => ke _ e)) n _ _ h K
set_option maxHeartbeats 4000000 in
set_option maxRecDepth 100000 in
theorem wb_M_reach_69 {x : JX} {bd : Nat → Nat} {cA : ClassId} {ad : Nat → Nat} {σ0 : SP} {wr : va_W} (C : jC x cc_M_reach 5 "PlainWarehouseModel") (hT : (jT x)[0]? = some (cA, .int)) (hR : jR x = rm_M_reach)  (σ : SM) (v1 : Int32) {o : (Int32 × SM) ⊕ (Int32 × SM)} (h : b_M_reach_69 v1 σ = some o) (kc : ∀ (u1 : Int32) (τ : SM), o = .inl (u1, τ) → jW x 5 0 0 69 [(0, .ref (bd 0)), (1, .int u1)] [] ((wP ad cA σ0) ++ ((wM bd cA τ) ++ wr))) (ke : ∀ (u1 : Int32) (τ : SM), o = .inr (u1, τ) → jW x 5 0 0 163 [(0, .ref (bd 0)), (1, .int u1)] [] ((wP ad cA σ0) ++ ((wM bd cA τ) ++ wr))) : jW x 5 0 0 69 [(0, .ref (bd 0)), (1, .int v1)] [] ((wP ad cA σ0) ++ ((wM bd cA σ) ++ wr)) := by
  unfold b_M_reach_69 at h
  refine j_iload_n C 1 d_M_reach_69 rfl rfl rfl ?_
  refine j_bipush (v := 10) C d_M_reach_70 rfl (by decide) ?_
  refine j_icmp_ge (tgt := 163) C d_M_reach_72 (by decide) rfl h (fun h => ?_) (fun h => ?_)
  · cases h
    refine j_sub [0, 1] rfl (ke _ _ rfl)
  · refine j_iconst (v := 0) C d_M_reach_75 rfl (by decide) ?_
    refine j_istore_n (lv' := [(2, .int (0 : Int32)), (0, .ref (bd 0)), (1, .int v1)]) C d_M_reach_76 rfl rfl (by decide) rfl ?_
    obtain ⟨w16, σ17, h18, h⟩ := mb2_some h
    refine j_sub [1, 2, 0] rfl (wl_M_reach_77 C hT hR v1 σ (0 : Int32) FU h18 ?_)
    refine j_iinc (v' := (v1 + 1)) (lv' := [(1, .int (v1 + 1)), (0, .ref (bd 0)), (2, .int w16)]) C 1 d_M_reach_157 rfl rfl rfl (by decide) rfl ?_
    refine j_goto (tgt := 69) C d_M_reach_160 (by decide) ?_
    cases h
    refine j_sub [1, 0] rfl (kc _ _ rfl)
set_option maxRecDepth 100000 in
theorem wl_M_reach_69 {x : JX} {bd : Nat → Nat} {cA : ClassId} {ad : Nat → Nat} {σ0 : SP} {wr : va_W} (C : jC x cc_M_reach 5 "PlainWarehouseModel") (hT : (jT x)[0]? = some (cA, .int)) (hR : jR x = rm_M_reach)  (σ : SM) (v1 : Int32) {u1 : Int32} {τ : SM} (n : Nat) (h : lp (fun s => b_M_reach_69 s.1 s.2) n (v1, σ) = some (u1, τ)) (K : jW x 5 0 0 163 [(0, .ref (bd 0)), (1, .int u1)] [] ((wP ad cA σ0) ++ ((wM bd cA τ) ++ wr))) : jW x 5 0 0 69 [(0, .ref (bd 0)), (1, .int v1)] [] ((wP ad cA σ0) ++ ((wM bd cA σ) ++ wr)) :=
  j_lp (Pr := fun s => jW x 5 0 0 69 [(0, .ref (bd 0)), (1, .int s.1)] [] ((wP ad cA σ0) ++ ((wM bd cA s.2) ++ wr))) (K := fun s => jW x 5 0 0 163 [(0, .ref (bd 0)), (1, .int s.1)] [] ((wP ad cA σ0) ++ ((wM bd cA s.2) ++ wr))) (fun s o h kc ke => wb_M_reach_69 C hT hR  s.2 s.1 h (fun u1 τ e => kc _ e) (fun u1 τ e => ke _ e)) n _ _ h K
set_option maxHeartbeats 4000000 in
set_option maxRecDepth 100000 in
theorem w_M_reach {x : JX} {bd : Nat → Nat} {cA : ClassId} {ad : Nat → Nat} {σ0 : SP} {wr : va_W} (C : jC x cc_M_reach 5 "PlainWarehouseModel") (hT : (jT x)[0]? = some (cA, .int)) (hR : jR x = rm_M_reach)  (σ : SM) {σ' : SM} (hr : (jt x).sig.returnType = none) (E : jE x 0 0 none ((wP ad cA σ0) ++ ((wM bd cA σ') ++ wr))) (h : m_M_reach σ = some σ') : jW x 5 0 0 0 [(0, .ref (bd 0))] [] ((wP ad cA σ0) ++ ((wM bd cA σ) ++ wr)) := by
  unfold m_M_reach at h
  refine j_iconst (v := 0) C d_M_reach_0 rfl (by decide) ?_
  refine j_istore_n (lv' := [(1, .int (0 : Int32)), (0, .ref (bd 0))]) C d_M_reach_1 rfl rfl (by decide) rfl ?_
  obtain ⟨w6, σ7, h8, h⟩ := mb2_some h
  refine j_sub [1, 0] rfl (wl_M_reach_2 C hT hR  σ (0 : Int32) FU h8 ?_)
  refine j_iconst (v := 0) C d_M_reach_67 rfl (by decide) ?_
  refine j_istore_n (lv' := [(1, .int (0 : Int32)), (0, .ref (bd 0))]) C d_M_reach_68 rfl rfl (by decide) rfl ?_
  obtain ⟨w19, σ20, h21, h⟩ := mb2_some h
  refine j_sub [1, 0] rfl (wl_M_reach_69 C hT hR  σ7 (0 : Int32) FU h21 ?_)
  cases h
  exact j_vret C E hr d_M_reach_163
theorem ct_M_reach (l : Launch) (D : va_G) (tys : List (ClassId × FieldType)) {bd : Nat → Nat} {cA : ClassId} {ad : Nat → Nat} {σ0 : SP} {wr : va_W} (hT : tys[0]? = some (cA, .int)) (σ : SM) {σ' : SM} (h : m_M_reach σ = some σ') : jM l y_M_reach ws_M_reach rm_M_reach D tys [.ref (bd 0)] ((wP ad cA σ0) ++ ((wM bd cA σ) ++ wr)) none ((wP ad cA σ0) ++ ((wM bd cA σ') ++ wr)) :=
  j_of (by decide +kernel) rfl (Nat.le_of_ble_eq_true rfl) rfl (fun x _ _ hT' hR C hr _ E => w_M_reach C (by rw [hT']; exact hT) hR σ hr E h)
def rm_M_way : Room := { frames := 2, cells := 0, slots := 0, locals := 42 }
def k_M_way_20 (p1 : Int32) (p2 : Int32) (s0 : Int32) (σ : SM) : Option (Int32 × SM) :=
  (mlet (u_mcode σ s0) fun σ3 => (if (g_mcode σ3) ≤ 0 then (mb1 (m_M_reach σ3) fun σ4 => (mrd 100 (g_mfa σ4) (((10 : Int32) * p1) + p2) fun r6 => (if (1048576 : Int32) ≤ r6 then some ((-1 : Int32), σ4) else (mrd 100 (g_mfa σ4) (((10 : Int32) * p1) + p2) fun r7 => some (r7, σ4))))) else some ((0 : Int32), σ3)))
def k_M_way_19 (p1 : Int32) (p2 : Int32) (σ : SM) : Option (Int32 × SM) :=
  (k_M_way_20 p1 p2 (1 : Int32) σ)
def m_M_way (a1 : Int32) (a2 : Int32) (σ : SM) : Option (Int32 × SM) :=
  (mb1 (m_M_isPlace a1) fun r1 => (if r1 = 0 then (k_M_way_19 a1 a2 σ) else (mb1 (m_M_isPlace a2) fun r8 => (if r8 = 0 then (k_M_way_19 a1 a2 σ) else (k_M_way_20 a1 a2 (0 : Int32) σ)))))
set_option maxHeartbeats 4000000 in
set_option maxRecDepth 100000 in
theorem wk_M_way_20 {x : JX} {bd : Nat → Nat} {cA : ClassId} {ad : Nat → Nat} {σ0 : SP} {wr : va_W} (C : jC x cc_M_way 3 "PlainWarehouseModel") (hT : (jT x)[0]? = some (cA, .int)) (hR : jR x = rm_M_way)  (p1 : Int32) (p2 : Int32) (s0 : Int32) (σ : SM) {r : Int32} {σ' : SM} (hr : (jt x).sig.returnType = some .int) (E : jE x 0 0 (some (.int r)) ((wP ad cA σ0) ++ ((wM bd cA σ') ++ wr))) (h : k_M_way_20 p1 p2 s0 σ = some (r, σ')) : jW x 3 0 0 20 [(0, .ref (bd 0)), (1, .int p1), (2, .int p2)] [.int s0, .ref (bd 0)] ((wP ad cA σ0) ++ ((wM bd cA σ) ++ wr)) := by
  unfold k_M_way_20 at h
  refine j_put C in_M ty_M_ok nm_M 18 rfl rfl 0 (by decide) tw_575 rfl rfl rfl (Nat.le_of_ble_eq_true rfl) (fun t => (wP ad cA σ0) ++ ((wM bd cA t) ++ wr)) d_M_way_20 rfl h rfl (fun σ3 h => ?_)
  refine j_aload_n C 0 d_M_way_23 rfl rfl rfl ?_
  refine j_get C in_M 18 rfl rfl 0 (by decide) tw_575 rfl (v := .int (g_mcode σ3)) rfl d_M_way_24 rfl ?_
  refine j_if_le (tgt := 32) C d_M_way_27 (by decide) rfl h (fun h => ?_) (fun h => ?_)
  · refine j_aload_n C 0 d_M_way_32 rfl rfl rfl ?_
    obtain ⟨σ4, h5, h⟩ := mb1_some h
    refine j_callV C hR (As := []) (ct_M_reach (jl x) (jD x) (jT x) hT  σ3 h5) kf_M_reach (by decide) tw_714 tw_716 tw_42 18 rfl rfl (rest := []) rfl rfl (Nat.le_of_ble_eq_true rfl) (by decide) ⟨rfl, rfl⟩ d_M_way_33 rfl (st1 := []) rfl ?_
    refine j_aload_n C 0 d_M_way_36 rfl rfl rfl ?_
    refine j_get C in_M 18 rfl rfl 15 (by decide) tw_590 rfl (v := .ref (bd 13)) rfl d_M_way_37 rfl ?_
    refine j_bipush (v := 10) C d_M_way_40 rfl (by decide) ?_
    refine j_iload_n C 1 d_M_way_42 rfl rfl rfl ?_
    refine j_imul C d_M_way_43 rfl ?_
    refine j_iload_n C 2 d_M_way_44 rfl rfl rfl ?_
    refine j_iadd C d_M_way_45 rfl ?_
    refine j_iald C 31 0 rfl hT d_M_way_46 rfl h (fun r6 h => ?_)
    refine j_ldc (v := 1048576) C d_M_way_47 rfl tw_718 ?_
    refine j_icmp_ge (tgt := 66) C d_M_way_49 (by decide) rfl h (fun h => ?_) (fun h => ?_)
    · refine j_iconst (v := (-1)) C d_M_way_66 rfl (by decide) ?_
      cases h
      exact j_iret C E hr d_M_way_67
    · refine j_aload_n C 0 d_M_way_52 rfl rfl rfl ?_
      refine j_get C in_M 18 rfl rfl 15 (by decide) tw_590 rfl (v := .ref (bd 13)) rfl d_M_way_53 rfl ?_
      refine j_bipush (v := 10) C d_M_way_56 rfl (by decide) ?_
      refine j_iload_n C 1 d_M_way_58 rfl rfl rfl ?_
      refine j_imul C d_M_way_59 rfl ?_
      refine j_iload_n C 2 d_M_way_60 rfl rfl rfl ?_
      refine j_iadd C d_M_way_61 rfl ?_
      refine j_iald C 31 0 rfl hT d_M_way_62 rfl h (fun r7 h => ?_)
      refine j_goto (tgt := 67) C d_M_way_63 (by decide) ?_
      cases h
      exact j_iret C E hr d_M_way_67
  · refine j_iconst (v := 0) C d_M_way_30 rfl (by decide) ?_
    cases h
    exact j_iret C E hr d_M_way_31
set_option maxHeartbeats 4000000 in
set_option maxRecDepth 100000 in
theorem wk_M_way_19 {x : JX} {bd : Nat → Nat} {cA : ClassId} {ad : Nat → Nat} {σ0 : SP} {wr : va_W} (C : jC x cc_M_way 3 "PlainWarehouseModel") (hT : (jT x)[0]? = some (cA, .int)) (hR : jR x = rm_M_way)  (p1 : Int32) (p2 : Int32) (σ : SM) {r : Int32} {σ' : SM} (hr : (jt x).sig.returnType = some .int) (E : jE x 0 0 (some (.int r)) ((wP ad cA σ0) ++ ((wM bd cA σ') ++ wr))) (h : k_M_way_19 p1 p2 σ = some (r, σ')) : jW x 3 0 0 19 [(0, .ref (bd 0)), (1, .int p1), (2, .int p2)] [.ref (bd 0)] ((wP ad cA σ0) ++ ((wM bd cA σ) ++ wr)) := by
  unfold k_M_way_19 at h
  refine j_iconst (v := 1) C d_M_way_19 rfl (by decide) ?_
  exact j_sub [0, 1, 2] rfl (wk_M_way_20 C hT hR p1 p2 (1 : Int32) σ hr E h)
set_option maxHeartbeats 4000000 in
set_option maxRecDepth 100000 in
theorem w_M_way {x : JX} {bd : Nat → Nat} {cA : ClassId} {ad : Nat → Nat} {σ0 : SP} {wr : va_W} (C : jC x cc_M_way 3 "PlainWarehouseModel") (hT : (jT x)[0]? = some (cA, .int)) (hR : jR x = rm_M_way)  (a1 : Int32) (a2 : Int32) (σ : SM) {r : Int32} {σ' : SM} (hr : (jt x).sig.returnType = some .int) (E : jE x 0 0 (some (.int r)) ((wP ad cA σ0) ++ ((wM bd cA σ') ++ wr))) (h : m_M_way a1 a2 σ = some (r, σ')) : jW x 3 0 0 0 [(0, .ref (bd 0)), (1, .int a1), (2, .int a2)] [] ((wP ad cA σ0) ++ ((wM bd cA σ) ++ wr)) := by
  unfold m_M_way at h
  refine j_aload_n C 0 d_M_way_0 rfl rfl rfl ?_
  refine j_iload_n C 1 d_M_way_1 rfl rfl rfl ?_
  obtain ⟨r1, h2, h⟩ := mb1_some h
  refine j_callS C hR (As := [.int a1]) (ct_M_isPlace (jl x) (jD x) (jT x) a1 h2) kf_M_isPlace (by decide) tw_647 tw_648 (rest := [.ref (bd 0)]) rfl rfl (Nat.le_of_ble_eq_true rfl) (by decide) ⟨rfl, rfl⟩ d_M_way_2 rfl (st1 := [.int r1, .ref (bd 0)]) rfl ?_
  refine j_if_eq (tgt := 19) C d_M_way_5 (by decide) rfl h (fun h => ?_) (fun h => ?_)
  · exact j_sub [0, 1, 2] rfl (wk_M_way_19 C hT hR a1 a2 σ hr E h)
  · refine j_iload_n C 2 d_M_way_8 rfl rfl rfl ?_
    obtain ⟨r8, h9, h⟩ := mb1_some h
    refine j_callS C hR (As := [.int a2]) (ct_M_isPlace (jl x) (jD x) (jT x) a2 h9) kf_M_isPlace (by decide) tw_647 tw_648 (rest := [.ref (bd 0)]) rfl rfl (Nat.le_of_ble_eq_true rfl) (by decide) ⟨rfl, rfl⟩ d_M_way_9 rfl (st1 := [.int r8, .ref (bd 0)]) rfl ?_
    refine j_if_eq (tgt := 19) C d_M_way_12 (by decide) rfl h (fun h => ?_) (fun h => ?_)
    · exact j_sub [0, 1, 2] rfl (wk_M_way_19 C hT hR a1 a2 σ hr E h)
    · refine j_iconst (v := 0) C d_M_way_15 rfl (by decide) ?_
      refine j_goto (tgt := 20) C d_M_way_16 (by decide) ?_
      exact j_sub [0, 1, 2] rfl (wk_M_way_20 C hT hR a1 a2 (0 : Int32) σ hr E h)
theorem ct_M_way (l : Launch) (D : va_G) (tys : List (ClassId × FieldType)) {bd : Nat → Nat} {cA : ClassId} {ad : Nat → Nat} {σ0 : SP} {wr : va_W} (hT : tys[0]? = some (cA, .int)) (a1 : Int32) (a2 : Int32) (σ : SM) {r : Int32} {σ' : SM} (h : m_M_way a1 a2 σ = some (r, σ')) : jM l y_M_way ws_M_way rm_M_way D tys [.ref (bd 0), .int a1, .int a2] ((wP ad cA σ0) ++ ((wM bd cA σ) ++ wr)) (some (.int r)) ((wP ad cA σ0) ++ ((wM bd cA σ') ++ wr)) :=
  j_of (by decide +kernel) rfl (Nat.le_of_ble_eq_true rfl) rfl (fun x _ _ hT' hR C hr _ E => w_M_way C (by rw [hT']; exact hT) hR a1 a2 σ hr E h)
def rm_M_places : Room := { frames := 0, cells := 0, slots := 0, locals := 0 }
def b_M_places_16 (c1 : Int32) (c2 : Int32) (c3 : Int32) (σ : SM) (v4 : Int32) (v5 : Int32) : Option ((Int32 × Int32) ⊕ (Int32 × Int32)) :=
  (if (20 : Int32) ≤ v5 then some (.inr (v4, v5)) else (if v4 = 0 then (mrd 1240 (g_mgv σ) (((20 : Int32) * (g_mev σ)) + v5) fun r1 => (if r1 = c1 then (mrd 1240 (g_mpl σ) (((20 : Int32) * (g_mev σ)) + v5) fun r2 => (if r2 = c3 then some (.inl ((1 : Int32), (v5 + 1))) else some (.inl ((0 : Int32), (v5 + 1))))) else some (.inl ((0 : Int32), (v5 + 1))))) else some (.inl ((1 : Int32), (v5 + 1)))))
def b_M_places_4 (c1 : Int32) (v2 : Int32) (v3 : Int32) (σ : SM) : Option ((Int32 × Int32 × SM) ⊕ (Nat × Int32 × Int32 × SM)) :=
  (if (10 : Int32) ≤ v3 then some (.inr (1, v2, v3, σ)) else (mb2 (lp (fun s => b_M_places_16 c1 v2 v3 σ s.1 s.2) FU ((0 : Int32), (0 : Int32))) fun w3 w4 => (if w3 = 0 then some (.inl (v2, (v3 + 1), σ)) else (if v2 = (4 : Int32) then some (.inr (0, v2, v3, σ)) else (mck 4 v2 (mlet (u_mst σ (upd (g_mst σ) v2.toNatClampNeg v3)) fun σ6 => some (.inl ((v2 + 1), (v3 + 1), σ6))))))))
def m_M_places (a1 : Int32) (σ : SM) : Option (Int32 × SM) :=
  (mb4 (lp (fun s => b_M_places_4 a1 s.1 s.2.1 s.2.2) FU ((0 : Int32), (0 : Int32), σ)) fun tg11 w7 w8 σ9 => (if tg11 = 0 then some ((5 : Int32), σ9) else some (w7, σ9)))
set_option maxHeartbeats 4000000 in
set_option maxRecDepth 100000 in
theorem wb_M_places_16 {x : JX} {bd : Nat → Nat} {cA : ClassId} {ad : Nat → Nat} {σ0 : SP} {wr : va_W} (C : jC x cc_M_places 6 "PlainWarehouseModel") (hT : (jT x)[0]? = some (cA, .int)) (hR : jR x = rm_M_places)  (c1 : Int32) (c2 : Int32) (c3 : Int32) (σ : SM) (v4 : Int32) (v5 : Int32) {o : (Int32 × Int32) ⊕ (Int32 × Int32)} (h : b_M_places_16 c1 c2 c3 σ v4 v5 = some o) (kc : ∀ (u4 : Int32) (u5 : Int32), o = .inl (u4, u5) → jW x 6 0 0 16 [(0, .ref (bd 0)), (1, .int c1), (2, .int c2), (3, .int c3), (4, .int u4), (5, .int u5)] [] ((wP ad cA σ0) ++ ((wM bd cA σ) ++ wr))) (ke : ∀ (u4 : Int32) (u5 : Int32), o = .inr (u4, u5) → jW x 6 0 0 79 [(0, .ref (bd 0)), (1, .int c1), (2, .int c2), (3, .int c3), (4, .int u4), (5, .int u5)] [] ((wP ad cA σ0) ++ ((wM bd cA σ) ++ wr))) : jW x 6 0 0 16 [(0, .ref (bd 0)), (1, .int c1), (2, .int c2), (3, .int c3), (4, .int v4), (5, .int v5)] [] ((wP ad cA σ0) ++ ((wM bd cA σ) ++ wr)) := by
  unfold b_M_places_16 at h
  refine j_iload C 5 d_M_places_16 rfl rfl ?_
  refine j_bipush (v := 20) C d_M_places_18 rfl (by decide) ?_
  refine j_icmp_ge (tgt := 79) C d_M_places_20 (by decide) rfl h (fun h => ?_) (fun h => ?_)
  · cases h
    refine j_sub [0, 1, 2, 3, 4, 5] rfl (ke _ _ rfl)
  · refine j_iload C 4 d_M_places_23 rfl rfl ?_
    refine j_if_ne (tgt := 66) C d_M_places_25 (by decide) rfl h (fun h => ?_) (fun h => ?_)
    · refine j_iconst (v := 1) C d_M_places_66 rfl (by decide) ?_
      refine j_goto (tgt := 71) C d_M_places_67 (by decide) ?_
      refine j_istore (lv' := [(4, .int (1 : Int32)), (0, .ref (bd 0)), (1, .int c1), (2, .int c2), (3, .int c3), (5, .int v5)]) C d_M_places_71 rfl (by decide) rfl ?_
      refine j_iinc (v' := (v5 + 1)) (lv' := [(5, .int (v5 + 1)), (4, .int (1 : Int32)), (0, .ref (bd 0)), (1, .int c1), (2, .int c2), (3, .int c3)]) C 5 d_M_places_73 rfl rfl rfl (by decide) rfl ?_
      refine j_goto (tgt := 16) C d_M_places_76 (by decide) ?_
      cases h
      refine j_sub [2, 3, 4, 5, 1, 0] rfl (kc _ _ rfl)
    · refine j_aload_n C 0 d_M_places_28 rfl rfl rfl ?_
      refine j_get C in_M 18 rfl rfl 9 (by decide) tw_584 rfl (v := .ref (bd 7)) rfl d_M_places_29 rfl ?_
      refine j_bipush (v := 20) C d_M_places_32 rfl (by decide) ?_
      refine j_aload_n C 0 d_M_places_34 rfl rfl rfl ?_
      refine j_get C in_M 18 rfl rfl 1 (by decide) tw_576 rfl (v := .int (g_mev σ)) rfl d_M_places_35 rfl ?_
      refine j_imul C d_M_places_38 rfl ?_
      refine j_iload C 5 d_M_places_39 rfl rfl ?_
      refine j_iadd C d_M_places_41 rfl ?_
      refine j_iald C 25 0 rfl hT d_M_places_42 rfl h (fun r1 h => ?_)
      refine j_iload_n C 1 d_M_places_43 rfl rfl rfl ?_
      refine j_icmp_ne (tgt := 70) C d_M_places_44 (by decide) rfl h (fun h => ?_) (fun h => ?_)
      · refine j_iconst (v := 0) C d_M_places_70 rfl (by decide) ?_
        refine j_istore (lv' := [(4, .int (0 : Int32)), (0, .ref (bd 0)), (1, .int c1), (2, .int c2), (3, .int c3), (5, .int v5)]) C d_M_places_71 rfl (by decide) rfl ?_
        refine j_iinc (v' := (v5 + 1)) (lv' := [(5, .int (v5 + 1)), (4, .int (0 : Int32)), (0, .ref (bd 0)), (1, .int c1), (2, .int c2), (3, .int c3)]) C 5 d_M_places_73 rfl rfl rfl (by decide) rfl ?_
        refine j_goto (tgt := 16) C d_M_places_76 (by decide) ?_
        cases h
        refine j_sub [2, 3, 4, 5, 1, 0] rfl (kc _ _ rfl)
      · refine j_aload_n C 0 d_M_places_47 rfl rfl rfl ?_
        refine j_get C in_M 18 rfl rfl 7 (by decide) tw_582 rfl (v := .ref (bd 5)) rfl d_M_places_48 rfl ?_
        refine j_bipush (v := 20) C d_M_places_51 rfl (by decide) ?_
        refine j_aload_n C 0 d_M_places_53 rfl rfl rfl ?_
        refine j_get C in_M 18 rfl rfl 1 (by decide) tw_576 rfl (v := .int (g_mev σ)) rfl d_M_places_54 rfl ?_
        refine j_imul C d_M_places_57 rfl ?_
        refine j_iload C 5 d_M_places_58 rfl rfl ?_
        refine j_iadd C d_M_places_60 rfl ?_
        refine j_iald C 23 0 rfl hT d_M_places_61 rfl h (fun r2 h => ?_)
        refine j_iload_n C 3 d_M_places_62 rfl rfl rfl ?_
        refine j_icmp_ne (tgt := 70) C d_M_places_63 (by decide) rfl h (fun h => ?_) (fun h => ?_)
        · refine j_iconst (v := 0) C d_M_places_70 rfl (by decide) ?_
          refine j_istore (lv' := [(4, .int (0 : Int32)), (0, .ref (bd 0)), (1, .int c1), (2, .int c2), (3, .int c3), (5, .int v5)]) C d_M_places_71 rfl (by decide) rfl ?_
          refine j_iinc (v' := (v5 + 1)) (lv' := [(5, .int (v5 + 1)), (4, .int (0 : Int32)), (0, .ref (bd 0)), (1, .int c1), (2, .int c2), (3, .int c3)]) C 5 d_M_places_73 rfl rfl rfl (by decide) rfl ?_
          refine j_goto (tgt := 16) C d_M_places_76 (by decide) ?_
          cases h
          refine j_sub [2, 3, 4, 5, 1, 0] rfl (kc _ _ rfl)
        · refine j_iconst (v := 1) C d_M_places_66 rfl (by decide) ?_
          refine j_goto (tgt := 71) C d_M_places_67 (by decide) ?_
          refine j_istore (lv' := [(4, .int (1 : Int32)), (0, .ref (bd 0)), (1, .int c1), (2, .int c2), (3, .int c3), (5, .int v5)]) C d_M_places_71 rfl (by decide) rfl ?_
          refine j_iinc (v' := (v5 + 1)) (lv' := [(5, .int (v5 + 1)), (4, .int (1 : Int32)), (0, .ref (bd 0)), (1, .int c1), (2, .int c2), (3, .int c3)]) C 5 d_M_places_73 rfl rfl rfl (by decide) rfl ?_
          refine j_goto (tgt := 16) C d_M_places_76 (by decide) ?_
          cases h
          refine j_sub [2, 3, 4, 5, 1, 0] rfl (kc _ _ rfl)
set_option maxRecDepth 100000 in
theorem wl_M_places_16 {x : JX} {bd : Nat → Nat} {cA : ClassId} {ad : Nat → Nat} {σ0 : SP} {wr : va_W} (C : jC x cc_M_places 6 "PlainWarehouseModel") (hT : (jT x)[0]? = some (cA, .int)) (hR : jR x = rm_M_places)  (c1 : Int32) (c2 : Int32) (c3 : Int32) (σ : SM) (v4 : Int32) (v5 : Int32) {u4 : Int32} {u5 : Int32} (n : Nat) (h : lp (fun s => b_M_places_16 c1 c2 c3 σ s.1 s.2) n (v4, v5) = some (u4, u5)) (K : jW x 6 0 0 79 [(0, .ref (bd 0)), (1, .int c1), (2, .int c2), (3, .int c3), (4, .int u4), (5, .int u5)] [] ((wP ad cA σ0) ++ ((wM bd cA σ) ++ wr))) : jW x 6 0 0 16 [(0, .ref (bd 0)), (1, .int c1), (2, .int c2), (3, .int c3), (4, .int v4), (5, .int v5)] [] ((wP ad cA σ0) ++ ((wM bd cA σ) ++ wr)) :=
  j_lp (Pr := fun s => jW x 6 0 0 16 [(0, .ref (bd 0)), (1, .int c1), (2, .int c2), (3, .int c3), (4, .int s.1), (5, .int s.2)] [] ((wP ad cA σ0) ++ ((wM bd cA σ) ++ wr))) (K := fun s => jW x 6 0 0 79 [(0, .ref (bd 0)), (1, .int c1), (2, .int c2), (3, .int c3), (4, .int s.1), (5, .int s.2)] [] ((wP ad cA σ0) ++ ((wM bd cA σ) ++ wr))) (fun s o h kc ke => wb_M_places_16 C hT hR c1 c2 c3 σ s.1 s.2 h (fun u4 u5 e => kc _ e) (fun u4 u5 e => ke _ e)) n _ _ h K
set_option maxHeartbeats 4000000 in
set_option maxRecDepth 100000 in
theorem wb_M_places_4 {x : JX} {bd : Nat → Nat} {cA : ClassId} {ad : Nat → Nat} {σ0 : SP} {wr : va_W} (C : jC x cc_M_places 6 "PlainWarehouseModel") (hT : (jT x)[0]? = some (cA, .int)) (hR : jR x = rm_M_places)  (c1 : Int32) (σ : SM) (v2 : Int32) (v3 : Int32) {o : (Int32 × Int32 × SM) ⊕ (Nat × Int32 × Int32 × SM)} (h : b_M_places_4 c1 v2 v3 σ = some o) (kc : ∀ (u2 : Int32) (u3 : Int32) (τ : SM), o = .inl (u2, u3, τ) → jW x 6 0 0 4 [(0, .ref (bd 0)), (1, .int c1), (2, .int u2), (3, .int u3)] [] ((wP ad cA σ0) ++ ((wM bd cA τ) ++ wr))) (ke0 : ∀ (u2 : Int32) (u3 : Int32) (τ : SM), o = .inr (0, u2, u3, τ) → jW x 6 0 0 92 [(0, .ref (bd 0)), (1, .int c1), (2, .int u2), (3, .int u3)] [] ((wP ad cA σ0) ++ ((wM bd cA τ) ++ wr))) (ke1 : ∀ (u2 : Int32) (u3 : Int32) (τ : SM), o = .inr (1, u2, u3, τ) → jW x 6 0 0 110 [(0, .ref (bd 0)), (1, .int c1), (2, .int u2), (3, .int u3)] [] ((wP ad cA σ0) ++ ((wM bd cA τ) ++ wr))) : jW x 6 0 0 4 [(0, .ref (bd 0)), (1, .int c1), (2, .int v2), (3, .int v3)] [] ((wP ad cA σ0) ++ ((wM bd cA σ) ++ wr)) := by
  unfold b_M_places_4 at h
  refine j_iload_n C 3 d_M_places_4 rfl rfl rfl ?_
  refine j_bipush (v := 10) C d_M_places_5 rfl (by decide) ?_
  refine j_icmp_ge (tgt := 110) C d_M_places_7 (by decide) rfl h (fun h => ?_) (fun h => ?_)
  · cases h
    refine j_sub [0, 1, 2, 3] rfl (ke1 _ _ _ rfl)
  · refine j_iconst (v := 0) C d_M_places_10 rfl (by decide) ?_
    refine j_istore (lv' := [(4, .int (0 : Int32)), (0, .ref (bd 0)), (1, .int c1), (2, .int v2), (3, .int v3)]) C d_M_places_11 rfl (by decide) rfl ?_
    refine j_iconst (v := 0) C d_M_places_13 rfl (by decide) ?_
    refine j_istore (lv' := [(5, .int (0 : Int32)), (4, .int (0 : Int32)), (0, .ref (bd 0)), (1, .int c1), (2, .int v2), (3, .int v3)]) C d_M_places_14 rfl (by decide) rfl ?_
    obtain ⟨w3, w4, h5, h⟩ := mb2_some h
    refine j_sub [2, 3, 4, 5, 1, 0] rfl (wl_M_places_16 C hT hR c1 v2 v3 σ (0 : Int32) (0 : Int32) FU h5 ?_)
    refine j_iload C 4 d_M_places_79 rfl rfl ?_
    refine j_if_ne (tgt := 87) C d_M_places_81 (by decide) rfl h (fun h => ?_) (fun h => ?_)
    · refine j_iload_n C 2 d_M_places_87 rfl rfl rfl ?_
      refine j_iconst (v := 4) C d_M_places_88 rfl (by decide) ?_
      refine j_icmp_ne (tgt := 94) C d_M_places_89 (by decide) rfl h (fun h => ?_) (fun h => ?_)
      · refine j_aload_n C 0 d_M_places_94 rfl rfl rfl ?_
        refine j_get C in_M 18 rfl rfl 16 (by decide) tw_591 rfl (v := .ref (bd 14)) rfl d_M_places_95 rfl ?_
        refine j_iload_n C 2 d_M_places_98 rfl rfl rfl ?_
        refine j_iload_n C 3 d_M_places_99 rfl rfl rfl ?_
        refine j_iast C (fun t => (wP ad cA σ0) ++ ((wM bd cA t) ++ wr)) 32 0 rfl hT d_M_places_100 rfl h rfl (fun σ6 h => ?_)
        refine j_iinc (v' := (v2 + 1)) (lv' := [(2, .int (v2 + 1)), (0, .ref (bd 0)), (1, .int c1), (3, .int v3), (4, .int w3), (5, .int w4)]) C 2 d_M_places_101 rfl rfl rfl (by decide) rfl ?_
        refine j_iinc (v' := (v3 + 1)) (lv' := [(3, .int (v3 + 1)), (2, .int (v2 + 1)), (0, .ref (bd 0)), (1, .int c1), (4, .int w3), (5, .int w4)]) C 3 d_M_places_104 rfl rfl rfl (by decide) rfl ?_
        refine j_goto (tgt := 4) C d_M_places_107 (by decide) ?_
        cases h
        refine j_sub [2, 3, 1, 0] rfl (kc _ _ _ rfl)
      · cases h
        refine j_sub [0, 1, 2, 3] rfl (ke0 _ _ _ rfl)
    · refine j_goto (tgt := 104) C d_M_places_84 (by decide) ?_
      refine j_iinc (v' := (v3 + 1)) (lv' := [(3, .int (v3 + 1)), (0, .ref (bd 0)), (1, .int c1), (2, .int v2), (4, .int w3), (5, .int w4)]) C 3 d_M_places_104 rfl rfl rfl (by decide) rfl ?_
      refine j_goto (tgt := 4) C d_M_places_107 (by decide) ?_
      cases h
      refine j_sub [1, 2, 3, 0] rfl (kc _ _ _ rfl)
set_option maxRecDepth 100000 in
theorem wl_M_places_4 {x : JX} {bd : Nat → Nat} {cA : ClassId} {ad : Nat → Nat} {σ0 : SP} {wr : va_W} (C : jC x cc_M_places 6 "PlainWarehouseModel") (hT : (jT x)[0]? = some (cA, .int)) (hR : jR x = rm_M_places)  (c1 : Int32) (σ : SM) (v2 : Int32) (v3 : Int32) {u2 : Int32} {u3 : Int32} {τ : SM} {tg : Nat} (n : Nat) (h : lp (fun s => b_M_places_4 c1 s.1 s.2.1 s.2.2) n (v2, v3, σ) = some (tg, u2, u3, τ)) (K0 : tg = 0 → jW x 6 0 0 92 [(0, .ref (bd 0)), (1, .int c1), (2, .int u2), (3, .int u3)] [] ((wP ad cA σ0) ++ ((wM bd cA τ) ++ wr))) (K1 : ¬ tg = 0 → jW x 6 0 0 110 [(0, .ref (bd 0)), (1, .int c1), (2, .int u2), (3, .int u3)] [] ((wP ad cA σ0) ++ ((wM bd cA τ) ++ wr))) : jW x 6 0 0 4 [(0, .ref (bd 0)), (1, .int c1), (2, .int v2), (3, .int v3)] [] ((wP ad cA σ0) ++ ((wM bd cA σ) ++ wr)) :=
  j_lp (Pr := fun s => jW x 6 0 0 4 [(0, .ref (bd 0)), (1, .int c1), (2, .int s.1), (3, .int s.2.1)] [] ((wP ad cA σ0) ++ ((wM bd cA s.2.2) ++ wr))) (K := fun s => (s.1 = 0 → jW x 6 0 0 92 [(0, .ref (bd 0)), (1, .int c1), (2, .int s.2.1), (3, .int s.2.2.1)] [] ((wP ad cA σ0) ++ ((wM bd cA s.2.2.2) ++ wr))) ∧ (¬ s.1 = 0 → jW x 6 0 0 110 [(0, .ref (bd 0)), (1, .int c1), (2, .int s.2.1), (3, .int s.2.2.1)] [] ((wP ad cA σ0) ++ ((wM bd cA s.2.2.2) ++ wr)))) (fun s o h kc ke => wb_M_places_4 C hT hR c1 s.2.2 s.1 s.2.1 h (fun u2 u3 τ e => kc _ e) (fun u2 u3 τ e => (ke _ e).1 rfl) (fun u2 u3 τ e => (ke _ e).2 Nat.one_ne_zero)) n _ _ h ⟨K0, K1⟩
set_option maxHeartbeats 4000000 in
set_option maxRecDepth 100000 in
theorem w_M_places {x : JX} {bd : Nat → Nat} {cA : ClassId} {ad : Nat → Nat} {σ0 : SP} {wr : va_W} (C : jC x cc_M_places 6 "PlainWarehouseModel") (hT : (jT x)[0]? = some (cA, .int)) (hR : jR x = rm_M_places)  (a1 : Int32) (σ : SM) {r : Int32} {σ' : SM} (hr : (jt x).sig.returnType = some .int) (E : jE x 0 0 (some (.int r)) ((wP ad cA σ0) ++ ((wM bd cA σ') ++ wr))) (h : m_M_places a1 σ = some (r, σ')) : jW x 6 0 0 0 [(0, .ref (bd 0)), (1, .int a1)] [] ((wP ad cA σ0) ++ ((wM bd cA σ) ++ wr)) := by
  unfold m_M_places at h
  refine j_iconst (v := 0) C d_M_places_0 rfl (by decide) ?_
  refine j_istore_n (lv' := [(2, .int (0 : Int32)), (0, .ref (bd 0)), (1, .int a1)]) C d_M_places_1 rfl rfl (by decide) rfl ?_
  refine j_iconst (v := 0) C d_M_places_2 rfl (by decide) ?_
  refine j_istore_n (lv' := [(3, .int (0 : Int32)), (2, .int (0 : Int32)), (0, .ref (bd 0)), (1, .int a1)]) C d_M_places_3 rfl rfl (by decide) rfl ?_
  obtain ⟨tg11, w7, w8, σ9, h10, h⟩ := mb4_some h
  refine j_sub [2, 3, 1, 0] rfl (wl_M_places_4 C hT hR a1 σ (0 : Int32) (0 : Int32) FU h10 (fun q => ?_) (fun q => ?_))
  · rw [if_pos q] at h
    refine j_iconst (v := 5) C d_M_places_92 rfl (by decide) ?_
    cases h
    exact j_iret C E hr d_M_places_93
  · rw [if_neg q] at h
    refine j_iload_n C 2 d_M_places_110 rfl rfl rfl ?_
    cases h
    exact j_iret C E hr d_M_places_111
theorem ct_M_places (l : Launch) (D : va_G) (tys : List (ClassId × FieldType)) {bd : Nat → Nat} {cA : ClassId} {ad : Nat → Nat} {σ0 : SP} {wr : va_W} (hT : tys[0]? = some (cA, .int)) (a1 : Int32) (σ : SM) {r : Int32} {σ' : SM} (h : m_M_places a1 σ = some (r, σ')) : jM l y_M_places ws_M_places rm_M_places D tys [.ref (bd 0), .int a1] ((wP ad cA σ0) ++ ((wM bd cA σ) ++ wr)) (some (.int r)) ((wP ad cA σ0) ++ ((wM bd cA σ') ++ wr)) :=
  j_of (by decide +kernel) rfl (Nat.le_of_ble_eq_true rfl) rfl (fun x _ _ hT' hR C hr _ E => w_M_places C (by rw [hT']; exact hT) hR a1 σ hr E h)
def rm_M_walk : Room := { frames := 2, cells := 0, slots := 0, locals := 43 }
def b_M_walk_121 (c2 : Int32) (c3 : Int32) (c4 : Int32) (c5 : Int32) (c6 : Int32) (σ : SM) (v7 : Int32) (v8 : Int32) : Option ((Int32 × Int32) ⊕ (Int32 × Int32)) :=
  (if c3 ≤ v8 then some (.inr (v7, v8)) else (if ((c5 >>> (c6 &&& 31)) &&& (1 : Int32)) = (1 : Int32) then (if v8 = c6 then some (.inl (v7, (v8 + 1))) else (if ((c5 >>> (v8 &&& 31)) &&& (1 : Int32)) = 0 then some (.inl (v7, (v8 + 1))) else (mrd 64 (g_mco σ) (((4 : Int32) * (c5 &&& (((1 : Int32) <<< (c6 &&& 31)) ^^^ (-1 : Int32)))) + v8) fun r11 => (mrd 4 (g_mst σ) v8 fun r12 => (mrd 4 (g_mst σ) c6 fun r13 => (mrd 100 (g_mfa σ) (((10 : Int32) * r12) + r13) fun r14 => (if v7 ≤ (r11 + r14) then some (.inl (v7, (v8 + 1))) else some (.inl ((r11 + r14), (v8 + 1)))))))))) else some (.inr (v7, v8))))
def b_M_walk_79 (c2 : Int32) (c3 : Int32) (c5 : Int32) (v4 : Int32) (v6 : Int32) (σ : SM) : Option ((Int32 × Int32 × SM) ⊕ (Int32 × Int32 × SM)) :=
  (if c3 ≤ v6 then some (.inr (v4, v6, σ)) else (if c5 = ((1 : Int32) <<< (v6 &&& 31)) then (mrd 4 (g_mst σ) v6 fun r19 => (mrd 100 (g_mfa σ) (((10 : Int32) * c2) + r19) fun r20 => (mb2 (lp (fun s => b_M_walk_121 c2 c3 v4 c5 v6 σ s.1 s.2) FU (r20, (0 : Int32))) fun w25 w26 => (mck 64 (((4 : Int32) * c5) + v6) (mlet (u_mco σ (upd (g_mco σ) (((4 : Int32) * c5) + v6).toNatClampNeg w25)) fun σ28 => (if c5 = (((1 : Int32) <<< (c3 &&& 31)) - (1 : Int32)) then (if v4 ≤ w25 then some (.inl (v4, (v6 + 1), σ28)) else some (.inl (w25, (v6 + 1), σ28))) else some (.inl (v4, (v6 + 1), σ28)))))))) else (mb2 (lp (fun s => b_M_walk_121 c2 c3 v4 c5 v6 σ s.1 s.2) FU ((1048576 : Int32), (0 : Int32))) fun w15 w16 => (mck 64 (((4 : Int32) * c5) + v6) (mlet (u_mco σ (upd (g_mco σ) (((4 : Int32) * c5) + v6).toNatClampNeg w15)) fun σ18 => (if c5 = (((1 : Int32) <<< (c3 &&& 31)) - (1 : Int32)) then (if v4 ≤ w15 then some (.inl (v4, (v6 + 1), σ18)) else some (.inl (w15, (v6 + 1), σ18))) else some (.inl (v4, (v6 + 1), σ18))))))))
def b_M_walk_68 (c2 : Int32) (c3 : Int32) (v4 : Int32) (v5 : Int32) (σ : SM) : Option ((Int32 × Int32 × SM) ⊕ (Int32 × Int32 × SM)) :=
  (if ((1 : Int32) <<< (c3 &&& 31)) ≤ v5 then some (.inr (v4, v5, σ)) else (mb3 (lp (fun s => b_M_walk_79 c2 c3 v5 s.1 s.2.1 s.2.2) FU (v4, (0 : Int32), σ)) fun w29 w30 σ31 => some (.inl (w29, (v5 + 1), σ31))))
def k_M_walk_25 (p1 : Int32) (p2 : Int32) (s0 : Int32) (σ : SM) : Option (Int32 × SM) :=
  (mlet (u_mcode σ s0) fun σ5 => (if (g_mcode σ5) ≤ 0 then (mb2 (m_M_places p1 σ5) fun r6 σ7 => (if r6 = 0 then some ((0 : Int32), σ7) else (if r6 ≤ (4 : Int32) then (mb1 (m_M_reach σ7) fun σ9 => (mb3 (lp (fun s => b_M_walk_68 p2 r6 s.1 s.2.1 s.2.2) FU ((1048576 : Int32), (1 : Int32), σ9)) fun w33 w34 σ35 => (if (1048576 : Int32) ≤ w33 then some ((-1 : Int32), σ35) else some (w33, σ35)))) else some ((-2 : Int32), σ7)))) else some ((0 : Int32), σ5)))
def m_M_walk (a1 : Int32) (a2 : Int32) (σ : SM) : Option (Int32 × SM) :=
  (mb1 (m_M_isOrder a1 σ) fun r1 => (if r1 = 0 then (k_M_walk_25 a1 a2 (1 : Int32) σ) else (mb1 (m_M_isPlace a2) fun r3 => (if r3 = 0 then (k_M_walk_25 a1 a2 (2 : Int32) σ) else (k_M_walk_25 a1 a2 (0 : Int32) σ)))))
set_option maxHeartbeats 4000000 in
set_option maxRecDepth 100000 in
theorem wb_M_walk_121 {x : JX} {bd : Nat → Nat} {cA : ClassId} {ad : Nat → Nat} {σ0 : SP} {wr : va_W} (C : jC x cc_M_walk 10 "PlainWarehouseModel") (hT : (jT x)[0]? = some (cA, .int)) (hR : jR x = rm_M_walk)  (c2 : Int32) (c3 : Int32) (c4 : Int32) (c5 : Int32) (c6 : Int32) (σ : SM) (v7 : Int32) (v8 : Int32) {o : (Int32 × Int32) ⊕ (Int32 × Int32)} (h : b_M_walk_121 c2 c3 c4 c5 c6 σ v7 v8 = some o) (kc : ∀ (u7 : Int32) (u8 : Int32), o = .inl (u7, u8) → jW x 10 0 0 121 [(0, .ref (bd 0)), (2, .int c2), (3, .int c3), (4, .int c4), (5, .int c5), (6, .int c6), (7, .int u7), (8, .int u8)] [] ((wP ad cA σ0) ++ ((wM bd cA σ) ++ wr))) (ke : ∀ (u7 : Int32) (u8 : Int32), o = .inr (u7, u8) → jW x 10 0 0 225 [(0, .ref (bd 0)), (2, .int c2), (3, .int c3), (4, .int c4), (5, .int c5), (6, .int c6), (7, .int u7), (8, .int u8)] [] ((wP ad cA σ0) ++ ((wM bd cA σ) ++ wr))) : jW x 10 0 0 121 [(0, .ref (bd 0)), (2, .int c2), (3, .int c3), (4, .int c4), (5, .int c5), (6, .int c6), (7, .int v7), (8, .int v8)] [] ((wP ad cA σ0) ++ ((wM bd cA σ) ++ wr)) := by
  unfold b_M_walk_121 at h
  refine j_iload C 7 d_M_walk_121 rfl rfl ?_
  refine j_iload_n C 2 d_M_walk_123 rfl rfl rfl ?_
  refine j_icmp_ge (tgt := 225) C d_M_walk_124 (by decide) rfl h (fun h => ?_) (fun h => ?_)
  · cases h
    refine j_sub [0, 1, 2, 3, 4, 5, 6, 7] rfl (ke _ _ rfl)
  · refine j_iload C 4 d_M_walk_127 rfl rfl ?_
    refine j_iload C 5 d_M_walk_129 rfl rfl ?_
    refine j_ishr C d_M_walk_131 rfl ?_
    refine j_iconst (v := 1) C d_M_walk_132 rfl (by decide) ?_
    refine j_iand C d_M_walk_133 rfl ?_
    refine j_iconst (v := 1) C d_M_walk_134 rfl (by decide) ?_
    refine j_icmp_ne (tgt := 225) C d_M_walk_135 (by decide) rfl h (fun h => ?_) (fun h => ?_)
    · cases h
      refine j_sub [0, 1, 2, 3, 4, 5, 6, 7] rfl (ke _ _ rfl)
    · refine j_iload C 7 d_M_walk_138 rfl rfl ?_
      refine j_iload C 5 d_M_walk_140 rfl rfl ?_
      refine j_icmp_eq (tgt := 219) C d_M_walk_142 (by decide) rfl h (fun h => ?_) (fun h => ?_)
      · refine j_iinc (v' := (v8 + 1)) (lv' := [(8, .int (v8 + 1)), (0, .ref (bd 0)), (2, .int c2), (3, .int c3), (4, .int c4), (5, .int c5), (6, .int c6), (7, .int v7)]) C 7 d_M_walk_219 rfl rfl rfl (by decide) rfl ?_
        refine j_goto (tgt := 121) C d_M_walk_222 (by decide) ?_
        cases h
        refine j_sub [1, 2, 3, 4, 5, 6, 7, 0] rfl (kc _ _ rfl)
      · refine j_iload C 4 d_M_walk_145 rfl rfl ?_
        refine j_iload C 7 d_M_walk_147 rfl rfl ?_
        refine j_ishr C d_M_walk_149 rfl ?_
        refine j_iconst (v := 1) C d_M_walk_150 rfl (by decide) ?_
        refine j_iand C d_M_walk_151 rfl ?_
        refine j_if_ne (tgt := 158) C d_M_walk_152 (by decide) rfl h (fun h => ?_) (fun h => ?_)
        · refine j_aload_n C 0 d_M_walk_158 rfl rfl rfl ?_
          refine j_get C in_M 18 rfl rfl 17 (by decide) tw_592 rfl (v := .ref (bd 15)) rfl d_M_walk_159 rfl ?_
          refine j_iconst (v := 4) C d_M_walk_162 rfl (by decide) ?_
          refine j_iload C 4 d_M_walk_163 rfl rfl ?_
          refine j_iconst (v := 1) C d_M_walk_165 rfl (by decide) ?_
          refine j_iload C 5 d_M_walk_166 rfl rfl ?_
          refine j_ishl C d_M_walk_168 rfl ?_
          refine j_iconst (v := (-1)) C d_M_walk_169 rfl (by decide) ?_
          refine j_ixor C d_M_walk_170 rfl ?_
          refine j_iand C d_M_walk_171 rfl ?_
          refine j_imul C d_M_walk_172 rfl ?_
          refine j_iload C 7 d_M_walk_173 rfl rfl ?_
          refine j_iadd C d_M_walk_175 rfl ?_
          refine j_iald C 33 0 rfl hT d_M_walk_176 rfl h (fun r11 h => ?_)
          refine j_aload_n C 0 d_M_walk_177 rfl rfl rfl ?_
          refine j_get C in_M 18 rfl rfl 15 (by decide) tw_590 rfl (v := .ref (bd 13)) rfl d_M_walk_178 rfl ?_
          refine j_bipush (v := 10) C d_M_walk_181 rfl (by decide) ?_
          refine j_aload_n C 0 d_M_walk_183 rfl rfl rfl ?_
          refine j_get C in_M 18 rfl rfl 16 (by decide) tw_591 rfl (v := .ref (bd 14)) rfl d_M_walk_184 rfl ?_
          refine j_iload C 7 d_M_walk_187 rfl rfl ?_
          refine j_iald C 32 0 rfl hT d_M_walk_189 rfl h (fun r12 h => ?_)
          refine j_imul C d_M_walk_190 rfl ?_
          refine j_aload_n C 0 d_M_walk_191 rfl rfl rfl ?_
          refine j_get C in_M 18 rfl rfl 16 (by decide) tw_591 rfl (v := .ref (bd 14)) rfl d_M_walk_192 rfl ?_
          refine j_iload C 5 d_M_walk_195 rfl rfl ?_
          refine j_iald C 32 0 rfl hT d_M_walk_197 rfl h (fun r13 h => ?_)
          refine j_iadd C d_M_walk_198 rfl ?_
          refine j_iald C 31 0 rfl hT d_M_walk_199 rfl h (fun r14 h => ?_)
          refine j_iadd C d_M_walk_200 rfl ?_
          refine j_istore (lv' := [(9, .int (r11 + r14)), (0, .ref (bd 0)), (2, .int c2), (3, .int c3), (4, .int c4), (5, .int c5), (6, .int c6), (7, .int v7), (8, .int v8)]) C d_M_walk_201 rfl (by decide) rfl ?_
          refine j_iload C 0 d_M_walk_203 rfl rfl ?_
          refine j_iload C 7 d_M_walk_205 rfl rfl ?_
          refine j_icmp_ge (tgt := 215) C d_M_walk_207 (by decide) rfl h (fun h => ?_) (fun h => ?_)
          · refine j_iload C 7 d_M_walk_215 rfl rfl ?_
            refine j_istore (lv' := [(7, .int v7), (9, .int (r11 + r14)), (0, .ref (bd 0)), (2, .int c2), (3, .int c3), (4, .int c4), (5, .int c5), (6, .int c6), (8, .int v8)]) C d_M_walk_217 rfl (by decide) rfl ?_
            refine j_iinc (v' := (v8 + 1)) (lv' := [(8, .int (v8 + 1)), (7, .int v7), (9, .int (r11 + r14)), (0, .ref (bd 0)), (2, .int c2), (3, .int c3), (4, .int c4), (5, .int c5), (6, .int c6)]) C 8 d_M_walk_219 rfl rfl rfl (by decide) rfl ?_
            refine j_goto (tgt := 121) C d_M_walk_222 (by decide) ?_
            cases h
            refine j_sub [3, 4, 5, 6, 7, 8, 1, 0] rfl (kc _ _ rfl)
          · refine j_iload C 0 d_M_walk_210 rfl rfl ?_
            refine j_goto (tgt := 217) C d_M_walk_212 (by decide) ?_
            refine j_istore (lv' := [(7, .int (r11 + r14)), (9, .int (r11 + r14)), (0, .ref (bd 0)), (2, .int c2), (3, .int c3), (4, .int c4), (5, .int c5), (6, .int c6), (8, .int v8)]) C d_M_walk_217 rfl (by decide) rfl ?_
            refine j_iinc (v' := (v8 + 1)) (lv' := [(8, .int (v8 + 1)), (7, .int (r11 + r14)), (9, .int (r11 + r14)), (0, .ref (bd 0)), (2, .int c2), (3, .int c3), (4, .int c4), (5, .int c5), (6, .int c6)]) C 8 d_M_walk_219 rfl rfl rfl (by decide) rfl ?_
            refine j_goto (tgt := 121) C d_M_walk_222 (by decide) ?_
            cases h
            refine j_sub [3, 4, 5, 6, 7, 8, 1, 0] rfl (kc _ _ rfl)
        · refine j_goto (tgt := 219) C d_M_walk_155 (by decide) ?_
          refine j_iinc (v' := (v8 + 1)) (lv' := [(8, .int (v8 + 1)), (0, .ref (bd 0)), (2, .int c2), (3, .int c3), (4, .int c4), (5, .int c5), (6, .int c6), (7, .int v7)]) C 7 d_M_walk_219 rfl rfl rfl (by decide) rfl ?_
          refine j_goto (tgt := 121) C d_M_walk_222 (by decide) ?_
          cases h
          refine j_sub [1, 2, 3, 4, 5, 6, 7, 0] rfl (kc _ _ rfl)
set_option maxRecDepth 100000 in
theorem wl_M_walk_121 {x : JX} {bd : Nat → Nat} {cA : ClassId} {ad : Nat → Nat} {σ0 : SP} {wr : va_W} (C : jC x cc_M_walk 10 "PlainWarehouseModel") (hT : (jT x)[0]? = some (cA, .int)) (hR : jR x = rm_M_walk)  (c2 : Int32) (c3 : Int32) (c4 : Int32) (c5 : Int32) (c6 : Int32) (σ : SM) (v7 : Int32) (v8 : Int32) {u7 : Int32} {u8 : Int32} (n : Nat) (h : lp (fun s => b_M_walk_121 c2 c3 c4 c5 c6 σ s.1 s.2) n (v7, v8) = some (u7, u8)) (K : jW x 10 0 0 225 [(0, .ref (bd 0)), (2, .int c2), (3, .int c3), (4, .int c4), (5, .int c5), (6, .int c6), (7, .int u7), (8, .int u8)] [] ((wP ad cA σ0) ++ ((wM bd cA σ) ++ wr))) : jW x 10 0 0 121 [(0, .ref (bd 0)), (2, .int c2), (3, .int c3), (4, .int c4), (5, .int c5), (6, .int c6), (7, .int v7), (8, .int v8)] [] ((wP ad cA σ0) ++ ((wM bd cA σ) ++ wr)) :=
  j_lp (Pr := fun s => jW x 10 0 0 121 [(0, .ref (bd 0)), (2, .int c2), (3, .int c3), (4, .int c4), (5, .int c5), (6, .int c6), (7, .int s.1), (8, .int s.2)] [] ((wP ad cA σ0) ++ ((wM bd cA σ) ++ wr))) (K := fun s => jW x 10 0 0 225 [(0, .ref (bd 0)), (2, .int c2), (3, .int c3), (4, .int c4), (5, .int c5), (6, .int c6), (7, .int s.1), (8, .int s.2)] [] ((wP ad cA σ0) ++ ((wM bd cA σ) ++ wr))) (fun s o h kc ke => wb_M_walk_121 C hT hR c2 c3 c4 c5 c6 σ s.1 s.2 h (fun u7 u8 e => kc _ e) (fun u7 u8 e => ke _ e)) n _ _ h K
set_option maxHeartbeats 4000000 in
set_option maxRecDepth 100000 in
theorem wb_M_walk_79 {x : JX} {bd : Nat → Nat} {cA : ClassId} {ad : Nat → Nat} {σ0 : SP} {wr : va_W} (C : jC x cc_M_walk 10 "PlainWarehouseModel") (hT : (jT x)[0]? = some (cA, .int)) (hR : jR x = rm_M_walk)  (c2 : Int32) (c3 : Int32) (c5 : Int32) (σ : SM) (v4 : Int32) (v6 : Int32) {o : (Int32 × Int32 × SM) ⊕ (Int32 × Int32 × SM)} (h : b_M_walk_79 c2 c3 c5 v4 v6 σ = some o) (kc : ∀ (u4 : Int32) (u6 : Int32) (τ : SM), o = .inl (u4, u6, τ) → jW x 10 0 0 79 [(0, .ref (bd 0)), (2, .int c2), (3, .int c3), (4, .int u4), (5, .int c5), (6, .int u6)] [] ((wP ad cA σ0) ++ ((wM bd cA τ) ++ wr))) (ke : ∀ (u4 : Int32) (u6 : Int32) (τ : SM), o = .inr (u4, u6, τ) → jW x 10 0 0 266 [(0, .ref (bd 0)), (2, .int c2), (3, .int c3), (4, .int u4), (5, .int c5), (6, .int u6)] [] ((wP ad cA σ0) ++ ((wM bd cA τ) ++ wr))) : jW x 10 0 0 79 [(0, .ref (bd 0)), (2, .int c2), (3, .int c3), (4, .int v4), (5, .int c5), (6, .int v6)] [] ((wP ad cA σ0) ++ ((wM bd cA σ) ++ wr)) := by
  unfold b_M_walk_79 at h
  refine j_iload C 5 d_M_walk_79 rfl rfl ?_
  refine j_iload_n C 2 d_M_walk_81 rfl rfl rfl ?_
  refine j_icmp_ge (tgt := 266) C d_M_walk_82 (by decide) rfl h (fun h => ?_) (fun h => ?_)
  · cases h
    refine j_sub [0, 1, 2, 3, 4, 5] rfl (ke _ _ _ rfl)
  · refine j_iload C 4 d_M_walk_85 rfl rfl ?_
    refine j_iconst (v := 1) C d_M_walk_87 rfl (by decide) ?_
    refine j_iload C 5 d_M_walk_88 rfl rfl ?_
    refine j_ishl C d_M_walk_90 rfl ?_
    refine j_icmp_ne (tgt := 114) C d_M_walk_91 (by decide) rfl h (fun h => ?_) (fun h => ?_)
    · refine j_ldc (v := 1048576) C d_M_walk_114 rfl tw_718 ?_
      refine j_istore (lv' := [(7, .int (1048576 : Int32)), (0, .ref (bd 0)), (2, .int c2), (3, .int c3), (4, .int v4), (5, .int c5), (6, .int v6)]) C d_M_walk_116 rfl (by decide) rfl ?_
      refine j_iconst (v := 0) C d_M_walk_118 rfl (by decide) ?_
      refine j_istore (lv' := [(8, .int (0 : Int32)), (7, .int (1048576 : Int32)), (0, .ref (bd 0)), (2, .int c2), (3, .int c3), (4, .int v4), (5, .int c5), (6, .int v6)]) C d_M_walk_119 rfl (by decide) rfl ?_
      obtain ⟨w15, w16, h17, h⟩ := mb2_some h
      refine j_sub [2, 3, 4, 5, 6, 7, 1, 0] rfl (wl_M_walk_121 C hT hR c2 c3 v4 c5 v6 σ (1048576 : Int32) (0 : Int32) FU h17 ?_)
      refine j_aload_n C 0 d_M_walk_225 rfl rfl rfl ?_
      refine j_get C in_M 18 rfl rfl 17 (by decide) tw_592 rfl (v := .ref (bd 15)) rfl d_M_walk_226 rfl ?_
      refine j_iconst (v := 4) C d_M_walk_229 rfl (by decide) ?_
      refine j_iload C 4 d_M_walk_230 rfl rfl ?_
      refine j_imul C d_M_walk_232 rfl ?_
      refine j_iload C 5 d_M_walk_233 rfl rfl ?_
      refine j_iadd C d_M_walk_235 rfl ?_
      refine j_iload C 6 d_M_walk_236 rfl rfl ?_
      refine j_iast C (fun t => (wP ad cA σ0) ++ ((wM bd cA t) ++ wr)) 33 0 rfl hT d_M_walk_238 rfl h rfl (fun σ18 h => ?_)
      refine j_iload C 4 d_M_walk_239 rfl rfl ?_
      refine j_iconst (v := 1) C d_M_walk_241 rfl (by decide) ?_
      refine j_iload_n C 2 d_M_walk_242 rfl rfl rfl ?_
      refine j_ishl C d_M_walk_243 rfl ?_
      refine j_iconst (v := 1) C d_M_walk_244 rfl (by decide) ?_
      refine j_isub C d_M_walk_245 rfl ?_
      refine j_icmp_ne (tgt := 260) C d_M_walk_246 (by decide) rfl h (fun h => ?_) (fun h => ?_)
      · refine j_iinc (v' := (v6 + 1)) (lv' := [(6, .int (v6 + 1)), (0, .ref (bd 0)), (2, .int c2), (3, .int c3), (4, .int v4), (5, .int c5), (7, .int w15), (8, .int w16)]) C 5 d_M_walk_260 rfl rfl rfl (by decide) rfl ?_
        refine j_goto (tgt := 79) C d_M_walk_263 (by decide) ?_
        cases h
        refine j_sub [1, 2, 3, 4, 5, 0] rfl (kc _ _ _ rfl)
      · refine j_iload C 6 d_M_walk_249 rfl rfl ?_
        refine j_iload C 3 d_M_walk_251 rfl rfl ?_
        refine j_icmp_ge (tgt := 260) C d_M_walk_253 (by decide) rfl h (fun h => ?_) (fun h => ?_)
        · refine j_iinc (v' := (v6 + 1)) (lv' := [(6, .int (v6 + 1)), (0, .ref (bd 0)), (2, .int c2), (3, .int c3), (4, .int v4), (5, .int c5), (7, .int w15), (8, .int w16)]) C 5 d_M_walk_260 rfl rfl rfl (by decide) rfl ?_
          refine j_goto (tgt := 79) C d_M_walk_263 (by decide) ?_
          cases h
          refine j_sub [1, 2, 3, 4, 5, 0] rfl (kc _ _ _ rfl)
        · refine j_iload C 6 d_M_walk_256 rfl rfl ?_
          refine j_istore (lv' := [(4, .int w15), (0, .ref (bd 0)), (2, .int c2), (3, .int c3), (5, .int c5), (6, .int v6), (7, .int w15), (8, .int w16)]) C d_M_walk_258 rfl (by decide) rfl ?_
          refine j_iinc (v' := (v6 + 1)) (lv' := [(6, .int (v6 + 1)), (4, .int w15), (0, .ref (bd 0)), (2, .int c2), (3, .int c3), (5, .int c5), (7, .int w15), (8, .int w16)]) C 5 d_M_walk_260 rfl rfl rfl (by decide) rfl ?_
          refine j_goto (tgt := 79) C d_M_walk_263 (by decide) ?_
          cases h
          refine j_sub [2, 3, 4, 1, 5, 0] rfl (kc _ _ _ rfl)
    · refine j_aload_n C 0 d_M_walk_94 rfl rfl rfl ?_
      refine j_get C in_M 18 rfl rfl 15 (by decide) tw_590 rfl (v := .ref (bd 13)) rfl d_M_walk_95 rfl ?_
      refine j_bipush (v := 10) C d_M_walk_98 rfl (by decide) ?_
      refine j_iload_n C 1 d_M_walk_100 rfl rfl rfl ?_
      refine j_imul C d_M_walk_101 rfl ?_
      refine j_aload_n C 0 d_M_walk_102 rfl rfl rfl ?_
      refine j_get C in_M 18 rfl rfl 16 (by decide) tw_591 rfl (v := .ref (bd 14)) rfl d_M_walk_103 rfl ?_
      refine j_iload C 5 d_M_walk_106 rfl rfl ?_
      refine j_iald C 32 0 rfl hT d_M_walk_108 rfl h (fun r19 h => ?_)
      refine j_iadd C d_M_walk_109 rfl ?_
      refine j_iald C 31 0 rfl hT d_M_walk_110 rfl h (fun r20 h => ?_)
      refine j_goto (tgt := 116) C d_M_walk_111 (by decide) ?_
      refine j_istore (lv' := [(7, .int r20), (0, .ref (bd 0)), (2, .int c2), (3, .int c3), (4, .int v4), (5, .int c5), (6, .int v6)]) C d_M_walk_116 rfl (by decide) rfl ?_
      refine j_iconst (v := 0) C d_M_walk_118 rfl (by decide) ?_
      refine j_istore (lv' := [(8, .int (0 : Int32)), (7, .int r20), (0, .ref (bd 0)), (2, .int c2), (3, .int c3), (4, .int v4), (5, .int c5), (6, .int v6)]) C d_M_walk_119 rfl (by decide) rfl ?_
      obtain ⟨w25, w26, h27, h⟩ := mb2_some h
      refine j_sub [2, 3, 4, 5, 6, 7, 1, 0] rfl (wl_M_walk_121 C hT hR c2 c3 v4 c5 v6 σ r20 (0 : Int32) FU h27 ?_)
      refine j_aload_n C 0 d_M_walk_225 rfl rfl rfl ?_
      refine j_get C in_M 18 rfl rfl 17 (by decide) tw_592 rfl (v := .ref (bd 15)) rfl d_M_walk_226 rfl ?_
      refine j_iconst (v := 4) C d_M_walk_229 rfl (by decide) ?_
      refine j_iload C 4 d_M_walk_230 rfl rfl ?_
      refine j_imul C d_M_walk_232 rfl ?_
      refine j_iload C 5 d_M_walk_233 rfl rfl ?_
      refine j_iadd C d_M_walk_235 rfl ?_
      refine j_iload C 6 d_M_walk_236 rfl rfl ?_
      refine j_iast C (fun t => (wP ad cA σ0) ++ ((wM bd cA t) ++ wr)) 33 0 rfl hT d_M_walk_238 rfl h rfl (fun σ28 h => ?_)
      refine j_iload C 4 d_M_walk_239 rfl rfl ?_
      refine j_iconst (v := 1) C d_M_walk_241 rfl (by decide) ?_
      refine j_iload_n C 2 d_M_walk_242 rfl rfl rfl ?_
      refine j_ishl C d_M_walk_243 rfl ?_
      refine j_iconst (v := 1) C d_M_walk_244 rfl (by decide) ?_
      refine j_isub C d_M_walk_245 rfl ?_
      refine j_icmp_ne (tgt := 260) C d_M_walk_246 (by decide) rfl h (fun h => ?_) (fun h => ?_)
      · refine j_iinc (v' := (v6 + 1)) (lv' := [(6, .int (v6 + 1)), (0, .ref (bd 0)), (2, .int c2), (3, .int c3), (4, .int v4), (5, .int c5), (7, .int w25), (8, .int w26)]) C 5 d_M_walk_260 rfl rfl rfl (by decide) rfl ?_
        refine j_goto (tgt := 79) C d_M_walk_263 (by decide) ?_
        cases h
        refine j_sub [1, 2, 3, 4, 5, 0] rfl (kc _ _ _ rfl)
      · refine j_iload C 6 d_M_walk_249 rfl rfl ?_
        refine j_iload C 3 d_M_walk_251 rfl rfl ?_
        refine j_icmp_ge (tgt := 260) C d_M_walk_253 (by decide) rfl h (fun h => ?_) (fun h => ?_)
        · refine j_iinc (v' := (v6 + 1)) (lv' := [(6, .int (v6 + 1)), (0, .ref (bd 0)), (2, .int c2), (3, .int c3), (4, .int v4), (5, .int c5), (7, .int w25), (8, .int w26)]) C 5 d_M_walk_260 rfl rfl rfl (by decide) rfl ?_
          refine j_goto (tgt := 79) C d_M_walk_263 (by decide) ?_
          cases h
          refine j_sub [1, 2, 3, 4, 5, 0] rfl (kc _ _ _ rfl)
        · refine j_iload C 6 d_M_walk_256 rfl rfl ?_
          refine j_istore (lv' := [(4, .int w25), (0, .ref (bd 0)), (2, .int c2), (3, .int c3), (5, .int c5), (6, .int v6), (7, .int w25), (8, .int w26)]) C d_M_walk_258 rfl (by decide) rfl ?_
          refine j_iinc (v' := (v6 + 1)) (lv' := [(6, .int (v6 + 1)), (4, .int w25), (0, .ref (bd 0)), (2, .int c2), (3, .int c3), (5, .int c5), (7, .int w25), (8, .int w26)]) C 5 d_M_walk_260 rfl rfl rfl (by decide) rfl ?_
          refine j_goto (tgt := 79) C d_M_walk_263 (by decide) ?_
          cases h
          refine j_sub [2, 3, 4, 1, 5, 0] rfl (kc _ _ _ rfl)
set_option maxRecDepth 100000 in
theorem wl_M_walk_79 {x : JX} {bd : Nat → Nat} {cA : ClassId} {ad : Nat → Nat} {σ0 : SP} {wr : va_W} (C : jC x cc_M_walk 10 "PlainWarehouseModel") (hT : (jT x)[0]? = some (cA, .int)) (hR : jR x = rm_M_walk)  (c2 : Int32) (c3 : Int32) (c5 : Int32) (σ : SM) (v4 : Int32) (v6 : Int32) {u4 : Int32} {u6 : Int32} {τ : SM} (n : Nat) (h : lp (fun s => b_M_walk_79 c2 c3 c5 s.1 s.2.1 s.2.2) n (v4, v6, σ) = some (u4, u6, τ)) (K : jW x 10 0 0 266 [(0, .ref (bd 0)), (2, .int c2), (3, .int c3), (4, .int u4), (5, .int c5), (6, .int u6)] [] ((wP ad cA σ0) ++ ((wM bd cA τ) ++ wr))) : jW x 10 0 0 79 [(0, .ref (bd 0)), (2, .int c2), (3, .int c3), (4, .int v4), (5, .int c5), (6, .int v6)] [] ((wP ad cA σ0) ++ ((wM bd cA σ) ++ wr)) :=
  j_lp (Pr := fun s => jW x 10 0 0 79 [(0, .ref (bd 0)), (2, .int c2), (3, .int c3), (4, .int s.1), (5, .int c5), (6, .int s.2.1)] [] ((wP ad cA σ0) ++ ((wM bd cA s.2.2) ++ wr))) (K := fun s => jW x 10 0 0 266 [(0, .ref (bd 0)), (2, .int c2), (3, .int c3), (4, .int s.1), (5, .int c5), (6, .int s.2.1)] [] ((wP ad cA σ0) ++ ((wM bd cA s.2.2) ++ wr))) (fun s o h kc ke => wb_M_walk_79 C hT hR c2 c3 c5 s.2.2 s.1 s.2.1 h (fun u4 u6 τ e => kc _ e) (fun u4 u6 τ e => ke _ e)) n _ _ h K
set_option maxHeartbeats 4000000 in
set_option maxRecDepth 100000 in
theorem wb_M_walk_68 {x : JX} {bd : Nat → Nat} {cA : ClassId} {ad : Nat → Nat} {σ0 : SP} {wr : va_W} (C : jC x cc_M_walk 10 "PlainWarehouseModel") (hT : (jT x)[0]? = some (cA, .int)) (hR : jR x = rm_M_walk)  (c2 : Int32) (c3 : Int32) (σ : SM) (v4 : Int32) (v5 : Int32) {o : (Int32 × Int32 × SM) ⊕ (Int32 × Int32 × SM)} (h : b_M_walk_68 c2 c3 v4 v5 σ = some o) (kc : ∀ (u4 : Int32) (u5 : Int32) (τ : SM), o = .inl (u4, u5, τ) → jW x 10 0 0 68 [(0, .ref (bd 0)), (2, .int c2), (3, .int c3), (4, .int u4), (5, .int u5)] [] ((wP ad cA σ0) ++ ((wM bd cA τ) ++ wr))) (ke : ∀ (u4 : Int32) (u5 : Int32) (τ : SM), o = .inr (u4, u5, τ) → jW x 10 0 0 272 [(0, .ref (bd 0)), (2, .int c2), (3, .int c3), (4, .int u4), (5, .int u5)] [] ((wP ad cA σ0) ++ ((wM bd cA τ) ++ wr))) : jW x 10 0 0 68 [(0, .ref (bd 0)), (2, .int c2), (3, .int c3), (4, .int v4), (5, .int v5)] [] ((wP ad cA σ0) ++ ((wM bd cA σ) ++ wr)) := by
  unfold b_M_walk_68 at h
  refine j_iload C 4 d_M_walk_68 rfl rfl ?_
  refine j_iconst (v := 1) C d_M_walk_70 rfl (by decide) ?_
  refine j_iload_n C 2 d_M_walk_71 rfl rfl rfl ?_
  refine j_ishl C d_M_walk_72 rfl ?_
  refine j_icmp_ge (tgt := 272) C d_M_walk_73 (by decide) rfl h (fun h => ?_) (fun h => ?_)
  · cases h
    refine j_sub [0, 1, 2, 3, 4] rfl (ke _ _ _ rfl)
  · refine j_iconst (v := 0) C d_M_walk_76 rfl (by decide) ?_
    refine j_istore (lv' := [(6, .int (0 : Int32)), (0, .ref (bd 0)), (2, .int c2), (3, .int c3), (4, .int v4), (5, .int v5)]) C d_M_walk_77 rfl (by decide) rfl ?_
    obtain ⟨w29, w30, σ31, h32, h⟩ := mb3_some h
    refine j_sub [1, 2, 3, 4, 5, 0] rfl (wl_M_walk_79 C hT hR c2 c3 v5 σ v4 (0 : Int32) FU h32 ?_)
    refine j_iinc (v' := (v5 + 1)) (lv' := [(5, .int (v5 + 1)), (0, .ref (bd 0)), (2, .int c2), (3, .int c3), (4, .int w29), (6, .int w30)]) C 4 d_M_walk_266 rfl rfl rfl (by decide) rfl ?_
    refine j_goto (tgt := 68) C d_M_walk_269 (by decide) ?_
    cases h
    refine j_sub [1, 2, 3, 4, 0] rfl (kc _ _ _ rfl)
set_option maxRecDepth 100000 in
theorem wl_M_walk_68 {x : JX} {bd : Nat → Nat} {cA : ClassId} {ad : Nat → Nat} {σ0 : SP} {wr : va_W} (C : jC x cc_M_walk 10 "PlainWarehouseModel") (hT : (jT x)[0]? = some (cA, .int)) (hR : jR x = rm_M_walk)  (c2 : Int32) (c3 : Int32) (σ : SM) (v4 : Int32) (v5 : Int32) {u4 : Int32} {u5 : Int32} {τ : SM} (n : Nat) (h : lp (fun s => b_M_walk_68 c2 c3 s.1 s.2.1 s.2.2) n (v4, v5, σ) = some (u4, u5, τ)) (K : jW x 10 0 0 272 [(0, .ref (bd 0)), (2, .int c2), (3, .int c3), (4, .int u4), (5, .int u5)] [] ((wP ad cA σ0) ++ ((wM bd cA τ) ++ wr))) : jW x 10 0 0 68 [(0, .ref (bd 0)), (2, .int c2), (3, .int c3), (4, .int v4), (5, .int v5)] [] ((wP ad cA σ0) ++ ((wM bd cA σ) ++ wr)) :=
  j_lp (Pr := fun s => jW x 10 0 0 68 [(0, .ref (bd 0)), (2, .int c2), (3, .int c3), (4, .int s.1), (5, .int s.2.1)] [] ((wP ad cA σ0) ++ ((wM bd cA s.2.2) ++ wr))) (K := fun s => jW x 10 0 0 272 [(0, .ref (bd 0)), (2, .int c2), (3, .int c3), (4, .int s.1), (5, .int s.2.1)] [] ((wP ad cA σ0) ++ ((wM bd cA s.2.2) ++ wr))) (fun s o h kc ke => wb_M_walk_68 C hT hR c2 c3 s.2.2 s.1 s.2.1 h (fun u4 u5 τ e => kc _ e) (fun u4 u5 τ e => ke _ e)) n _ _ h K
set_option maxHeartbeats 4000000 in
set_option maxRecDepth 100000 in
theorem wk_M_walk_25 {x : JX} {bd : Nat → Nat} {cA : ClassId} {ad : Nat → Nat} {σ0 : SP} {wr : va_W} (C : jC x cc_M_walk 10 "PlainWarehouseModel") (hT : (jT x)[0]? = some (cA, .int)) (hR : jR x = rm_M_walk)  (p1 : Int32) (p2 : Int32) (s0 : Int32) (σ : SM) {r : Int32} {σ' : SM} (hr : (jt x).sig.returnType = some .int) (E : jE x 0 0 (some (.int r)) ((wP ad cA σ0) ++ ((wM bd cA σ') ++ wr))) (h : k_M_walk_25 p1 p2 s0 σ = some (r, σ')) : jW x 10 0 0 25 [(0, .ref (bd 0)), (1, .int p1), (2, .int p2)] [.int s0, .ref (bd 0)] ((wP ad cA σ0) ++ ((wM bd cA σ) ++ wr)) := by
  unfold k_M_walk_25 at h
  refine j_put C in_M ty_M_ok nm_M 18 rfl rfl 0 (by decide) tw_575 rfl rfl rfl (Nat.le_of_ble_eq_true rfl) (fun t => (wP ad cA σ0) ++ ((wM bd cA t) ++ wr)) d_M_walk_25 rfl h rfl (fun σ5 h => ?_)
  refine j_aload_n C 0 d_M_walk_28 rfl rfl rfl ?_
  refine j_get C in_M 18 rfl rfl 0 (by decide) tw_575 rfl (v := .int (g_mcode σ5)) rfl d_M_walk_29 rfl ?_
  refine j_if_le (tgt := 37) C d_M_walk_32 (by decide) rfl h (fun h => ?_) (fun h => ?_)
  · refine j_aload_n C 0 d_M_walk_37 rfl rfl rfl ?_
    refine j_iload_n C 1 d_M_walk_38 rfl rfl rfl ?_
    obtain ⟨r6, σ7, h8, h⟩ := mb2_some h
    refine j_callV C hR (As := [.int p1]) (ct_M_places (jl x) (jD x) (jT x) hT p1 σ5 h8) kf_M_places (by decide) tw_723 tw_725 tw_43 18 rfl rfl (rest := []) rfl rfl (Nat.le_of_ble_eq_true rfl) (by decide) ⟨rfl, rfl⟩ d_M_walk_39 rfl (st1 := [.int r6]) rfl ?_
    refine j_istore_n (lv' := [(3, .int r6), (0, .ref (bd 0)), (1, .int p1), (2, .int p2)]) C d_M_walk_42 rfl rfl (by decide) rfl ?_
    refine j_iload_n C 0 d_M_walk_43 rfl rfl rfl ?_
    refine j_if_ne (tgt := 49) C d_M_walk_44 (by decide) rfl h (fun h => ?_) (fun h => ?_)
    · refine j_iload_n C 0 d_M_walk_49 rfl rfl rfl ?_
      refine j_iconst (v := 4) C d_M_walk_50 rfl (by decide) ?_
      refine j_icmp_le (tgt := 57) C d_M_walk_51 (by decide) rfl h (fun h => ?_) (fun h => ?_)
      · refine j_aload_n C 1 d_M_walk_57 rfl rfl rfl ?_
        obtain ⟨σ9, h10, h⟩ := mb1_some h
        refine j_callV C hR (As := []) (ct_M_reach (jl x) (jD x) (jT x) hT  σ7 h10) kf_M_reach (by decide) tw_714 tw_716 tw_42 18 rfl rfl (rest := []) rfl rfl (Nat.le_of_ble_eq_true rfl) (by decide) ⟨rfl, rfl⟩ d_M_walk_58 rfl (st1 := []) rfl ?_
        refine j_ldc (v := 1048576) C d_M_walk_61 rfl tw_718 ?_
        refine j_istore (lv' := [(4, .int (1048576 : Int32)), (3, .int r6), (0, .ref (bd 0)), (1, .int p1), (2, .int p2)]) C d_M_walk_63 rfl (by decide) rfl ?_
        refine j_iconst (v := 1) C d_M_walk_65 rfl (by decide) ?_
        refine j_istore (lv' := [(5, .int (1 : Int32)), (4, .int (1048576 : Int32)), (3, .int r6), (0, .ref (bd 0)), (1, .int p1), (2, .int p2)]) C d_M_walk_66 rfl (by decide) rfl ?_
        obtain ⟨w33, w34, σ35, h36, h⟩ := mb3_some h
        refine j_sub [3, 5, 2, 1, 0] rfl (wl_M_walk_68 C hT hR p2 r6 σ9 (1048576 : Int32) (1 : Int32) FU h36 ?_)
        refine j_iload C 3 d_M_walk_272 rfl rfl ?_
        refine j_ldc (v := 1048576) C d_M_walk_274 rfl tw_718 ?_
        refine j_icmp_ge (tgt := 284) C d_M_walk_276 (by decide) rfl h (fun h => ?_) (fun h => ?_)
        · refine j_iconst (v := (-1)) C d_M_walk_284 rfl (by decide) ?_
          cases h
          exact j_iret C E hr d_M_walk_285
        · refine j_iload C 3 d_M_walk_279 rfl rfl ?_
          refine j_goto (tgt := 285) C d_M_walk_281 (by decide) ?_
          cases h
          exact j_iret C E hr d_M_walk_285
      · refine j_bipush (v := (-2)) C d_M_walk_54 rfl (by decide) ?_
        cases h
        exact j_iret C E hr d_M_walk_56
    · refine j_iconst (v := 0) C d_M_walk_47 rfl (by decide) ?_
      cases h
      exact j_iret C E hr d_M_walk_48
  · refine j_iconst (v := 0) C d_M_walk_35 rfl (by decide) ?_
    cases h
    exact j_iret C E hr d_M_walk_36
set_option maxHeartbeats 4000000 in
set_option maxRecDepth 100000 in
theorem w_M_walk {x : JX} {bd : Nat → Nat} {cA : ClassId} {ad : Nat → Nat} {σ0 : SP} {wr : va_W} (C : jC x cc_M_walk 10 "PlainWarehouseModel") (hT : (jT x)[0]? = some (cA, .int)) (hR : jR x = rm_M_walk)  (a1 : Int32) (a2 : Int32) (σ : SM) {r : Int32} {σ' : SM} (hr : (jt x).sig.returnType = some .int) (E : jE x 0 0 (some (.int r)) ((wP ad cA σ0) ++ ((wM bd cA σ') ++ wr))) (h : m_M_walk a1 a2 σ = some (r, σ')) : jW x 10 0 0 0 [(0, .ref (bd 0)), (1, .int a1), (2, .int a2)] [] ((wP ad cA σ0) ++ ((wM bd cA σ) ++ wr)) := by
  unfold m_M_walk at h
  refine j_aload_n C 0 d_M_walk_0 rfl rfl rfl ?_
  refine j_aload_n C 0 d_M_walk_1 rfl rfl rfl ?_
  refine j_iload_n C 1 d_M_walk_2 rfl rfl rfl ?_
  obtain ⟨r1, h2, h⟩ := mb1_some h
  refine j_callV C hR (As := [.int a1]) (ct_M_isOrder (jl x) (jD x) (jT x) hT a1 σ h2) kf_M_isOrder (by decide) tw_694 tw_696 tw_39 18 rfl rfl (rest := [.ref (bd 0)]) rfl rfl (Nat.le_of_ble_eq_true rfl) (by decide) ⟨rfl, rfl⟩ d_M_walk_3 rfl (st1 := [.int r1, .ref (bd 0)]) rfl ?_
  refine j_if_ne (tgt := 13) C d_M_walk_6 (by decide) rfl h (fun h => ?_) (fun h => ?_)
  · refine j_iload_n C 2 d_M_walk_13 rfl rfl rfl ?_
    obtain ⟨r3, h4, h⟩ := mb1_some h
    refine j_callS C hR (As := [.int a2]) (ct_M_isPlace (jl x) (jD x) (jT x) a2 h4) kf_M_isPlace (by decide) tw_647 tw_648 (rest := [.ref (bd 0)]) rfl rfl (Nat.le_of_ble_eq_true rfl) (by decide) ⟨rfl, rfl⟩ d_M_walk_14 rfl (st1 := [.int r3, .ref (bd 0)]) rfl ?_
    refine j_if_ne (tgt := 24) C d_M_walk_17 (by decide) rfl h (fun h => ?_) (fun h => ?_)
    · refine j_iconst (v := 0) C d_M_walk_24 rfl (by decide) ?_
      exact j_sub [0, 1, 2] rfl (wk_M_walk_25 C hT hR a1 a2 (0 : Int32) σ hr E h)
    · refine j_iconst (v := 2) C d_M_walk_20 rfl (by decide) ?_
      refine j_goto (tgt := 25) C d_M_walk_21 (by decide) ?_
      exact j_sub [0, 1, 2] rfl (wk_M_walk_25 C hT hR a1 a2 (2 : Int32) σ hr E h)
  · refine j_iconst (v := 1) C d_M_walk_9 rfl (by decide) ?_
    refine j_goto (tgt := 25) C d_M_walk_10 (by decide) ?_
    exact j_sub [0, 1, 2] rfl (wk_M_walk_25 C hT hR a1 a2 (1 : Int32) σ hr E h)
theorem ct_M_walk (l : Launch) (D : va_G) (tys : List (ClassId × FieldType)) {bd : Nat → Nat} {cA : ClassId} {ad : Nat → Nat} {σ0 : SP} {wr : va_W} (hT : tys[0]? = some (cA, .int)) (a1 : Int32) (a2 : Int32) (σ : SM) {r : Int32} {σ' : SM} (h : m_M_walk a1 a2 σ = some (r, σ')) : jM l y_M_walk ws_M_walk rm_M_walk D tys [.ref (bd 0), .int a1, .int a2] ((wP ad cA σ0) ++ ((wM bd cA σ) ++ wr)) (some (.int r)) ((wP ad cA σ0) ++ ((wM bd cA σ') ++ wr)) :=
  j_of (by decide +kernel) rfl (Nat.le_of_ble_eq_true rfl) rfl (fun x _ _ hT' hR C hr _ E => w_M_walk C (by rw [hT']; exact hT) hR a1 a2 σ hr E h)
def rm_M_without : Room := { frames := 3, cells := 0, slots := 0, locals := 70 }
def b_M_without_14 (c2 : Int32) (v3 : Int32) (v4 : Int32) (σ : SM) : Option ((Int32 × Int32 × SM) ⊕ (Nat × Int32 × Int32 × SM)) :=
  (if (g_mev σ) ≤ v4 then some (.inr (1, v3, v4, σ)) else (mrd 60 (g_mkd σ) v4 fun r3 => (mrd 60 (g_mxa σ) v4 fun r4 => (mrd 60 (g_mxb σ) v4 fun r5 => (mb1 (m_M_can (61 : Int32) r3 r4 r5 σ) fun r6 => (if r6 = 0 then (if c2 = 0 then some (.inl ((v3 + 1), (v4 + 1), σ)) else some (.inr (0, v3, v4, σ))) else (mrd 60 (g_mkd σ) v4 fun r8 => (mrd 60 (g_mxa σ) v4 fun r9 => (mrd 60 (g_mxb σ) v4 fun r10 => (mrd 60 (g_mxc σ) v4 fun r11 => (mb1 (m_M_apply (61 : Int32) r8 r9 r10 r11 σ) fun σ12 => some (.inl (v3, (v4 + 1), σ12)))))))))))))
def m_M_without (a1 : Int32) (a2 : Int32) (σ : SM) : Option (Int32 × SM) :=
  (mb1 (m_M_copy a1 (61 : Int32) σ) fun σ1 => (mb4 (lp (fun s => b_M_without_14 a2 s.1 s.2.1 s.2.2) FU ((0 : Int32), (a1 + (1 : Int32)), σ1)) fun tg18 w14 w15 σ16 => (if tg18 = 0 then some (w15, σ16) else (if a2 = 0 then some (w14, σ16) else some ((-1 : Int32), σ16)))))
set_option maxHeartbeats 4000000 in
set_option maxRecDepth 100000 in
theorem wb_M_without_14 {x : JX} {bd : Nat → Nat} {cA : ClassId} {ad : Nat → Nat} {σ0 : SP} {wr : va_W} (C : jC x cc_M_without 5 "PlainWarehouseModel") (hT : (jT x)[0]? = some (cA, .int)) (hR : jR x = rm_M_without)  (c2 : Int32) (σ : SM) (v3 : Int32) (v4 : Int32) {o : (Int32 × Int32 × SM) ⊕ (Nat × Int32 × Int32 × SM)} (h : b_M_without_14 c2 v3 v4 σ = some o) (kc : ∀ (u3 : Int32) (u4 : Int32) (τ : SM), o = .inl (u3, u4, τ) → jW x 5 0 0 14 [(0, .ref (bd 0)), (2, .int c2), (3, .int u3), (4, .int u4)] [] ((wP ad cA σ0) ++ ((wM bd cA τ) ++ wr))) (ke0 : ∀ (u3 : Int32) (u4 : Int32) (τ : SM), o = .inr (0, u3, u4, τ) → jW x 5 0 0 94 [(0, .ref (bd 0)), (2, .int c2), (3, .int u3), (4, .int u4)] [] ((wP ad cA σ0) ++ ((wM bd cA τ) ++ wr))) (ke1 : ∀ (u3 : Int32) (u4 : Int32) (τ : SM), o = .inr (1, u3, u4, τ) → jW x 5 0 0 106 [(0, .ref (bd 0)), (2, .int c2), (3, .int u3), (4, .int u4)] [] ((wP ad cA σ0) ++ ((wM bd cA τ) ++ wr))) : jW x 5 0 0 14 [(0, .ref (bd 0)), (2, .int c2), (3, .int v3), (4, .int v4)] [] ((wP ad cA σ0) ++ ((wM bd cA σ) ++ wr)) := by
  unfold b_M_without_14 at h
  refine j_iload C 3 d_M_without_14 rfl rfl ?_
  refine j_aload_n C 0 d_M_without_16 rfl rfl rfl ?_
  refine j_get C in_M 18 rfl rfl 1 (by decide) tw_576 rfl (v := .int (g_mev σ)) rfl d_M_without_17 rfl ?_
  refine j_icmp_ge (tgt := 106) C d_M_without_20 (by decide) rfl h (fun h => ?_) (fun h => ?_)
  · cases h
    refine j_sub [0, 1, 2, 3] rfl (ke1 _ _ _ rfl)
  · refine j_aload_n C 0 d_M_without_23 rfl rfl rfl ?_
    refine j_bipush (v := 61) C d_M_without_24 rfl (by decide) ?_
    refine j_aload_n C 0 d_M_without_26 rfl rfl rfl ?_
    refine j_get C in_M 18 rfl rfl 3 (by decide) tw_578 rfl (v := .ref (bd 1)) rfl d_M_without_27 rfl ?_
    refine j_iload C 3 d_M_without_30 rfl rfl ?_
    refine j_iald C 19 0 rfl hT d_M_without_32 rfl h (fun r3 h => ?_)
    refine j_aload_n C 0 d_M_without_33 rfl rfl rfl ?_
    refine j_get C in_M 18 rfl rfl 4 (by decide) tw_579 rfl (v := .ref (bd 2)) rfl d_M_without_34 rfl ?_
    refine j_iload C 3 d_M_without_37 rfl rfl ?_
    refine j_iald C 20 0 rfl hT d_M_without_39 rfl h (fun r4 h => ?_)
    refine j_aload_n C 0 d_M_without_40 rfl rfl rfl ?_
    refine j_get C in_M 18 rfl rfl 5 (by decide) tw_580 rfl (v := .ref (bd 3)) rfl d_M_without_41 rfl ?_
    refine j_iload C 3 d_M_without_44 rfl rfl ?_
    refine j_iald C 21 0 rfl hT d_M_without_46 rfl h (fun r5 h => ?_)
    obtain ⟨r6, h7, h⟩ := mb1_some h
    refine j_callV C hR (As := [.int (61 : Int32), .int r3, .int r4, .int r5]) (ct_M_can (jl x) (jD x) (jT x) hT (61 : Int32) r3 r4 r5 σ h7) kf_M_can (by decide) tw_650 tw_652 tw_33 18 rfl rfl (rest := []) rfl rfl (Nat.le_of_ble_eq_true rfl) (by decide) ⟨rfl, rfl⟩ d_M_without_47 rfl (st1 := [.int r6]) rfl ?_
    refine j_if_eq (tgt := 90) C d_M_without_50 (by decide) rfl h (fun h => ?_) (fun h => ?_)
    · refine j_iload_n C 1 d_M_without_90 rfl rfl rfl ?_
      refine j_if_eq (tgt := 97) C d_M_without_91 (by decide) rfl h (fun h => ?_) (fun h => ?_)
      · refine j_iinc (v' := (v3 + 1)) (lv' := [(3, .int (v3 + 1)), (0, .ref (bd 0)), (2, .int c2), (4, .int v4)]) C 2 d_M_without_97 rfl rfl rfl (by decide) rfl ?_
        refine j_iinc (v' := (v4 + 1)) (lv' := [(4, .int (v4 + 1)), (3, .int (v3 + 1)), (0, .ref (bd 0)), (2, .int c2)]) C 3 d_M_without_100 rfl rfl rfl (by decide) rfl ?_
        refine j_goto (tgt := 14) C d_M_without_103 (by decide) ?_
        cases h
        refine j_sub [2, 3, 1, 0] rfl (kc _ _ _ rfl)
      · cases h
        refine j_sub [0, 1, 2, 3] rfl (ke0 _ _ _ rfl)
    · refine j_aload_n C 0 d_M_without_53 rfl rfl rfl ?_
      refine j_bipush (v := 61) C d_M_without_54 rfl (by decide) ?_
      refine j_aload_n C 0 d_M_without_56 rfl rfl rfl ?_
      refine j_get C in_M 18 rfl rfl 3 (by decide) tw_578 rfl (v := .ref (bd 1)) rfl d_M_without_57 rfl ?_
      refine j_iload C 3 d_M_without_60 rfl rfl ?_
      refine j_iald C 19 0 rfl hT d_M_without_62 rfl h (fun r8 h => ?_)
      refine j_aload_n C 0 d_M_without_63 rfl rfl rfl ?_
      refine j_get C in_M 18 rfl rfl 4 (by decide) tw_579 rfl (v := .ref (bd 2)) rfl d_M_without_64 rfl ?_
      refine j_iload C 3 d_M_without_67 rfl rfl ?_
      refine j_iald C 20 0 rfl hT d_M_without_69 rfl h (fun r9 h => ?_)
      refine j_aload_n C 0 d_M_without_70 rfl rfl rfl ?_
      refine j_get C in_M 18 rfl rfl 5 (by decide) tw_580 rfl (v := .ref (bd 3)) rfl d_M_without_71 rfl ?_
      refine j_iload C 3 d_M_without_74 rfl rfl ?_
      refine j_iald C 21 0 rfl hT d_M_without_76 rfl h (fun r10 h => ?_)
      refine j_aload_n C 0 d_M_without_77 rfl rfl rfl ?_
      refine j_get C in_M 18 rfl rfl 6 (by decide) tw_581 rfl (v := .ref (bd 4)) rfl d_M_without_78 rfl ?_
      refine j_iload C 3 d_M_without_81 rfl rfl ?_
      refine j_iald C 22 0 rfl hT d_M_without_83 rfl h (fun r11 h => ?_)
      obtain ⟨σ12, h13, h⟩ := mb1_some h
      refine j_callV C hR (As := [.int (61 : Int32), .int r8, .int r9, .int r10, .int r11]) (ct_M_apply (jl x) (jD x) (jT x) hT (61 : Int32) r8 r9 r10 r11 σ h13) kf_M_apply (by decide) tw_670 tw_672 tw_38 18 rfl rfl (rest := []) rfl rfl (Nat.le_of_ble_eq_true rfl) (by decide) ⟨rfl, rfl⟩ d_M_without_84 rfl (st1 := []) rfl ?_
      refine j_goto (tgt := 100) C d_M_without_87 (by decide) ?_
      refine j_iinc (v' := (v4 + 1)) (lv' := [(4, .int (v4 + 1)), (0, .ref (bd 0)), (2, .int c2), (3, .int v3)]) C 3 d_M_without_100 rfl rfl rfl (by decide) rfl ?_
      refine j_goto (tgt := 14) C d_M_without_103 (by decide) ?_
      cases h
      refine j_sub [1, 2, 3, 0] rfl (kc _ _ _ rfl)
set_option maxRecDepth 100000 in
theorem wl_M_without_14 {x : JX} {bd : Nat → Nat} {cA : ClassId} {ad : Nat → Nat} {σ0 : SP} {wr : va_W} (C : jC x cc_M_without 5 "PlainWarehouseModel") (hT : (jT x)[0]? = some (cA, .int)) (hR : jR x = rm_M_without)  (c2 : Int32) (σ : SM) (v3 : Int32) (v4 : Int32) {u3 : Int32} {u4 : Int32} {τ : SM} {tg : Nat} (n : Nat) (h : lp (fun s => b_M_without_14 c2 s.1 s.2.1 s.2.2) n (v3, v4, σ) = some (tg, u3, u4, τ)) (K0 : tg = 0 → jW x 5 0 0 94 [(0, .ref (bd 0)), (2, .int c2), (3, .int u3), (4, .int u4)] [] ((wP ad cA σ0) ++ ((wM bd cA τ) ++ wr))) (K1 : ¬ tg = 0 → jW x 5 0 0 106 [(0, .ref (bd 0)), (2, .int c2), (3, .int u3), (4, .int u4)] [] ((wP ad cA σ0) ++ ((wM bd cA τ) ++ wr))) : jW x 5 0 0 14 [(0, .ref (bd 0)), (2, .int c2), (3, .int v3), (4, .int v4)] [] ((wP ad cA σ0) ++ ((wM bd cA σ) ++ wr)) :=
  j_lp (Pr := fun s => jW x 5 0 0 14 [(0, .ref (bd 0)), (2, .int c2), (3, .int s.1), (4, .int s.2.1)] [] ((wP ad cA σ0) ++ ((wM bd cA s.2.2) ++ wr))) (K := fun s => (s.1 = 0 → jW x 5 0 0 94 [(0, .ref (bd 0)), (2, .int c2), (3, .int s.2.1), (4, .int s.2.2.1)] [] ((wP ad cA σ0) ++ ((wM bd cA s.2.2.2) ++ wr))) ∧ (¬ s.1 = 0 → jW x 5 0 0 106 [(0, .ref (bd 0)), (2, .int c2), (3, .int s.2.1), (4, .int s.2.2.1)] [] ((wP ad cA σ0) ++ ((wM bd cA s.2.2.2) ++ wr)))) (fun s o h kc ke => wb_M_without_14 C hT hR c2 s.2.2 s.1 s.2.1 h (fun u3 u4 τ e => kc _ e) (fun u3 u4 τ e => (ke _ e).1 rfl) (fun u3 u4 τ e => (ke _ e).2 Nat.one_ne_zero)) n _ _ h ⟨K0, K1⟩
set_option maxHeartbeats 4000000 in
set_option maxRecDepth 100000 in
theorem w_M_without {x : JX} {bd : Nat → Nat} {cA : ClassId} {ad : Nat → Nat} {σ0 : SP} {wr : va_W} (C : jC x cc_M_without 5 "PlainWarehouseModel") (hT : (jT x)[0]? = some (cA, .int)) (hR : jR x = rm_M_without)  (a1 : Int32) (a2 : Int32) (σ : SM) {r : Int32} {σ' : SM} (hr : (jt x).sig.returnType = some .int) (E : jE x 0 0 (some (.int r)) ((wP ad cA σ0) ++ ((wM bd cA σ') ++ wr))) (h : m_M_without a1 a2 σ = some (r, σ')) : jW x 5 0 0 0 [(0, .ref (bd 0)), (1, .int a1), (2, .int a2)] [] ((wP ad cA σ0) ++ ((wM bd cA σ) ++ wr)) := by
  unfold m_M_without at h
  refine j_aload_n C 0 d_M_without_0 rfl rfl rfl ?_
  refine j_iload_n C 1 d_M_without_1 rfl rfl rfl ?_
  refine j_bipush (v := 61) C d_M_without_2 rfl (by decide) ?_
  obtain ⟨σ1, h2, h⟩ := mb1_some h
  refine j_callV C hR (As := [.int a1, .int (61 : Int32)]) (ct_M_copy (jl x) (jD x) (jT x) hT a1 (61 : Int32) σ h2) kf_M_copy (by decide) tw_666 tw_668 tw_37 18 rfl rfl (rest := []) rfl rfl (Nat.le_of_ble_eq_true rfl) (by decide) ⟨rfl, rfl⟩ d_M_without_4 rfl (st1 := []) rfl ?_
  refine j_iconst (v := 0) C d_M_without_7 rfl (by decide) ?_
  refine j_istore_n (lv' := [(3, .int (0 : Int32)), (0, .ref (bd 0)), (1, .int a1), (2, .int a2)]) C d_M_without_8 rfl rfl (by decide) rfl ?_
  refine j_iload_n C 2 d_M_without_9 rfl rfl rfl ?_
  refine j_iconst (v := 1) C d_M_without_10 rfl (by decide) ?_
  refine j_iadd C d_M_without_11 rfl ?_
  refine j_istore (lv' := [(4, .int (a1 + (1 : Int32))), (3, .int (0 : Int32)), (0, .ref (bd 0)), (1, .int a1), (2, .int a2)]) C d_M_without_12 rfl (by decide) rfl ?_
  obtain ⟨tg18, w14, w15, σ16, h17, h⟩ := mb4_some h
  refine j_sub [2, 4, 1, 0] rfl (wl_M_without_14 C hT hR a2 σ1 (0 : Int32) (a1 + (1 : Int32)) FU h17 (fun q => ?_) (fun q => ?_))
  · rw [if_pos q] at h
    refine j_iload C 3 d_M_without_94 rfl rfl ?_
    cases h
    exact j_iret C E hr d_M_without_96
  · rw [if_neg q] at h
    refine j_iload_n C 1 d_M_without_106 rfl rfl rfl ?_
    refine j_if_eq (tgt := 114) C d_M_without_107 (by decide) rfl h (fun h => ?_) (fun h => ?_)
    · refine j_iload_n C 2 d_M_without_114 rfl rfl rfl ?_
      cases h
      exact j_iret C E hr d_M_without_115
    · refine j_iconst (v := (-1)) C d_M_without_110 rfl (by decide) ?_
      refine j_goto (tgt := 115) C d_M_without_111 (by decide) ?_
      cases h
      exact j_iret C E hr d_M_without_115
theorem ct_M_without (l : Launch) (D : va_G) (tys : List (ClassId × FieldType)) {bd : Nat → Nat} {cA : ClassId} {ad : Nat → Nat} {σ0 : SP} {wr : va_W} (hT : tys[0]? = some (cA, .int)) (a1 : Int32) (a2 : Int32) (σ : SM) {r : Int32} {σ' : SM} (h : m_M_without a1 a2 σ = some (r, σ')) : jM l y_M_without ws_M_without rm_M_without D tys [.ref (bd 0), .int a1, .int a2] ((wP ad cA σ0) ++ ((wM bd cA σ) ++ wr)) (some (.int r)) ((wP ad cA σ0) ++ ((wM bd cA σ') ++ wr)) :=
  j_of (by decide +kernel) rfl (Nat.le_of_ble_eq_true rfl) rfl (fun x _ _ hT' hR C hr _ E => w_M_without C (by rw [hT']; exact hT) hR a1 a2 σ hr E h)
def rm_M_isEvent : Room := { frames := 1, cells := 0, slots := 0, locals := 22 }
def m_M_isEvent (a1 : Int32) (σ : SM) : Option (Int32) :=
  (mb1 (m_M_in a1 (0 : Int32) ((g_mev σ) - (1 : Int32))) fun r1 => (mzr r1 (some r1)))
set_option maxHeartbeats 4000000 in
set_option maxRecDepth 100000 in
theorem w_M_isEvent {x : JX} {bd : Nat → Nat} {cA : ClassId} {ad : Nat → Nat} {σ0 : SP} {wr : va_W} (C : jC x cc_M_isEvent 2 "PlainWarehouseModel") (hT : (jT x)[0]? = some (cA, .int)) (hR : jR x = rm_M_isEvent)  (a1 : Int32) (σ : SM) {r : Int32} (hr : (jt x).sig.returnType = some .boolean) (E : jE x 0 0 (some (.int r)) ((wP ad cA σ0) ++ ((wM bd cA σ) ++ wr))) (h : m_M_isEvent a1 σ = some r) : jW x 2 0 0 0 [(0, .ref (bd 0)), (1, .int a1)] [] ((wP ad cA σ0) ++ ((wM bd cA σ) ++ wr)) := by
  unfold m_M_isEvent at h
  refine j_iload_n C 1 d_M_isEvent_0 rfl rfl rfl ?_
  refine j_iconst (v := 0) C d_M_isEvent_1 rfl (by decide) ?_
  refine j_aload_n C 0 d_M_isEvent_2 rfl rfl rfl ?_
  refine j_get C in_M 18 rfl rfl 1 (by decide) tw_576 rfl (v := .int (g_mev σ)) rfl d_M_isEvent_3 rfl ?_
  refine j_iconst (v := 1) C d_M_isEvent_6 rfl (by decide) ?_
  refine j_isub C d_M_isEvent_7 rfl ?_
  obtain ⟨r1, h2, h⟩ := mb1_some h
  refine j_callS C hR (As := [.int a1, .int (0 : Int32), .int ((g_mev σ) - (1 : Int32))]) (ct_M_in (jl x) (jD x) (jT x) a1 (0 : Int32) ((g_mev σ) - (1 : Int32)) h2) kf_M_in (by decide) tw_644 tw_645 (rest := []) rfl rfl (Nat.le_of_ble_eq_true rfl) (by decide) ⟨rfl, rfl⟩ d_M_isEvent_8 rfl (st1 := [.int r1]) rfl ?_
  obtain ⟨hz, h⟩ := mzr_some h
  cases h
  exact j_zret C E hr hz d_M_isEvent_11
theorem ct_M_isEvent (l : Launch) (D : va_G) (tys : List (ClassId × FieldType)) {bd : Nat → Nat} {cA : ClassId} {ad : Nat → Nat} {σ0 : SP} {wr : va_W} (hT : tys[0]? = some (cA, .int)) (a1 : Int32) (σ : SM) {r : Int32} (h : m_M_isEvent a1 σ = some r) : jM l y_M_isEvent ws_M_isEvent rm_M_isEvent D tys [.ref (bd 0), .int a1] ((wP ad cA σ0) ++ ((wM bd cA σ) ++ wr)) (some (.int r)) ((wP ad cA σ0) ++ ((wM bd cA σ) ++ wr)) :=
  j_of (by decide +kernel) rfl (Nat.le_of_ble_eq_true rfl) rfl (fun x _ _ hT' hR C hr _ E => w_M_isEvent C (by rw [hT']; exact hT) hR a1 σ hr E h)
def rm_M_needs : Room := { frames := 4, cells := 0, slots := 0, locals := 94 }
def k_M_needs_14 (p1 : Int32) (s0 : Int32) (σ : SM) : Option (Int32 × SM) :=
  (mlet (u_mcode σ s0) fun σ3 => (if (g_mcode σ3) ≤ 0 then (mb2 (m_M_without p1 (0 : Int32) σ3) fun r4 σ5 => some (r4, σ5)) else some ((0 : Int32), σ3)))
def m_M_needs (a1 : Int32) (σ : SM) : Option (Int32 × SM) :=
  (mb1 (m_M_isEvent a1 σ) fun r1 => (if r1 = 0 then (k_M_needs_14 a1 (1 : Int32) σ) else (k_M_needs_14 a1 (0 : Int32) σ)))
set_option maxHeartbeats 4000000 in
set_option maxRecDepth 100000 in
theorem wk_M_needs_14 {x : JX} {bd : Nat → Nat} {cA : ClassId} {ad : Nat → Nat} {σ0 : SP} {wr : va_W} (C : jC x cc_M_needs 2 "PlainWarehouseModel") (hT : (jT x)[0]? = some (cA, .int)) (hR : jR x = rm_M_needs)  (p1 : Int32) (s0 : Int32) (σ : SM) {r : Int32} {σ' : SM} (hr : (jt x).sig.returnType = some .int) (E : jE x 0 0 (some (.int r)) ((wP ad cA σ0) ++ ((wM bd cA σ') ++ wr))) (h : k_M_needs_14 p1 s0 σ = some (r, σ')) : jW x 2 0 0 14 [(0, .ref (bd 0)), (1, .int p1)] [.int s0, .ref (bd 0)] ((wP ad cA σ0) ++ ((wM bd cA σ) ++ wr)) := by
  unfold k_M_needs_14 at h
  refine j_put C in_M ty_M_ok nm_M 18 rfl rfl 0 (by decide) tw_575 rfl rfl rfl (Nat.le_of_ble_eq_true rfl) (fun t => (wP ad cA σ0) ++ ((wM bd cA t) ++ wr)) d_M_needs_14 rfl h rfl (fun σ3 h => ?_)
  refine j_aload_n C 0 d_M_needs_17 rfl rfl rfl ?_
  refine j_get C in_M 18 rfl rfl 0 (by decide) tw_575 rfl (v := .int (g_mcode σ3)) rfl d_M_needs_18 rfl ?_
  refine j_if_le (tgt := 28) C d_M_needs_21 (by decide) rfl h (fun h => ?_) (fun h => ?_)
  · refine j_aload_n C 0 d_M_needs_28 rfl rfl rfl ?_
    refine j_iload_n C 1 d_M_needs_29 rfl rfl rfl ?_
    refine j_iconst (v := 0) C d_M_needs_30 rfl (by decide) ?_
    obtain ⟨r4, σ5, h6, h⟩ := mb2_some h
    refine j_callV C hR (As := [.int p1, .int (0 : Int32)]) (ct_M_without (jl x) (jD x) (jT x) hT p1 (0 : Int32) σ3 h6) kf_M_without (by decide) tw_735 tw_737 tw_45 18 rfl rfl (rest := []) rfl rfl (Nat.le_of_ble_eq_true rfl) (by decide) ⟨rfl, rfl⟩ d_M_needs_31 rfl (st1 := [.int r4]) rfl ?_
    cases h
    exact j_iret C E hr d_M_needs_34
  · refine j_iconst (v := 0) C d_M_needs_24 rfl (by decide) ?_
    refine j_goto (tgt := 34) C d_M_needs_25 (by decide) ?_
    cases h
    exact j_iret C E hr d_M_needs_34
set_option maxHeartbeats 4000000 in
set_option maxRecDepth 100000 in
theorem w_M_needs {x : JX} {bd : Nat → Nat} {cA : ClassId} {ad : Nat → Nat} {σ0 : SP} {wr : va_W} (C : jC x cc_M_needs 2 "PlainWarehouseModel") (hT : (jT x)[0]? = some (cA, .int)) (hR : jR x = rm_M_needs)  (a1 : Int32) (σ : SM) {r : Int32} {σ' : SM} (hr : (jt x).sig.returnType = some .int) (E : jE x 0 0 (some (.int r)) ((wP ad cA σ0) ++ ((wM bd cA σ') ++ wr))) (h : m_M_needs a1 σ = some (r, σ')) : jW x 2 0 0 0 [(0, .ref (bd 0)), (1, .int a1)] [] ((wP ad cA σ0) ++ ((wM bd cA σ) ++ wr)) := by
  unfold m_M_needs at h
  refine j_aload_n C 0 d_M_needs_0 rfl rfl rfl ?_
  refine j_aload_n C 0 d_M_needs_1 rfl rfl rfl ?_
  refine j_iload_n C 1 d_M_needs_2 rfl rfl rfl ?_
  obtain ⟨r1, h2, h⟩ := mb1_some h
  refine j_callV C hR (As := [.int a1]) (ct_M_isEvent (jl x) (jD x) (jT x) hT a1 σ h2) kf_M_isEvent (by decide) tw_731 tw_733 tw_44 18 rfl rfl (rest := [.ref (bd 0)]) rfl rfl (Nat.le_of_ble_eq_true rfl) (by decide) ⟨rfl, rfl⟩ d_M_needs_3 rfl (st1 := [.int r1, .ref (bd 0)]) rfl ?_
  refine j_if_eq (tgt := 13) C d_M_needs_6 (by decide) rfl h (fun h => ?_) (fun h => ?_)
  · refine j_iconst (v := 1) C d_M_needs_13 rfl (by decide) ?_
    exact j_sub [0, 1] rfl (wk_M_needs_14 C hT hR a1 (1 : Int32) σ hr E h)
  · refine j_iconst (v := 0) C d_M_needs_9 rfl (by decide) ?_
    refine j_goto (tgt := 14) C d_M_needs_10 (by decide) ?_
    exact j_sub [0, 1] rfl (wk_M_needs_14 C hT hR a1 (0 : Int32) σ hr E h)
theorem ct_M_needs (l : Launch) (D : va_G) (tys : List (ClassId × FieldType)) {bd : Nat → Nat} {cA : ClassId} {ad : Nat → Nat} {σ0 : SP} {wr : va_W} (hT : tys[0]? = some (cA, .int)) (a1 : Int32) (σ : SM) {r : Int32} {σ' : SM} (h : m_M_needs a1 σ = some (r, σ')) : jM l y_M_needs ws_M_needs rm_M_needs D tys [.ref (bd 0), .int a1] ((wP ad cA σ0) ++ ((wM bd cA σ) ++ wr)) (some (.int r)) ((wP ad cA σ0) ++ ((wM bd cA σ') ++ wr)) :=
  j_of (by decide +kernel) rfl (Nat.le_of_ble_eq_true rfl) rfl (fun x _ _ hT' hR C hr _ E => w_M_needs C (by rw [hT']; exact hT) hR a1 σ hr E h)
def rm_M_explained : Room := { frames := 4, cells := 0, slots := 0, locals := 94 }
def k_M_explained_14 (p1 : Int32) (s0 : Int32) (σ : SM) : Option (Int32 × SM) :=
  (mlet (u_mcode σ s0) fun σ3 => (if (g_mcode σ3) ≤ 0 then (mb2 (m_M_without p1 (1 : Int32) σ3) fun r4 σ5 => some (r4, σ5)) else some ((0 : Int32), σ3)))
def m_M_explained (a1 : Int32) (σ : SM) : Option (Int32 × SM) :=
  (mb1 (m_M_isEvent a1 σ) fun r1 => (if r1 = 0 then (k_M_explained_14 a1 (1 : Int32) σ) else (k_M_explained_14 a1 (0 : Int32) σ)))
set_option maxHeartbeats 4000000 in
set_option maxRecDepth 100000 in
theorem wk_M_explained_14 {x : JX} {bd : Nat → Nat} {cA : ClassId} {ad : Nat → Nat} {σ0 : SP} {wr : va_W} (C : jC x cc_M_explained 2 "PlainWarehouseModel") (hT : (jT x)[0]? = some (cA, .int)) (hR : jR x = rm_M_explained)  (p1 : Int32) (s0 : Int32) (σ : SM) {r : Int32} {σ' : SM} (hr : (jt x).sig.returnType = some .int) (E : jE x 0 0 (some (.int r)) ((wP ad cA σ0) ++ ((wM bd cA σ') ++ wr))) (h : k_M_explained_14 p1 s0 σ = some (r, σ')) : jW x 2 0 0 14 [(0, .ref (bd 0)), (1, .int p1)] [.int s0, .ref (bd 0)] ((wP ad cA σ0) ++ ((wM bd cA σ) ++ wr)) := by
  unfold k_M_explained_14 at h
  refine j_put C in_M ty_M_ok nm_M 18 rfl rfl 0 (by decide) tw_575 rfl rfl rfl (Nat.le_of_ble_eq_true rfl) (fun t => (wP ad cA σ0) ++ ((wM bd cA t) ++ wr)) d_M_explained_14 rfl h rfl (fun σ3 h => ?_)
  refine j_aload_n C 0 d_M_explained_17 rfl rfl rfl ?_
  refine j_get C in_M 18 rfl rfl 0 (by decide) tw_575 rfl (v := .int (g_mcode σ3)) rfl d_M_explained_18 rfl ?_
  refine j_if_le (tgt := 28) C d_M_explained_21 (by decide) rfl h (fun h => ?_) (fun h => ?_)
  · refine j_aload_n C 0 d_M_explained_28 rfl rfl rfl ?_
    refine j_iload_n C 1 d_M_explained_29 rfl rfl rfl ?_
    refine j_iconst (v := 1) C d_M_explained_30 rfl (by decide) ?_
    obtain ⟨r4, σ5, h6, h⟩ := mb2_some h
    refine j_callV C hR (As := [.int p1, .int (1 : Int32)]) (ct_M_without (jl x) (jD x) (jT x) hT p1 (1 : Int32) σ3 h6) kf_M_without (by decide) tw_735 tw_737 tw_45 18 rfl rfl (rest := []) rfl rfl (Nat.le_of_ble_eq_true rfl) (by decide) ⟨rfl, rfl⟩ d_M_explained_31 rfl (st1 := [.int r4]) rfl ?_
    cases h
    exact j_iret C E hr d_M_explained_34
  · refine j_iconst (v := 0) C d_M_explained_24 rfl (by decide) ?_
    refine j_goto (tgt := 34) C d_M_explained_25 (by decide) ?_
    cases h
    exact j_iret C E hr d_M_explained_34
set_option maxHeartbeats 4000000 in
set_option maxRecDepth 100000 in
theorem w_M_explained {x : JX} {bd : Nat → Nat} {cA : ClassId} {ad : Nat → Nat} {σ0 : SP} {wr : va_W} (C : jC x cc_M_explained 2 "PlainWarehouseModel") (hT : (jT x)[0]? = some (cA, .int)) (hR : jR x = rm_M_explained)  (a1 : Int32) (σ : SM) {r : Int32} {σ' : SM} (hr : (jt x).sig.returnType = some .int) (E : jE x 0 0 (some (.int r)) ((wP ad cA σ0) ++ ((wM bd cA σ') ++ wr))) (h : m_M_explained a1 σ = some (r, σ')) : jW x 2 0 0 0 [(0, .ref (bd 0)), (1, .int a1)] [] ((wP ad cA σ0) ++ ((wM bd cA σ) ++ wr)) := by
  unfold m_M_explained at h
  refine j_aload_n C 0 d_M_explained_0 rfl rfl rfl ?_
  refine j_aload_n C 0 d_M_explained_1 rfl rfl rfl ?_
  refine j_iload_n C 1 d_M_explained_2 rfl rfl rfl ?_
  obtain ⟨r1, h2, h⟩ := mb1_some h
  refine j_callV C hR (As := [.int a1]) (ct_M_isEvent (jl x) (jD x) (jT x) hT a1 σ h2) kf_M_isEvent (by decide) tw_731 tw_733 tw_44 18 rfl rfl (rest := [.ref (bd 0)]) rfl rfl (Nat.le_of_ble_eq_true rfl) (by decide) ⟨rfl, rfl⟩ d_M_explained_3 rfl (st1 := [.int r1, .ref (bd 0)]) rfl ?_
  refine j_if_eq (tgt := 13) C d_M_explained_6 (by decide) rfl h (fun h => ?_) (fun h => ?_)
  · refine j_iconst (v := 1) C d_M_explained_13 rfl (by decide) ?_
    exact j_sub [0, 1] rfl (wk_M_explained_14 C hT hR a1 (1 : Int32) σ hr E h)
  · refine j_iconst (v := 0) C d_M_explained_9 rfl (by decide) ?_
    refine j_goto (tgt := 14) C d_M_explained_10 (by decide) ?_
    exact j_sub [0, 1] rfl (wk_M_explained_14 C hT hR a1 (0 : Int32) σ hr E h)
theorem ct_M_explained (l : Launch) (D : va_G) (tys : List (ClassId × FieldType)) {bd : Nat → Nat} {cA : ClassId} {ad : Nat → Nat} {σ0 : SP} {wr : va_W} (hT : tys[0]? = some (cA, .int)) (a1 : Int32) (σ : SM) {r : Int32} {σ' : SM} (h : m_M_explained a1 σ = some (r, σ')) : jM l y_M_explained ws_M_explained rm_M_explained D tys [.ref (bd 0), .int a1] ((wP ad cA σ0) ++ ((wM bd cA σ) ++ wr)) (some (.int r)) ((wP ad cA σ0) ++ ((wM bd cA σ') ++ wr)) :=
  j_of (by decide +kernel) rfl (Nat.le_of_ble_eq_true rfl) rfl (fun x _ _ hT' hR C hr _ E => w_M_explained C (by rw [hT']; exact hT) hR a1 σ hr E h)
def rm_M_told : Room := { frames := 2, cells := 0, slots := 0, locals := 43 }
def k_M_told_27 (p1 : Int32) (p2 : Int32) (s0 : Int32) (σ : SM) : Option (Int32 × SM) :=
  (mlet (u_mcode σ s0) fun σ5 => (if (g_mcode σ5) ≤ 0 then (if p2 = 0 then (mrd 60 (g_mkd σ5) p1 fun r9 => some (r9, σ5)) else (if p2 = (1 : Int32) then (mrd 60 (g_mxa σ5) p1 fun r8 => some (r8, σ5)) else (if p2 = (2 : Int32) then (mrd 60 (g_mxb σ5) p1 fun r7 => some (r7, σ5)) else (mrd 60 (g_mxc σ5) p1 fun r6 => some (r6, σ5))))) else some ((0 : Int32), σ5)))
def m_M_told (a1 : Int32) (a2 : Int32) (σ : SM) : Option (Int32 × SM) :=
  (mb1 (m_M_isEvent a1 σ) fun r1 => (if r1 = 0 then (k_M_told_27 a1 a2 (1 : Int32) σ) else (mb1 (m_M_in a2 (0 : Int32) (3 : Int32)) fun r3 => (if r3 = 0 then (k_M_told_27 a1 a2 (2 : Int32) σ) else (k_M_told_27 a1 a2 (0 : Int32) σ)))))
set_option maxHeartbeats 4000000 in
set_option maxRecDepth 100000 in
theorem wk_M_told_27 {x : JX} {bd : Nat → Nat} {cA : ClassId} {ad : Nat → Nat} {σ0 : SP} {wr : va_W} (C : jC x cc_M_told 3 "PlainWarehouseModel") (hT : (jT x)[0]? = some (cA, .int)) (hR : jR x = rm_M_told)  (p1 : Int32) (p2 : Int32) (s0 : Int32) (σ : SM) {r : Int32} {σ' : SM} (hr : (jt x).sig.returnType = some .int) (E : jE x 0 0 (some (.int r)) ((wP ad cA σ0) ++ ((wM bd cA σ') ++ wr))) (h : k_M_told_27 p1 p2 s0 σ = some (r, σ')) : jW x 3 0 0 27 [(0, .ref (bd 0)), (1, .int p1), (2, .int p2)] [.int s0, .ref (bd 0)] ((wP ad cA σ0) ++ ((wM bd cA σ) ++ wr)) := by
  unfold k_M_told_27 at h
  refine j_put C in_M ty_M_ok nm_M 18 rfl rfl 0 (by decide) tw_575 rfl rfl rfl (Nat.le_of_ble_eq_true rfl) (fun t => (wP ad cA σ0) ++ ((wM bd cA t) ++ wr)) d_M_told_27 rfl h rfl (fun σ5 h => ?_)
  refine j_aload_n C 0 d_M_told_30 rfl rfl rfl ?_
  refine j_get C in_M 18 rfl rfl 0 (by decide) tw_575 rfl (v := .int (g_mcode σ5)) rfl d_M_told_31 rfl ?_
  refine j_if_le (tgt := 39) C d_M_told_34 (by decide) rfl h (fun h => ?_) (fun h => ?_)
  · refine j_iload_n C 2 d_M_told_39 rfl rfl rfl ?_
    refine j_if_ne (tgt := 52) C d_M_told_40 (by decide) rfl h (fun h => ?_) (fun h => ?_)
    · refine j_iload_n C 2 d_M_told_52 rfl rfl rfl ?_
      refine j_iconst (v := 1) C d_M_told_53 rfl (by decide) ?_
      refine j_icmp_ne (tgt := 66) C d_M_told_54 (by decide) rfl h (fun h => ?_) (fun h => ?_)
      · refine j_iload_n C 2 d_M_told_66 rfl rfl rfl ?_
        refine j_iconst (v := 2) C d_M_told_67 rfl (by decide) ?_
        refine j_icmp_ne (tgt := 80) C d_M_told_68 (by decide) rfl h (fun h => ?_) (fun h => ?_)
        · refine j_aload_n C 0 d_M_told_80 rfl rfl rfl ?_
          refine j_get C in_M 18 rfl rfl 6 (by decide) tw_581 rfl (v := .ref (bd 4)) rfl d_M_told_81 rfl ?_
          refine j_iload_n C 1 d_M_told_84 rfl rfl rfl ?_
          refine j_iald C 22 0 rfl hT d_M_told_85 rfl h (fun r6 h => ?_)
          cases h
          exact j_iret C E hr d_M_told_86
        · refine j_aload_n C 0 d_M_told_71 rfl rfl rfl ?_
          refine j_get C in_M 18 rfl rfl 5 (by decide) tw_580 rfl (v := .ref (bd 3)) rfl d_M_told_72 rfl ?_
          refine j_iload_n C 1 d_M_told_75 rfl rfl rfl ?_
          refine j_iald C 21 0 rfl hT d_M_told_76 rfl h (fun r7 h => ?_)
          refine j_goto (tgt := 86) C d_M_told_77 (by decide) ?_
          cases h
          exact j_iret C E hr d_M_told_86
      · refine j_aload_n C 0 d_M_told_57 rfl rfl rfl ?_
        refine j_get C in_M 18 rfl rfl 4 (by decide) tw_579 rfl (v := .ref (bd 2)) rfl d_M_told_58 rfl ?_
        refine j_iload_n C 1 d_M_told_61 rfl rfl rfl ?_
        refine j_iald C 20 0 rfl hT d_M_told_62 rfl h (fun r8 h => ?_)
        refine j_goto (tgt := 86) C d_M_told_63 (by decide) ?_
        cases h
        exact j_iret C E hr d_M_told_86
    · refine j_aload_n C 0 d_M_told_43 rfl rfl rfl ?_
      refine j_get C in_M 18 rfl rfl 3 (by decide) tw_578 rfl (v := .ref (bd 1)) rfl d_M_told_44 rfl ?_
      refine j_iload_n C 1 d_M_told_47 rfl rfl rfl ?_
      refine j_iald C 19 0 rfl hT d_M_told_48 rfl h (fun r9 h => ?_)
      refine j_goto (tgt := 86) C d_M_told_49 (by decide) ?_
      cases h
      exact j_iret C E hr d_M_told_86
  · refine j_iconst (v := 0) C d_M_told_37 rfl (by decide) ?_
    cases h
    exact j_iret C E hr d_M_told_38
set_option maxHeartbeats 4000000 in
set_option maxRecDepth 100000 in
theorem w_M_told {x : JX} {bd : Nat → Nat} {cA : ClassId} {ad : Nat → Nat} {σ0 : SP} {wr : va_W} (C : jC x cc_M_told 3 "PlainWarehouseModel") (hT : (jT x)[0]? = some (cA, .int)) (hR : jR x = rm_M_told)  (a1 : Int32) (a2 : Int32) (σ : SM) {r : Int32} {σ' : SM} (hr : (jt x).sig.returnType = some .int) (E : jE x 0 0 (some (.int r)) ((wP ad cA σ0) ++ ((wM bd cA σ') ++ wr))) (h : m_M_told a1 a2 σ = some (r, σ')) : jW x 3 0 0 0 [(0, .ref (bd 0)), (1, .int a1), (2, .int a2)] [] ((wP ad cA σ0) ++ ((wM bd cA σ) ++ wr)) := by
  unfold m_M_told at h
  refine j_aload_n C 0 d_M_told_0 rfl rfl rfl ?_
  refine j_aload_n C 0 d_M_told_1 rfl rfl rfl ?_
  refine j_iload_n C 1 d_M_told_2 rfl rfl rfl ?_
  obtain ⟨r1, h2, h⟩ := mb1_some h
  refine j_callV C hR (As := [.int a1]) (ct_M_isEvent (jl x) (jD x) (jT x) hT a1 σ h2) kf_M_isEvent (by decide) tw_731 tw_733 tw_44 18 rfl rfl (rest := [.ref (bd 0)]) rfl rfl (Nat.le_of_ble_eq_true rfl) (by decide) ⟨rfl, rfl⟩ d_M_told_3 rfl (st1 := [.int r1, .ref (bd 0)]) rfl ?_
  refine j_if_ne (tgt := 13) C d_M_told_6 (by decide) rfl h (fun h => ?_) (fun h => ?_)
  · refine j_iload_n C 2 d_M_told_13 rfl rfl rfl ?_
    refine j_iconst (v := 0) C d_M_told_14 rfl (by decide) ?_
    refine j_iconst (v := 3) C d_M_told_15 rfl (by decide) ?_
    obtain ⟨r3, h4, h⟩ := mb1_some h
    refine j_callS C hR (As := [.int a2, .int (0 : Int32), .int (3 : Int32)]) (ct_M_in (jl x) (jD x) (jT x) a2 (0 : Int32) (3 : Int32) h4) kf_M_in (by decide) tw_644 tw_645 (rest := [.ref (bd 0)]) rfl rfl (Nat.le_of_ble_eq_true rfl) (by decide) ⟨rfl, rfl⟩ d_M_told_16 rfl (st1 := [.int r3, .ref (bd 0)]) rfl ?_
    refine j_if_ne (tgt := 26) C d_M_told_19 (by decide) rfl h (fun h => ?_) (fun h => ?_)
    · refine j_iconst (v := 0) C d_M_told_26 rfl (by decide) ?_
      exact j_sub [0, 1, 2] rfl (wk_M_told_27 C hT hR a1 a2 (0 : Int32) σ hr E h)
    · refine j_iconst (v := 2) C d_M_told_22 rfl (by decide) ?_
      refine j_goto (tgt := 27) C d_M_told_23 (by decide) ?_
      exact j_sub [0, 1, 2] rfl (wk_M_told_27 C hT hR a1 a2 (2 : Int32) σ hr E h)
  · refine j_iconst (v := 1) C d_M_told_9 rfl (by decide) ?_
    refine j_goto (tgt := 27) C d_M_told_10 (by decide) ?_
    exact j_sub [0, 1, 2] rfl (wk_M_told_27 C hT hR a1 a2 (1 : Int32) σ hr E h)
theorem ct_M_told (l : Launch) (D : va_G) (tys : List (ClassId × FieldType)) {bd : Nat → Nat} {cA : ClassId} {ad : Nat → Nat} {σ0 : SP} {wr : va_W} (hT : tys[0]? = some (cA, .int)) (a1 : Int32) (a2 : Int32) (σ : SM) {r : Int32} {σ' : SM} (h : m_M_told a1 a2 σ = some (r, σ')) : jM l y_M_told ws_M_told rm_M_told D tys [.ref (bd 0), .int a1, .int a2] ((wP ad cA σ0) ++ ((wM bd cA σ) ++ wr)) (some (.int r)) ((wP ad cA σ0) ++ ((wM bd cA σ') ++ wr)) :=
  j_of (by decide +kernel) rfl (Nat.le_of_ble_eq_true rfl) rfl (fun x _ _ hT' hR C hr _ E => w_M_told C (by rw [hT']; exact hT) hR a1 a2 σ hr E h)
def rm_M_count : Room := { frames := 1, cells := 0, slots := 0, locals := 22 }
def b_M_count_28 (c1 : Int32) (σ : SM) (v2 : Int32) (v3 : Int32) : Option ((Int32 × Int32) ⊕ (Int32 × Int32)) :=
  (if (20 : Int32) ≤ v3 then some (.inr (v2, v3)) else (if c1 = (2 : Int32) then (mrd 1240 (g_mpl σ) (((20 : Int32) * (g_mev σ)) + v3) fun r2 => (if r2 = (-1 : Int32) then some (.inl ((v2 + (0 : Int32)), (v3 + 1))) else some (.inl ((v2 + (1 : Int32)), (v3 + 1))))) else some (.inr (v2, v3))))
def b_M_count_73 (c1 : Int32) (σ : SM) (v2 : Int32) (v3 : Int32) : Option ((Int32 × Int32) ⊕ (Int32 × Int32)) :=
  (if (10 : Int32) ≤ v3 then some (.inr (v2, v3)) else (if c1 = (3 : Int32) then (mrd 620 (g_mwa σ) (((10 : Int32) * (g_mev σ)) + v3) fun r6 => (if r6 ≤ 0 then some (.inl ((v2 + (0 : Int32)), (v3 + 1))) else (if c1 = (3 : Int32) then some (.inl ((v2 + (1 : Int32)), (v3 + 1))) else (mb1 (m_M_isOpen (g_mev σ) v3 σ) fun r7 => (if r7 = 0 then some (.inl ((v2 + (1 : Int32)), (v3 + 1))) else some (.inl ((v2 + (0 : Int32)), (v3 + 1)))))))) else (if c1 = (4 : Int32) then (mrd 620 (g_mwa σ) (((10 : Int32) * (g_mev σ)) + v3) fun r9 => (if r9 ≤ 0 then some (.inl ((v2 + (0 : Int32)), (v3 + 1))) else (if c1 = (3 : Int32) then some (.inl ((v2 + (1 : Int32)), (v3 + 1))) else (mb1 (m_M_isOpen (g_mev σ) v3 σ) fun r10 => (if r10 = 0 then some (.inl ((v2 + (1 : Int32)), (v3 + 1))) else some (.inl ((v2 + (0 : Int32)), (v3 + 1)))))))) else some (.inr (v2, v3)))))
def b_M_count_139 (c1 : Int32) (σ : SM) (v2 : Int32) (v3 : Int32) : Option ((Int32 × Int32) ⊕ (Int32 × Int32)) :=
  (if (100 : Int32) ≤ v3 then some (.inr (v2, v3)) else (if c1 = (5 : Int32) then (if (v3 - v3 / (10 : Int32) * (10 : Int32)) ≤ (v3 / (10 : Int32)) then some (.inl ((v2 + (0 : Int32)), (v3 + 1))) else (mrd 6200 (g_mlk σ) (((100 : Int32) * (g_mev σ)) + v3) fun r15 => (if r15 ≤ 0 then some (.inl ((v2 + (0 : Int32)), (v3 + 1))) else some (.inl ((v2 + (1 : Int32)), (v3 + 1)))))) else some (.inr (v2, v3))))
def k_M_count_137 (p1 : Int32) (p2 : Int32) (σ : SM) : Option (Int32 × SM) :=
  (mb2 (lp (fun s => b_M_count_139 p1 σ s.1 s.2) FU (p2, (0 : Int32))) fun w16 w17 => (mb1 (m_M_in p1 (2 : Int32) (5 : Int32)) fun r19 => (if r19 = 0 then some ((-1 : Int32), σ) else some (w16, σ))))
def k_M_count_71 (p1 : Int32) (p2 : Int32) (σ : SM) : Option (Int32 × SM) :=
  (mb2 (lp (fun s => b_M_count_73 p1 σ s.1 s.2) FU (p2, (0 : Int32))) fun w12 w13 => (k_M_count_137 p1 w12 σ))
def m_M_count (a1 : Int32) (σ : SM) : Option (Int32 × SM) :=
  (mlet (u_mcode σ (0 : Int32)) fun σ1 => (if a1 = 0 then some ((g_mev σ1), σ1) else (if a1 = (1 : Int32) then some ((g_mrf σ1), σ1) else (mb2 (lp (fun s => b_M_count_28 a1 σ1 s.1 s.2) FU ((0 : Int32), (0 : Int32))) fun w3 w4 => (k_M_count_71 a1 w3 σ1)))))
set_option maxHeartbeats 4000000 in
set_option maxRecDepth 100000 in
theorem wb_M_count_28 {x : JX} {bd : Nat → Nat} {cA : ClassId} {ad : Nat → Nat} {σ0 : SP} {wr : va_W} (C : jC x cc_M_count 4 "PlainWarehouseModel") (hT : (jT x)[0]? = some (cA, .int)) (hR : jR x = rm_M_count)  (c1 : Int32) (σ : SM) (v2 : Int32) (v3 : Int32) {o : (Int32 × Int32) ⊕ (Int32 × Int32)} (h : b_M_count_28 c1 σ v2 v3 = some o) (kc : ∀ (u2 : Int32) (u3 : Int32), o = .inl (u2, u3) → jW x 4 0 0 28 [(0, .ref (bd 0)), (1, .int c1), (2, .int u2), (3, .int u3)] [] ((wP ad cA σ0) ++ ((wM bd cA σ) ++ wr))) (ke : ∀ (u2 : Int32) (u3 : Int32), o = .inr (u2, u3) → jW x 4 0 0 71 [(0, .ref (bd 0)), (1, .int c1), (2, .int u2), (3, .int u3)] [] ((wP ad cA σ0) ++ ((wM bd cA σ) ++ wr))) : jW x 4 0 0 28 [(0, .ref (bd 0)), (1, .int c1), (2, .int v2), (3, .int v3)] [] ((wP ad cA σ0) ++ ((wM bd cA σ) ++ wr)) := by
  unfold b_M_count_28 at h
  refine j_iload_n C 3 d_M_count_28 rfl rfl rfl ?_
  refine j_bipush (v := 20) C d_M_count_29 rfl (by decide) ?_
  refine j_icmp_ge (tgt := 71) C d_M_count_31 (by decide) rfl h (fun h => ?_) (fun h => ?_)
  · cases h
    refine j_sub [0, 1, 2, 3] rfl (ke _ _ rfl)
  · refine j_iload_n C 1 d_M_count_34 rfl rfl rfl ?_
    refine j_iconst (v := 2) C d_M_count_35 rfl (by decide) ?_
    refine j_icmp_ne (tgt := 71) C d_M_count_36 (by decide) rfl h (fun h => ?_) (fun h => ?_)
    · cases h
      refine j_sub [0, 1, 2, 3] rfl (ke _ _ rfl)
    · refine j_iload_n C 2 d_M_count_39 rfl rfl rfl ?_
      refine j_aload_n C 0 d_M_count_40 rfl rfl rfl ?_
      refine j_get C in_M 18 rfl rfl 7 (by decide) tw_582 rfl (v := .ref (bd 5)) rfl d_M_count_41 rfl ?_
      refine j_bipush (v := 20) C d_M_count_44 rfl (by decide) ?_
      refine j_aload_n C 0 d_M_count_46 rfl rfl rfl ?_
      refine j_get C in_M 18 rfl rfl 1 (by decide) tw_576 rfl (v := .int (g_mev σ)) rfl d_M_count_47 rfl ?_
      refine j_imul C d_M_count_50 rfl ?_
      refine j_iload_n C 3 d_M_count_51 rfl rfl rfl ?_
      refine j_iadd C d_M_count_52 rfl ?_
      refine j_iald C 23 0 rfl hT d_M_count_53 rfl h (fun r2 h => ?_)
      refine j_iconst (v := (-1)) C d_M_count_54 rfl (by decide) ?_
      refine j_icmp_eq (tgt := 62) C d_M_count_55 (by decide) rfl h (fun h => ?_) (fun h => ?_)
      · refine j_iconst (v := 0) C d_M_count_62 rfl (by decide) ?_
        refine j_iadd C d_M_count_63 rfl ?_
        refine j_istore_n (lv' := [(2, .int (v2 + (0 : Int32))), (0, .ref (bd 0)), (1, .int c1), (3, .int v3)]) C d_M_count_64 rfl rfl (by decide) rfl ?_
        refine j_iinc (v' := (v3 + 1)) (lv' := [(3, .int (v3 + 1)), (2, .int (v2 + (0 : Int32))), (0, .ref (bd 0)), (1, .int c1)]) C 3 d_M_count_65 rfl rfl rfl (by decide) rfl ?_
        refine j_goto (tgt := 28) C d_M_count_68 (by decide) ?_
        cases h
        refine j_sub [2, 3, 1, 0] rfl (kc _ _ rfl)
      · refine j_iconst (v := 1) C d_M_count_58 rfl (by decide) ?_
        refine j_goto (tgt := 63) C d_M_count_59 (by decide) ?_
        refine j_iadd C d_M_count_63 rfl ?_
        refine j_istore_n (lv' := [(2, .int (v2 + (1 : Int32))), (0, .ref (bd 0)), (1, .int c1), (3, .int v3)]) C d_M_count_64 rfl rfl (by decide) rfl ?_
        refine j_iinc (v' := (v3 + 1)) (lv' := [(3, .int (v3 + 1)), (2, .int (v2 + (1 : Int32))), (0, .ref (bd 0)), (1, .int c1)]) C 3 d_M_count_65 rfl rfl rfl (by decide) rfl ?_
        refine j_goto (tgt := 28) C d_M_count_68 (by decide) ?_
        cases h
        refine j_sub [2, 3, 1, 0] rfl (kc _ _ rfl)
set_option maxRecDepth 100000 in
theorem wl_M_count_28 {x : JX} {bd : Nat → Nat} {cA : ClassId} {ad : Nat → Nat} {σ0 : SP} {wr : va_W} (C : jC x cc_M_count 4 "PlainWarehouseModel") (hT : (jT x)[0]? = some (cA, .int)) (hR : jR x = rm_M_count)  (c1 : Int32) (σ : SM) (v2 : Int32) (v3 : Int32) {u2 : Int32} {u3 : Int32} (n : Nat) (h : lp (fun s => b_M_count_28 c1 σ s.1 s.2) n (v2, v3) = some (u2, u3)) (K : jW x 4 0 0 71 [(0, .ref (bd 0)), (1, .int c1), (2, .int u2), (3, .int u3)] [] ((wP ad cA σ0) ++ ((wM bd cA σ) ++ wr))) : jW x 4 0 0 28 [(0, .ref (bd 0)), (1, .int c1), (2, .int v2), (3, .int v3)] [] ((wP ad cA σ0) ++ ((wM bd cA σ) ++ wr)) :=
  j_lp (Pr := fun s => jW x 4 0 0 28 [(0, .ref (bd 0)), (1, .int c1), (2, .int s.1), (3, .int s.2)] [] ((wP ad cA σ0) ++ ((wM bd cA σ) ++ wr))) (K := fun s => jW x 4 0 0 71 [(0, .ref (bd 0)), (1, .int c1), (2, .int s.1), (3, .int s.2)] [] ((wP ad cA σ0) ++ ((wM bd cA σ) ++ wr))) (fun s o h kc ke => wb_M_count_28 C hT hR c1 σ s.1 s.2 h (fun u2 u3 e => kc _ e) (fun u2 u3 e => ke _ e)) n _ _ h K
set_option maxHeartbeats 4000000 in
set_option maxRecDepth 100000 in
theorem wb_M_count_73 {x : JX} {bd : Nat → Nat} {cA : ClassId} {ad : Nat → Nat} {σ0 : SP} {wr : va_W} (C : jC x cc_M_count 4 "PlainWarehouseModel") (hT : (jT x)[0]? = some (cA, .int)) (hR : jR x = rm_M_count)  (c1 : Int32) (σ : SM) (v2 : Int32) (v3 : Int32) {o : (Int32 × Int32) ⊕ (Int32 × Int32)} (h : b_M_count_73 c1 σ v2 v3 = some o) (kc : ∀ (u2 : Int32) (u3 : Int32), o = .inl (u2, u3) → jW x 4 0 0 73 [(0, .ref (bd 0)), (1, .int c1), (2, .int u2), (3, .int u3)] [] ((wP ad cA σ0) ++ ((wM bd cA σ) ++ wr))) (ke : ∀ (u2 : Int32) (u3 : Int32), o = .inr (u2, u3) → jW x 4 0 0 137 [(0, .ref (bd 0)), (1, .int c1), (2, .int u2), (3, .int u3)] [] ((wP ad cA σ0) ++ ((wM bd cA σ) ++ wr))) : jW x 4 0 0 73 [(0, .ref (bd 0)), (1, .int c1), (2, .int v2), (3, .int v3)] [] ((wP ad cA σ0) ++ ((wM bd cA σ) ++ wr)) := by
  unfold b_M_count_73 at h
  refine j_iload_n C 3 d_M_count_73 rfl rfl rfl ?_
  refine j_bipush (v := 10) C d_M_count_74 rfl (by decide) ?_
  refine j_icmp_ge (tgt := 137) C d_M_count_76 (by decide) rfl h (fun h => ?_) (fun h => ?_)
  · cases h
    refine j_sub [0, 1, 2, 3] rfl (ke _ _ rfl)
  · refine j_iload_n C 1 d_M_count_79 rfl rfl rfl ?_
    refine j_iconst (v := 3) C d_M_count_80 rfl (by decide) ?_
    refine j_icmp_eq (tgt := 89) C d_M_count_81 (by decide) rfl h (fun h => ?_) (fun h => ?_)
    · refine j_iload_n C 2 d_M_count_89 rfl rfl rfl ?_
      refine j_aload_n C 0 d_M_count_90 rfl rfl rfl ?_
      refine j_get C in_M 18 rfl rfl 10 (by decide) tw_585 rfl (v := .ref (bd 8)) rfl d_M_count_91 rfl ?_
      refine j_bipush (v := 10) C d_M_count_94 rfl (by decide) ?_
      refine j_aload_n C 0 d_M_count_96 rfl rfl rfl ?_
      refine j_get C in_M 18 rfl rfl 1 (by decide) tw_576 rfl (v := .int (g_mev σ)) rfl d_M_count_97 rfl ?_
      refine j_imul C d_M_count_100 rfl ?_
      refine j_iload_n C 3 d_M_count_101 rfl rfl rfl ?_
      refine j_iadd C d_M_count_102 rfl ?_
      refine j_iald C 26 0 rfl hT d_M_count_103 rfl h (fun r6 h => ?_)
      refine j_if_le (tgt := 128) C d_M_count_104 (by decide) rfl h (fun h => ?_) (fun h => ?_)
      · refine j_iconst (v := 0) C d_M_count_128 rfl (by decide) ?_
        refine j_iadd C d_M_count_129 rfl ?_
        refine j_istore_n (lv' := [(2, .int (v2 + (0 : Int32))), (0, .ref (bd 0)), (1, .int c1), (3, .int v3)]) C d_M_count_130 rfl rfl (by decide) rfl ?_
        refine j_iinc (v' := (v3 + 1)) (lv' := [(3, .int (v3 + 1)), (2, .int (v2 + (0 : Int32))), (0, .ref (bd 0)), (1, .int c1)]) C 3 d_M_count_131 rfl rfl rfl (by decide) rfl ?_
        refine j_goto (tgt := 73) C d_M_count_134 (by decide) ?_
        cases h
        refine j_sub [2, 3, 1, 0] rfl (kc _ _ rfl)
      · refine j_iload_n C 1 d_M_count_107 rfl rfl rfl ?_
        refine j_iconst (v := 3) C d_M_count_108 rfl (by decide) ?_
        refine j_icmp_eq (tgt := 124) C d_M_count_109 (by decide) rfl h (fun h => ?_) (fun h => ?_)
        · refine j_iconst (v := 1) C d_M_count_124 rfl (by decide) ?_
          refine j_goto (tgt := 129) C d_M_count_125 (by decide) ?_
          refine j_iadd C d_M_count_129 rfl ?_
          refine j_istore_n (lv' := [(2, .int (v2 + (1 : Int32))), (0, .ref (bd 0)), (1, .int c1), (3, .int v3)]) C d_M_count_130 rfl rfl (by decide) rfl ?_
          refine j_iinc (v' := (v3 + 1)) (lv' := [(3, .int (v3 + 1)), (2, .int (v2 + (1 : Int32))), (0, .ref (bd 0)), (1, .int c1)]) C 3 d_M_count_131 rfl rfl rfl (by decide) rfl ?_
          refine j_goto (tgt := 73) C d_M_count_134 (by decide) ?_
          cases h
          refine j_sub [2, 3, 1, 0] rfl (kc _ _ rfl)
        · refine j_aload_n C 0 d_M_count_112 rfl rfl rfl ?_
          refine j_aload_n C 0 d_M_count_113 rfl rfl rfl ?_
          refine j_get C in_M 18 rfl rfl 1 (by decide) tw_576 rfl (v := .int (g_mev σ)) rfl d_M_count_114 rfl ?_
          refine j_iload_n C 3 d_M_count_117 rfl rfl rfl ?_
          obtain ⟨r7, h8, h⟩ := mb1_some h
          refine j_callV C hR (As := [.int (g_mev σ), .int v3]) (ct_M_isOpen (jl x) (jD x) (jT x) hT (g_mev σ) v3 σ h8) kf_M_isOpen (by decide) tw_658 tw_660 tw_35 18 rfl rfl (rest := [.int v2]) rfl rfl (Nat.le_of_ble_eq_true rfl) (by decide) ⟨rfl, rfl⟩ d_M_count_118 rfl (st1 := [.int r7, .int v2]) rfl ?_
          refine j_if_ne (tgt := 128) C d_M_count_121 (by decide) rfl h (fun h => ?_) (fun h => ?_)
          · refine j_iconst (v := 0) C d_M_count_128 rfl (by decide) ?_
            refine j_iadd C d_M_count_129 rfl ?_
            refine j_istore_n (lv' := [(2, .int (v2 + (0 : Int32))), (0, .ref (bd 0)), (1, .int c1), (3, .int v3)]) C d_M_count_130 rfl rfl (by decide) rfl ?_
            refine j_iinc (v' := (v3 + 1)) (lv' := [(3, .int (v3 + 1)), (2, .int (v2 + (0 : Int32))), (0, .ref (bd 0)), (1, .int c1)]) C 3 d_M_count_131 rfl rfl rfl (by decide) rfl ?_
            refine j_goto (tgt := 73) C d_M_count_134 (by decide) ?_
            cases h
            refine j_sub [2, 3, 1, 0] rfl (kc _ _ rfl)
          · refine j_iconst (v := 1) C d_M_count_124 rfl (by decide) ?_
            refine j_goto (tgt := 129) C d_M_count_125 (by decide) ?_
            refine j_iadd C d_M_count_129 rfl ?_
            refine j_istore_n (lv' := [(2, .int (v2 + (1 : Int32))), (0, .ref (bd 0)), (1, .int c1), (3, .int v3)]) C d_M_count_130 rfl rfl (by decide) rfl ?_
            refine j_iinc (v' := (v3 + 1)) (lv' := [(3, .int (v3 + 1)), (2, .int (v2 + (1 : Int32))), (0, .ref (bd 0)), (1, .int c1)]) C 3 d_M_count_131 rfl rfl rfl (by decide) rfl ?_
            refine j_goto (tgt := 73) C d_M_count_134 (by decide) ?_
            cases h
            refine j_sub [2, 3, 1, 0] rfl (kc _ _ rfl)
    · refine j_iload_n C 1 d_M_count_84 rfl rfl rfl ?_
      refine j_iconst (v := 4) C d_M_count_85 rfl (by decide) ?_
      refine j_icmp_ne (tgt := 137) C d_M_count_86 (by decide) rfl h (fun h => ?_) (fun h => ?_)
      · cases h
        refine j_sub [0, 1, 2, 3] rfl (ke _ _ rfl)
      · refine j_iload_n C 2 d_M_count_89 rfl rfl rfl ?_
        refine j_aload_n C 0 d_M_count_90 rfl rfl rfl ?_
        refine j_get C in_M 18 rfl rfl 10 (by decide) tw_585 rfl (v := .ref (bd 8)) rfl d_M_count_91 rfl ?_
        refine j_bipush (v := 10) C d_M_count_94 rfl (by decide) ?_
        refine j_aload_n C 0 d_M_count_96 rfl rfl rfl ?_
        refine j_get C in_M 18 rfl rfl 1 (by decide) tw_576 rfl (v := .int (g_mev σ)) rfl d_M_count_97 rfl ?_
        refine j_imul C d_M_count_100 rfl ?_
        refine j_iload_n C 3 d_M_count_101 rfl rfl rfl ?_
        refine j_iadd C d_M_count_102 rfl ?_
        refine j_iald C 26 0 rfl hT d_M_count_103 rfl h (fun r9 h => ?_)
        refine j_if_le (tgt := 128) C d_M_count_104 (by decide) rfl h (fun h => ?_) (fun h => ?_)
        · refine j_iconst (v := 0) C d_M_count_128 rfl (by decide) ?_
          refine j_iadd C d_M_count_129 rfl ?_
          refine j_istore_n (lv' := [(2, .int (v2 + (0 : Int32))), (0, .ref (bd 0)), (1, .int c1), (3, .int v3)]) C d_M_count_130 rfl rfl (by decide) rfl ?_
          refine j_iinc (v' := (v3 + 1)) (lv' := [(3, .int (v3 + 1)), (2, .int (v2 + (0 : Int32))), (0, .ref (bd 0)), (1, .int c1)]) C 3 d_M_count_131 rfl rfl rfl (by decide) rfl ?_
          refine j_goto (tgt := 73) C d_M_count_134 (by decide) ?_
          cases h
          refine j_sub [2, 3, 1, 0] rfl (kc _ _ rfl)
        · refine j_iload_n C 1 d_M_count_107 rfl rfl rfl ?_
          refine j_iconst (v := 3) C d_M_count_108 rfl (by decide) ?_
          refine j_icmp_eq (tgt := 124) C d_M_count_109 (by decide) rfl h (fun h => ?_) (fun h => ?_)
          · refine j_iconst (v := 1) C d_M_count_124 rfl (by decide) ?_
            refine j_goto (tgt := 129) C d_M_count_125 (by decide) ?_
            refine j_iadd C d_M_count_129 rfl ?_
            refine j_istore_n (lv' := [(2, .int (v2 + (1 : Int32))), (0, .ref (bd 0)), (1, .int c1), (3, .int v3)]) C d_M_count_130 rfl rfl (by decide) rfl ?_
            refine j_iinc (v' := (v3 + 1)) (lv' := [(3, .int (v3 + 1)), (2, .int (v2 + (1 : Int32))), (0, .ref (bd 0)), (1, .int c1)]) C 3 d_M_count_131 rfl rfl rfl (by decide) rfl ?_
            refine j_goto (tgt := 73) C d_M_count_134 (by decide) ?_
            cases h
            refine j_sub [2, 3, 1, 0] rfl (kc _ _ rfl)
          · refine j_aload_n C 0 d_M_count_112 rfl rfl rfl ?_
            refine j_aload_n C 0 d_M_count_113 rfl rfl rfl ?_
            refine j_get C in_M 18 rfl rfl 1 (by decide) tw_576 rfl (v := .int (g_mev σ)) rfl d_M_count_114 rfl ?_
            refine j_iload_n C 3 d_M_count_117 rfl rfl rfl ?_
            obtain ⟨r10, h11, h⟩ := mb1_some h
            refine j_callV C hR (As := [.int (g_mev σ), .int v3]) (ct_M_isOpen (jl x) (jD x) (jT x) hT (g_mev σ) v3 σ h11) kf_M_isOpen (by decide) tw_658 tw_660 tw_35 18 rfl rfl (rest := [.int v2]) rfl rfl (Nat.le_of_ble_eq_true rfl) (by decide) ⟨rfl, rfl⟩ d_M_count_118 rfl (st1 := [.int r10, .int v2]) rfl ?_
            refine j_if_ne (tgt := 128) C d_M_count_121 (by decide) rfl h (fun h => ?_) (fun h => ?_)
            · refine j_iconst (v := 0) C d_M_count_128 rfl (by decide) ?_
              refine j_iadd C d_M_count_129 rfl ?_
              refine j_istore_n (lv' := [(2, .int (v2 + (0 : Int32))), (0, .ref (bd 0)), (1, .int c1), (3, .int v3)]) C d_M_count_130 rfl rfl (by decide) rfl ?_
              refine j_iinc (v' := (v3 + 1)) (lv' := [(3, .int (v3 + 1)), (2, .int (v2 + (0 : Int32))), (0, .ref (bd 0)), (1, .int c1)]) C 3 d_M_count_131 rfl rfl rfl (by decide) rfl ?_
              refine j_goto (tgt := 73) C d_M_count_134 (by decide) ?_
              cases h
              refine j_sub [2, 3, 1, 0] rfl (kc _ _ rfl)
            · refine j_iconst (v := 1) C d_M_count_124 rfl (by decide) ?_
              refine j_goto (tgt := 129) C d_M_count_125 (by decide) ?_
              refine j_iadd C d_M_count_129 rfl ?_
              refine j_istore_n (lv' := [(2, .int (v2 + (1 : Int32))), (0, .ref (bd 0)), (1, .int c1), (3, .int v3)]) C d_M_count_130 rfl rfl (by decide) rfl ?_
              refine j_iinc (v' := (v3 + 1)) (lv' := [(3, .int (v3 + 1)), (2, .int (v2 + (1 : Int32))), (0, .ref (bd 0)), (1, .int c1)]) C 3 d_M_count_131 rfl rfl rfl (by decide) rfl ?_
              refine j_goto (tgt := 73) C d_M_count_134 (by decide) ?_
              cases h
              refine j_sub [2, 3, 1, 0] rfl (kc _ _ rfl)
set_option maxRecDepth 100000 in
theorem wl_M_count_73 {x : JX} {bd : Nat → Nat} {cA : ClassId} {ad : Nat → Nat} {σ0 : SP} {wr : va_W} (C : jC x cc_M_count 4 "PlainWarehouseModel") (hT : (jT x)[0]? = some (cA, .int)) (hR : jR x = rm_M_count)  (c1 : Int32) (σ : SM) (v2 : Int32) (v3 : Int32) {u2 : Int32} {u3 : Int32} (n : Nat) (h : lp (fun s => b_M_count_73 c1 σ s.1 s.2) n (v2, v3) = some (u2, u3)) (K : jW x 4 0 0 137 [(0, .ref (bd 0)), (1, .int c1), (2, .int u2), (3, .int u3)] [] ((wP ad cA σ0) ++ ((wM bd cA σ) ++ wr))) : jW x 4 0 0 73 [(0, .ref (bd 0)), (1, .int c1), (2, .int v2), (3, .int v3)] [] ((wP ad cA σ0) ++ ((wM bd cA σ) ++ wr)) :=
  j_lp (Pr := fun s => jW x 4 0 0 73 [(0, .ref (bd 0)), (1, .int c1), (2, .int s.1), (3, .int s.2)] [] ((wP ad cA σ0) ++ ((wM bd cA σ) ++ wr))) (K := fun s => jW x 4 0 0 137 [(0, .ref (bd 0)), (1, .int c1), (2, .int s.1), (3, .int s.2)] [] ((wP ad cA σ0) ++ ((wM bd cA σ) ++ wr))) (fun s o h kc ke => wb_M_count_73 C hT hR c1 σ s.1 s.2 h (fun u2 u3 e => kc _ e) (fun u2 u3 e => ke _ e)) n _ _ h K
set_option maxHeartbeats 4000000 in
set_option maxRecDepth 100000 in
theorem wb_M_count_139 {x : JX} {bd : Nat → Nat} {cA : ClassId} {ad : Nat → Nat} {σ0 : SP} {wr : va_W} (C : jC x cc_M_count 4 "PlainWarehouseModel") (hT : (jT x)[0]? = some (cA, .int)) (hR : jR x = rm_M_count)  (c1 : Int32) (σ : SM) (v2 : Int32) (v3 : Int32) {o : (Int32 × Int32) ⊕ (Int32 × Int32)} (h : b_M_count_139 c1 σ v2 v3 = some o) (kc : ∀ (u2 : Int32) (u3 : Int32), o = .inl (u2, u3) → jW x 4 0 0 139 [(0, .ref (bd 0)), (1, .int c1), (2, .int u2), (3, .int u3)] [] ((wP ad cA σ0) ++ ((wM bd cA σ) ++ wr))) (ke : ∀ (u2 : Int32) (u3 : Int32), o = .inr (u2, u3) → jW x 4 0 0 192 [(0, .ref (bd 0)), (1, .int c1), (2, .int u2), (3, .int u3)] [] ((wP ad cA σ0) ++ ((wM bd cA σ) ++ wr))) : jW x 4 0 0 139 [(0, .ref (bd 0)), (1, .int c1), (2, .int v2), (3, .int v3)] [] ((wP ad cA σ0) ++ ((wM bd cA σ) ++ wr)) := by
  unfold b_M_count_139 at h
  refine j_iload_n C 3 d_M_count_139 rfl rfl rfl ?_
  refine j_bipush (v := 100) C d_M_count_140 rfl (by decide) ?_
  refine j_icmp_ge (tgt := 192) C d_M_count_142 (by decide) rfl h (fun h => ?_) (fun h => ?_)
  · cases h
    refine j_sub [0, 1, 2, 3] rfl (ke _ _ rfl)
  · refine j_iload_n C 1 d_M_count_145 rfl rfl rfl ?_
    refine j_iconst (v := 5) C d_M_count_146 rfl (by decide) ?_
    refine j_icmp_ne (tgt := 192) C d_M_count_147 (by decide) rfl h (fun h => ?_) (fun h => ?_)
    · cases h
      refine j_sub [0, 1, 2, 3] rfl (ke _ _ rfl)
    · refine j_iload_n C 2 d_M_count_150 rfl rfl rfl ?_
      refine j_iload_n C 3 d_M_count_151 rfl rfl rfl ?_
      refine j_bipush (v := 10) C d_M_count_152 rfl (by decide) ?_
      refine j_idiv C d_M_count_154 rfl (by decide) ?_
      refine j_iload_n C 3 d_M_count_155 rfl rfl rfl ?_
      refine j_bipush (v := 10) C d_M_count_156 rfl (by decide) ?_
      refine j_irem C d_M_count_158 rfl (by decide) ?_
      refine j_icmp_ge (tgt := 183) C d_M_count_159 (by decide) rfl h (fun h => ?_) (fun h => ?_)
      · refine j_iconst (v := 0) C d_M_count_183 rfl (by decide) ?_
        refine j_iadd C d_M_count_184 rfl ?_
        refine j_istore_n (lv' := [(2, .int (v2 + (0 : Int32))), (0, .ref (bd 0)), (1, .int c1), (3, .int v3)]) C d_M_count_185 rfl rfl (by decide) rfl ?_
        refine j_iinc (v' := (v3 + 1)) (lv' := [(3, .int (v3 + 1)), (2, .int (v2 + (0 : Int32))), (0, .ref (bd 0)), (1, .int c1)]) C 3 d_M_count_186 rfl rfl rfl (by decide) rfl ?_
        refine j_goto (tgt := 139) C d_M_count_189 (by decide) ?_
        cases h
        refine j_sub [2, 3, 1, 0] rfl (kc _ _ rfl)
      · refine j_aload_n C 0 d_M_count_162 rfl rfl rfl ?_
        refine j_get C in_M 18 rfl rfl 14 (by decide) tw_589 rfl (v := .ref (bd 12)) rfl d_M_count_163 rfl ?_
        refine j_bipush (v := 100) C d_M_count_166 rfl (by decide) ?_
        refine j_aload_n C 0 d_M_count_168 rfl rfl rfl ?_
        refine j_get C in_M 18 rfl rfl 1 (by decide) tw_576 rfl (v := .int (g_mev σ)) rfl d_M_count_169 rfl ?_
        refine j_imul C d_M_count_172 rfl ?_
        refine j_iload_n C 3 d_M_count_173 rfl rfl rfl ?_
        refine j_iadd C d_M_count_174 rfl ?_
        refine j_iald C 30 0 rfl hT d_M_count_175 rfl h (fun r15 h => ?_)
        refine j_if_le (tgt := 183) C d_M_count_176 (by decide) rfl h (fun h => ?_) (fun h => ?_)
        · refine j_iconst (v := 0) C d_M_count_183 rfl (by decide) ?_
          refine j_iadd C d_M_count_184 rfl ?_
          refine j_istore_n (lv' := [(2, .int (v2 + (0 : Int32))), (0, .ref (bd 0)), (1, .int c1), (3, .int v3)]) C d_M_count_185 rfl rfl (by decide) rfl ?_
          refine j_iinc (v' := (v3 + 1)) (lv' := [(3, .int (v3 + 1)), (2, .int (v2 + (0 : Int32))), (0, .ref (bd 0)), (1, .int c1)]) C 3 d_M_count_186 rfl rfl rfl (by decide) rfl ?_
          refine j_goto (tgt := 139) C d_M_count_189 (by decide) ?_
          cases h
          refine j_sub [2, 3, 1, 0] rfl (kc _ _ rfl)
        · refine j_iconst (v := 1) C d_M_count_179 rfl (by decide) ?_
          refine j_goto (tgt := 184) C d_M_count_180 (by decide) ?_
          refine j_iadd C d_M_count_184 rfl ?_
          refine j_istore_n (lv' := [(2, .int (v2 + (1 : Int32))), (0, .ref (bd 0)), (1, .int c1), (3, .int v3)]) C d_M_count_185 rfl rfl (by decide) rfl ?_
          refine j_iinc (v' := (v3 + 1)) (lv' := [(3, .int (v3 + 1)), (2, .int (v2 + (1 : Int32))), (0, .ref (bd 0)), (1, .int c1)]) C 3 d_M_count_186 rfl rfl rfl (by decide) rfl ?_
          refine j_goto (tgt := 139) C d_M_count_189 (by decide) ?_
          cases h
          refine j_sub [2, 3, 1, 0] rfl (kc _ _ rfl)
set_option maxRecDepth 100000 in
theorem wl_M_count_139 {x : JX} {bd : Nat → Nat} {cA : ClassId} {ad : Nat → Nat} {σ0 : SP} {wr : va_W} (C : jC x cc_M_count 4 "PlainWarehouseModel") (hT : (jT x)[0]? = some (cA, .int)) (hR : jR x = rm_M_count)  (c1 : Int32) (σ : SM) (v2 : Int32) (v3 : Int32) {u2 : Int32} {u3 : Int32} (n : Nat) (h : lp (fun s => b_M_count_139 c1 σ s.1 s.2) n (v2, v3) = some (u2, u3)) (K : jW x 4 0 0 192 [(0, .ref (bd 0)), (1, .int c1), (2, .int u2), (3, .int u3)] [] ((wP ad cA σ0) ++ ((wM bd cA σ) ++ wr))) : jW x 4 0 0 139 [(0, .ref (bd 0)), (1, .int c1), (2, .int v2), (3, .int v3)] [] ((wP ad cA σ0) ++ ((wM bd cA σ) ++ wr)) :=
  j_lp (Pr := fun s => jW x 4 0 0 139 [(0, .ref (bd 0)), (1, .int c1), (2, .int s.1), (3, .int s.2)] [] ((wP ad cA σ0) ++ ((wM bd cA σ) ++ wr))) (K := fun s => jW x 4 0 0 192 [(0, .ref (bd 0)), (1, .int c1), (2, .int s.1), (3, .int s.2)] [] ((wP ad cA σ0) ++ ((wM bd cA σ) ++ wr))) (fun s o h kc ke => wb_M_count_139 C hT hR c1 σ s.1 s.2 h (fun u2 u3 e => kc _ e) (fun u2 u3 e => ke _ e)) n _ _ h K
set_option maxHeartbeats 4000000 in
set_option maxRecDepth 100000 in
theorem wk_M_count_137 {x : JX} {bd : Nat → Nat} {cA : ClassId} {ad : Nat → Nat} {σ0 : SP} {wr : va_W} (C : jC x cc_M_count 4 "PlainWarehouseModel") (hT : (jT x)[0]? = some (cA, .int)) (hR : jR x = rm_M_count)  (p1 : Int32) (p2 : Int32) (σ : SM) {r : Int32} {σ' : SM} (hr : (jt x).sig.returnType = some .int) (E : jE x 0 0 (some (.int r)) ((wP ad cA σ0) ++ ((wM bd cA σ') ++ wr))) (h : k_M_count_137 p1 p2 σ = some (r, σ')) : jW x 4 0 0 137 [(0, .ref (bd 0)), (1, .int p1), (2, .int p2)] [] ((wP ad cA σ0) ++ ((wM bd cA σ) ++ wr)) := by
  unfold k_M_count_137 at h
  refine j_iconst (v := 0) C d_M_count_137 rfl (by decide) ?_
  refine j_istore_n (lv' := [(3, .int (0 : Int32)), (0, .ref (bd 0)), (1, .int p1), (2, .int p2)]) C d_M_count_138 rfl rfl (by decide) rfl ?_
  obtain ⟨w16, w17, h18, h⟩ := mb2_some h
  refine j_sub [1, 2, 3, 0] rfl (wl_M_count_139 C hT hR p1 σ p2 (0 : Int32) FU h18 ?_)
  refine j_iload_n C 1 d_M_count_192 rfl rfl rfl ?_
  refine j_iconst (v := 2) C d_M_count_193 rfl (by decide) ?_
  refine j_iconst (v := 5) C d_M_count_194 rfl (by decide) ?_
  obtain ⟨r19, h20, h⟩ := mb1_some h
  refine j_callS C hR (As := [.int p1, .int (2 : Int32), .int (5 : Int32)]) (ct_M_in (jl x) (jD x) (jT x) p1 (2 : Int32) (5 : Int32) h20) kf_M_in (by decide) tw_644 tw_645 (rest := []) rfl rfl (Nat.le_of_ble_eq_true rfl) (by decide) ⟨rfl, rfl⟩ d_M_count_195 rfl (st1 := [.int r19]) rfl ?_
  refine j_if_eq (tgt := 205) C d_M_count_198 (by decide) rfl h (fun h => ?_) (fun h => ?_)
  · refine j_iconst (v := (-1)) C d_M_count_205 rfl (by decide) ?_
    cases h
    exact j_iret C E hr d_M_count_206
  · refine j_iload_n C 2 d_M_count_201 rfl rfl rfl ?_
    refine j_goto (tgt := 206) C d_M_count_202 (by decide) ?_
    cases h
    exact j_iret C E hr d_M_count_206
set_option maxHeartbeats 4000000 in
set_option maxRecDepth 100000 in
theorem wk_M_count_71 {x : JX} {bd : Nat → Nat} {cA : ClassId} {ad : Nat → Nat} {σ0 : SP} {wr : va_W} (C : jC x cc_M_count 4 "PlainWarehouseModel") (hT : (jT x)[0]? = some (cA, .int)) (hR : jR x = rm_M_count)  (p1 : Int32) (p2 : Int32) (σ : SM) {r : Int32} {σ' : SM} (hr : (jt x).sig.returnType = some .int) (E : jE x 0 0 (some (.int r)) ((wP ad cA σ0) ++ ((wM bd cA σ') ++ wr))) (h : k_M_count_71 p1 p2 σ = some (r, σ')) : jW x 4 0 0 71 [(0, .ref (bd 0)), (1, .int p1), (2, .int p2)] [] ((wP ad cA σ0) ++ ((wM bd cA σ) ++ wr)) := by
  unfold k_M_count_71 at h
  refine j_iconst (v := 0) C d_M_count_71 rfl (by decide) ?_
  refine j_istore_n (lv' := [(3, .int (0 : Int32)), (0, .ref (bd 0)), (1, .int p1), (2, .int p2)]) C d_M_count_72 rfl rfl (by decide) rfl ?_
  obtain ⟨w12, w13, h14, h⟩ := mb2_some h
  refine j_sub [1, 2, 3, 0] rfl (wl_M_count_73 C hT hR p1 σ p2 (0 : Int32) FU h14 ?_)
  exact j_sub [0, 1, 2] rfl (wk_M_count_137 C hT hR p1 w12 σ hr E h)
set_option maxHeartbeats 4000000 in
set_option maxRecDepth 100000 in
theorem w_M_count {x : JX} {bd : Nat → Nat} {cA : ClassId} {ad : Nat → Nat} {σ0 : SP} {wr : va_W} (C : jC x cc_M_count 4 "PlainWarehouseModel") (hT : (jT x)[0]? = some (cA, .int)) (hR : jR x = rm_M_count)  (a1 : Int32) (σ : SM) {r : Int32} {σ' : SM} (hr : (jt x).sig.returnType = some .int) (E : jE x 0 0 (some (.int r)) ((wP ad cA σ0) ++ ((wM bd cA σ') ++ wr))) (h : m_M_count a1 σ = some (r, σ')) : jW x 4 0 0 0 [(0, .ref (bd 0)), (1, .int a1)] [] ((wP ad cA σ0) ++ ((wM bd cA σ) ++ wr)) := by
  unfold m_M_count at h
  refine j_aload_n C 0 d_M_count_0 rfl rfl rfl ?_
  refine j_iconst (v := 0) C d_M_count_1 rfl (by decide) ?_
  refine j_put C in_M ty_M_ok nm_M 18 rfl rfl 0 (by decide) tw_575 rfl rfl rfl (Nat.le_of_ble_eq_true rfl) (fun t => (wP ad cA σ0) ++ ((wM bd cA t) ++ wr)) d_M_count_2 rfl h rfl (fun σ1 h => ?_)
  refine j_iload_n C 1 d_M_count_5 rfl rfl rfl ?_
  refine j_if_ne (tgt := 14) C d_M_count_6 (by decide) rfl h (fun h => ?_) (fun h => ?_)
  · refine j_iload_n C 1 d_M_count_14 rfl rfl rfl ?_
    refine j_iconst (v := 1) C d_M_count_15 rfl (by decide) ?_
    refine j_icmp_ne (tgt := 24) C d_M_count_16 (by decide) rfl h (fun h => ?_) (fun h => ?_)
    · refine j_iconst (v := 0) C d_M_count_24 rfl (by decide) ?_
      refine j_istore_n (lv' := [(2, .int (0 : Int32)), (0, .ref (bd 0)), (1, .int a1)]) C d_M_count_25 rfl rfl (by decide) rfl ?_
      refine j_iconst (v := 0) C d_M_count_26 rfl (by decide) ?_
      refine j_istore_n (lv' := [(3, .int (0 : Int32)), (2, .int (0 : Int32)), (0, .ref (bd 0)), (1, .int a1)]) C d_M_count_27 rfl rfl (by decide) rfl ?_
      obtain ⟨w3, w4, h5, h⟩ := mb2_some h
      refine j_sub [2, 3, 1, 0] rfl (wl_M_count_28 C hT hR a1 σ1 (0 : Int32) (0 : Int32) FU h5 ?_)
      exact j_sub [0, 1, 2] rfl (wk_M_count_71 C hT hR a1 w3 σ1 hr E h)
    · refine j_aload_n C 0 d_M_count_19 rfl rfl rfl ?_
      refine j_get C in_M 18 rfl rfl 2 (by decide) tw_577 rfl (v := .int (g_mrf σ1)) rfl d_M_count_20 rfl ?_
      cases h
      exact j_iret C E hr d_M_count_23
  · refine j_aload_n C 0 d_M_count_9 rfl rfl rfl ?_
    refine j_get C in_M 18 rfl rfl 1 (by decide) tw_576 rfl (v := .int (g_mev σ1)) rfl d_M_count_10 rfl ?_
    cases h
    exact j_iret C E hr d_M_count_13
theorem ct_M_count (l : Launch) (D : va_G) (tys : List (ClassId × FieldType)) {bd : Nat → Nat} {cA : ClassId} {ad : Nat → Nat} {σ0 : SP} {wr : va_W} (hT : tys[0]? = some (cA, .int)) (a1 : Int32) (σ : SM) {r : Int32} {σ' : SM} (h : m_M_count a1 σ = some (r, σ')) : jM l y_M_count ws_M_count rm_M_count D tys [.ref (bd 0), .int a1] ((wP ad cA σ0) ++ ((wM bd cA σ) ++ wr)) (some (.int r)) ((wP ad cA σ0) ++ ((wM bd cA σ') ++ wr)) :=
  j_of (by decide +kernel) rfl (Nat.le_of_ble_eq_true rfl) rfl (fun x _ _ hT' hR C hr _ E => w_M_count C (by rw [hT']; exact hT) hR a1 σ hr E h)
