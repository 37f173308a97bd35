set_option maxRecDepth 100000 in
theorem tw_588 : Cond.fieldLink "PlainWarehouseModel" (40 : Nat) "PlainWarehouseModel" "cents" "[I" ∈ WS := ws_in 588 rfl rfl
set_option maxRecDepth 100000 in
theorem tw_589 : Cond.fieldLink "PlainWarehouseModel" (43 : Nat) "PlainWarehouseModel" "link" "[I" ∈ WS := ws_in 589 rfl rfl
def rm_M_copy : Room := { frames := 0, cells := 0, slots := 0, locals := 0 }
def b_M_copy_2 (c1 : Int32) (c2 : Int32) (v3 : Int32) (σ : SM) : Option ((Int32 × SM) ⊕ (Int32 × SM)) :=
  (if (20 : Int32) ≤ v3 then some (.inr (v3, σ)) else (mrd 1240 (g_mpl σ) (((20 : Int32) * c1) + v3) fun r1 => (mck 1240 (((20 : Int32) * c2) + v3) (mlet (u_mpl σ (upd (g_mpl σ) (((20 : Int32) * c2) + v3).toNatClampNeg r1)) fun σ2 => (mrd 1240 (g_mgd σ2) (((20 : Int32) * c1) + v3) fun r3 => (mck 1240 (((20 : Int32) * c2) + v3) (mlet (u_mgd σ2 (upd (g_mgd σ2) (((20 : Int32) * c2) + v3).toNatClampNeg r3)) fun σ4 => (mrd 1240 (g_mgv σ4) (((20 : Int32) * c1) + v3) fun r5 => (mck 1240 (((20 : Int32) * c2) + v3) (mlet (u_mgv σ4 (upd (g_mgv σ4) (((20 : Int32) * c2) + v3).toNatClampNeg r5)) fun σ6 => some (.inl ((v3 + 1), σ6))))))))))))
def b_M_copy_82 (c1 : Int32) (c2 : Int32) (v3 : Int32) (σ : SM) : Option ((Int32 × SM) ⊕ (Int32 × SM)) :=
  (if (10 : Int32) ≤ v3 then some (.inr (v3, σ)) else (mrd 620 (g_mwa σ) (((10 : Int32) * c1) + v3) fun r10 => (mck 620 (((10 : Int32) * c2) + v3) (mlet (u_mwa σ (upd (g_mwa σ) (((10 : Int32) * c2) + v3).toNatClampNeg r10)) fun σ11 => (mrd 620 (g_mog σ11) (((10 : Int32) * c1) + v3) fun r12 => (mck 620 (((10 : Int32) * c2) + v3) (mlet (u_mog σ11 (upd (g_mog σ11) (((10 : Int32) * c2) + v3).toNatClampNeg r12)) fun σ13 => (mrd 620 (g_mgt σ13) (((10 : Int32) * c1) + v3) fun r14 => (mck 620 (((10 : Int32) * c2) + v3) (mlet (u_mgt σ13 (upd (g_mgt σ13) (((10 : Int32) * c2) + v3).toNatClampNeg r14)) fun σ15 => some (.inl ((v3 + 1), σ15))))))))))))
def b_M_copy_162 (c1 : Int32) (c2 : Int32) (v3 : Int32) (σ : SM) : Option ((Int32 × SM) ⊕ (Int32 × SM)) :=
  (if (4 : Int32) ≤ v3 then some (.inr (v3, σ)) else (mrd 248 (g_mce σ) (((4 : Int32) * c1) + v3) fun r19 => (mck 248 (((4 : Int32) * c2) + v3) (mlet (u_mce σ (upd (g_mce σ) (((4 : Int32) * c2) + v3).toNatClampNeg r19)) fun σ20 => some (.inl ((v3 + 1), σ20))))))
def b_M_copy_195 (c1 : Int32) (c2 : Int32) (v3 : Int32) (σ : SM) : Option ((Int32 × SM) ⊕ (Int32 × SM)) :=
  (if (100 : Int32) ≤ v3 then some (.inr (v3, σ)) else (mrd 6200 (g_mlk σ) (((100 : Int32) * c1) + v3) fun r24 => (mck 6200 (((100 : Int32) * c2) + v3) (mlet (u_mlk σ (upd (g_mlk σ) (((100 : Int32) * c2) + v3).toNatClampNeg r24)) fun σ25 => some (.inl ((v3 + 1), σ25))))))
def m_M_copy (a1 : Int32) (a2 : Int32) (σ : SM) : Option (SM) :=
  (mb2 (lp (fun s => b_M_copy_2 a1 a2 s.1 s.2) FU ((0 : Int32), σ)) fun w7 σ8 => (mb2 (lp (fun s => b_M_copy_82 a1 a2 s.1 s.2) FU ((0 : Int32), σ8)) fun w16 σ17 => (mb2 (lp (fun s => b_M_copy_162 a1 a2 s.1 s.2) FU ((0 : Int32), σ17)) fun w21 σ22 => (mb2 (lp (fun s => b_M_copy_195 a1 a2 s.1 s.2) FU ((0 : Int32), σ22)) fun w26 σ27 => some σ27))))
set_option maxHeartbeats 4000000 in
set_option maxRecDepth 100000 in
theorem wb_M_copy_2 {x : JX} {bd : Nat → Nat} {cA : ClassId} {ad : Nat → Nat} {σ0 : SP} {wr : va_W} (C : jC x cc_M_copy 4 "PlainWarehouseModel") (hT : (jT x)[0]? = some (cA, .int)) (hR : jR x = rm_M_copy)  (c1 : Int32) (c2 : Int32) (σ : SM) (v3 : Int32) {o : (Int32 × SM) ⊕ (Int32 × SM)} (h : b_M_copy_2 c1 c2 v3 σ = some o) (kc : ∀ (u3 : Int32) (τ : SM), o = .inl (u3, τ) → jW x 4 0 0 2 [(0, .ref (bd 0)), (1, .int c1), (2, .int c2), (3, .int u3)] [] ((wP ad cA σ0) ++ ((wM bd cA τ) ++ wr))) (ke : ∀ (u3 : Int32) (τ : SM), o = .inr (u3, τ) → jW x 4 0 0 80 [(0, .ref (bd 0)), (1, .int c1), (2, .int c2), (3, .int u3)] [] ((wP ad cA σ0) ++ ((wM bd cA τ) ++ wr))) : jW x 4 0 0 2 [(0, .ref (bd 0)), (1, .int c1), (2, .int c2), (3, .int v3)] [] ((wP ad cA σ0) ++ ((wM bd cA σ) ++ wr)) := by
  unfold b_M_copy_2 at h
  refine j_iload_n C 3 d_M_copy_2 rfl rfl rfl ?_
  refine j_bipush (v := 20) C d_M_copy_3 rfl (by decide) ?_
  refine j_icmp_ge (tgt := 80) C d_M_copy_5 (by decide) rfl h (fun h => ?_) (fun h => ?_)
  · cases h
    refine j_sub [0, 1, 2, 3] rfl (ke _ _ rfl)
  · refine j_aload_n C 0 d_M_copy_8 rfl rfl rfl ?_
    refine j_get C in_M 18 rfl rfl 7 (by decide) tw_582 rfl (v := .ref (bd 5)) rfl d_M_copy_9 rfl ?_
    refine j_bipush (v := 20) C d_M_copy_12 rfl (by decide) ?_
    refine j_iload_n C 2 d_M_copy_14 rfl rfl rfl ?_
    refine j_imul C d_M_copy_15 rfl ?_
    refine j_iload_n C 3 d_M_copy_16 rfl rfl rfl ?_
    refine j_iadd C d_M_copy_17 rfl ?_
    refine j_aload_n C 0 d_M_copy_18 rfl rfl rfl ?_
    refine j_get C in_M 18 rfl rfl 7 (by decide) tw_582 rfl (v := .ref (bd 5)) rfl d_M_copy_19 rfl ?_
    refine j_bipush (v := 20) C d_M_copy_22 rfl (by decide) ?_
    refine j_iload_n C 1 d_M_copy_24 rfl rfl rfl ?_
    refine j_imul C d_M_copy_25 rfl ?_
    refine j_iload_n C 3 d_M_copy_26 rfl rfl rfl ?_
    refine j_iadd C d_M_copy_27 rfl ?_
    refine j_iald C 23 0 rfl hT d_M_copy_28 rfl h (fun r1 h => ?_)
    refine j_iast C (fun t => (wP ad cA σ0) ++ ((wM bd cA t) ++ wr)) 23 0 rfl hT d_M_copy_29 rfl h rfl (fun σ2 h => ?_)
    refine j_aload_n C 0 d_M_copy_30 rfl rfl rfl ?_
    refine j_get C in_M 18 rfl rfl 8 (by decide) tw_583 rfl (v := .ref (bd 6)) rfl d_M_copy_31 rfl ?_
    refine j_bipush (v := 20) C d_M_copy_34 rfl (by decide) ?_
    refine j_iload_n C 2 d_M_copy_36 rfl rfl rfl ?_
    refine j_imul C d_M_copy_37 rfl ?_
    refine j_iload_n C 3 d_M_copy_38 rfl rfl rfl ?_
    refine j_iadd C d_M_copy_39 rfl ?_
    refine j_aload_n C 0 d_M_copy_40 rfl rfl rfl ?_
    refine j_get C in_M 18 rfl rfl 8 (by decide) tw_583 rfl (v := .ref (bd 6)) rfl d_M_copy_41 rfl ?_
    refine j_bipush (v := 20) C d_M_copy_44 rfl (by decide) ?_
    refine j_iload_n C 1 d_M_copy_46 rfl rfl rfl ?_
    refine j_imul C d_M_copy_47 rfl ?_
    refine j_iload_n C 3 d_M_copy_48 rfl rfl rfl ?_
    refine j_iadd C d_M_copy_49 rfl ?_
    refine j_iald C 24 0 rfl hT d_M_copy_50 rfl h (fun r3 h => ?_)
    refine j_iast C (fun t => (wP ad cA σ0) ++ ((wM bd cA t) ++ wr)) 24 0 rfl hT d_M_copy_51 rfl h rfl (fun σ4 h => ?_)
    refine j_aload_n C 0 d_M_copy_52 rfl rfl rfl ?_
    refine j_get C in_M 18 rfl rfl 9 (by decide) tw_584 rfl (v := .ref (bd 7)) rfl d_M_copy_53 rfl ?_
    refine j_bipush (v := 20) C d_M_copy_56 rfl (by decide) ?_
    refine j_iload_n C 2 d_M_copy_58 rfl rfl rfl ?_
    refine j_imul C d_M_copy_59 rfl ?_
    refine j_iload_n C 3 d_M_copy_60 rfl rfl rfl ?_
    refine j_iadd C d_M_copy_61 rfl ?_
    refine j_aload_n C 0 d_M_copy_62 rfl rfl rfl ?_
    refine j_get C in_M 18 rfl rfl 9 (by decide) tw_584 rfl (v := .ref (bd 7)) rfl d_M_copy_63 rfl ?_
    refine j_bipush (v := 20) C d_M_copy_66 rfl (by decide) ?_
    refine j_iload_n C 1 d_M_copy_68 rfl rfl rfl ?_
    refine j_imul C d_M_copy_69 rfl ?_
    refine j_iload_n C 3 d_M_copy_70 rfl rfl rfl ?_
    refine j_iadd C d_M_copy_71 rfl ?_
    refine j_iald C 25 0 rfl hT d_M_copy_72 rfl h (fun r5 h => ?_)
    refine j_iast C (fun t => (wP ad cA σ0) ++ ((wM bd cA t) ++ wr)) 25 0 rfl hT d_M_copy_73 rfl h rfl (fun σ6 h => ?_)
    refine j_iinc (v' := (v3 + 1)) (lv' := [(3, .int (v3 + 1)), (0, .ref (bd 0)), (1, .int c1), (2, .int c2)]) C 3 d_M_copy_74 rfl rfl rfl (by decide) rfl ?_
    refine j_goto (tgt := 2) C d_M_copy_77 (by decide) ?_
    cases h
    refine j_sub [1, 2, 3, 0] rfl (kc _ _ rfl)
set_option maxRecDepth 100000 in
theorem wl_M_copy_2 {x : JX} {bd : Nat → Nat} {cA : ClassId} {ad : Nat → Nat} {σ0 : SP} {wr : va_W} (C : jC x cc_M_copy 4 "PlainWarehouseModel") (hT : (jT x)[0]? = some (cA, .int)) (hR : jR x = rm_M_copy)  (c1 : Int32) (c2 : Int32) (σ : SM) (v3 : Int32) {u3 : Int32} {τ : SM} (n : Nat) (h : lp (fun s => b_M_copy_2 c1 c2 s.1 s.2) n (v3, σ) = some (u3, τ)) (K : jW x 4 0 0 80 [(0, .ref (bd 0)), (1, .int c1), (2, .int c2), (3, .int u3)] [] ((wP ad cA σ0) ++ ((wM bd cA τ) ++ wr))) : jW x 4 0 0 2 [(0, .ref (bd 0)), (1, .int c1), (2, .int c2), (3, .int v3)] [] ((wP ad cA σ0) ++ ((wM bd cA σ) ++ wr)) :=
  j_lp (Pr := fun s => jW x 4 0 0 2 [(0, .ref (bd 0)), (1, .int c1), (2, .int c2), (3, .int s.1)] [] ((wP ad cA σ0) ++ ((wM bd cA s.2) ++ wr))) (K := fun s => jW x 4 0 0 80 [(0, .ref (bd 0)), (1, .int c1), (2, .int c2), (3, .int s.1)] [] ((wP ad cA σ0) ++ ((wM bd cA s.2) ++ wr))) (fun s o h kc ke => wb_M_copy_2 C hT hR c1 c2 s.2 s.1 h (fun u3 τ e => kc _ e) (fun u3 τ e => ke _ e)) n _ _ h K
set_option maxHeartbeats 4000000 in
set_option maxRecDepth 100000 in
theorem wb_M_copy_82 {x : JX} {bd : Nat → Nat} {cA : ClassId} {ad : Nat → Nat} {σ0 : SP} {wr : va_W} (C : jC x cc_M_copy 4 "PlainWarehouseModel") (hT : (jT x)[0]? = some (cA, .int)) (hR : jR x = rm_M_copy)  (c1 : Int32) (c2 : Int32) (σ : SM) (v3 : Int32) {o : (Int32 × SM) ⊕ (Int32 × SM)} (h : b_M_copy_82 c1 c2 v3 σ = some o) (kc : ∀ (u3 : Int32) (τ : SM), o = .inl (u3, τ) → jW x 4 0 0 82 [(0, .ref (bd 0)), (1, .int c1), (2, .int c2), (3, .int u3)] [] ((wP ad cA σ0) ++ ((wM bd cA τ) ++ wr))) (ke : ∀ (u3 : Int32) (τ : SM), o = .inr (u3, τ) → jW x 4 0 0 160 [(0, .ref (bd 0)), (1, .int c1), (2, .int c2), (3, .int u3)] [] ((wP ad cA σ0) ++ ((wM bd cA τ) ++ wr))) : jW x 4 0 0 82 [(0, .ref (bd 0)), (1, .int c1), (2, .int c2), (3, .int v3)] [] ((wP ad cA σ0) ++ ((wM bd cA σ) ++ wr)) := by
  unfold b_M_copy_82 at h
  refine j_iload_n C 3 d_M_copy_82 rfl rfl rfl ?_
  refine j_bipush (v := 10) C d_M_copy_83 rfl (by decide) ?_
  refine j_icmp_ge (tgt := 160) C d_M_copy_85 (by decide) rfl h (fun h => ?_) (fun h => ?_)
  · cases h
    refine j_sub [0, 1, 2, 3] rfl (ke _ _ rfl)
  · refine j_aload_n C 0 d_M_copy_88 rfl rfl rfl ?_
    refine j_get C in_M 18 rfl rfl 10 (by decide) tw_585 rfl (v := .ref (bd 8)) rfl d_M_copy_89 rfl ?_
    refine j_bipush (v := 10) C d_M_copy_92 rfl (by decide) ?_
    refine j_iload_n C 2 d_M_copy_94 rfl rfl rfl ?_
    refine j_imul C d_M_copy_95 rfl ?_
    refine j_iload_n C 3 d_M_copy_96 rfl rfl rfl ?_
    refine j_iadd C d_M_copy_97 rfl ?_
    refine j_aload_n C 0 d_M_copy_98 rfl rfl rfl ?_
    refine j_get C in_M 18 rfl rfl 10 (by decide) tw_585 rfl (v := .ref (bd 8)) rfl d_M_copy_99 rfl ?_
    refine j_bipush (v := 10) C d_M_copy_102 rfl (by decide) ?_
    refine j_iload_n C 1 d_M_copy_104 rfl rfl rfl ?_
    refine j_imul C d_M_copy_105 rfl ?_
    refine j_iload_n C 3 d_M_copy_106 rfl rfl rfl ?_
    refine j_iadd C d_M_copy_107 rfl ?_
    refine j_iald C 26 0 rfl hT d_M_copy_108 rfl h (fun r10 h => ?_)
    refine j_iast C (fun t => (wP ad cA σ0) ++ ((wM bd cA t) ++ wr)) 26 0 rfl hT d_M_copy_109 rfl h rfl (fun σ11 h => ?_)
    refine j_aload_n C 0 d_M_copy_110 rfl rfl rfl ?_
    refine j_get C in_M 18 rfl rfl 11 (by decide) tw_586 rfl (v := .ref (bd 9)) rfl d_M_copy_111 rfl ?_
    refine j_bipush (v := 10) C d_M_copy_114 rfl (by decide) ?_
    refine j_iload_n C 2 d_M_copy_116 rfl rfl rfl ?_
    refine j_imul C d_M_copy_117 rfl ?_
    refine j_iload_n C 3 d_M_copy_118 rfl rfl rfl ?_
    refine j_iadd C d_M_copy_119 rfl ?_
    refine j_aload_n C 0 d_M_copy_120 rfl rfl rfl ?_
    refine j_get C in_M 18 rfl rfl 11 (by decide) tw_586 rfl (v := .ref (bd 9)) rfl d_M_copy_121 rfl ?_
    refine j_bipush (v := 10) C d_M_copy_124 rfl (by decide) ?_
    refine j_iload_n C 1 d_M_copy_126 rfl rfl rfl ?_
    refine j_imul C d_M_copy_127 rfl ?_
    refine j_iload_n C 3 d_M_copy_128 rfl rfl rfl ?_
    refine j_iadd C d_M_copy_129 rfl ?_
    refine j_iald C 27 0 rfl hT d_M_copy_130 rfl h (fun r12 h => ?_)
    refine j_iast C (fun t => (wP ad cA σ0) ++ ((wM bd cA t) ++ wr)) 27 0 rfl hT d_M_copy_131 rfl h rfl (fun σ13 h => ?_)
    refine j_aload_n C 0 d_M_copy_132 rfl rfl rfl ?_
    refine j_get C in_M 18 rfl rfl 12 (by decide) tw_587 rfl (v := .ref (bd 10)) rfl d_M_copy_133 rfl ?_
    refine j_bipush (v := 10) C d_M_copy_136 rfl (by decide) ?_
    refine j_iload_n C 2 d_M_copy_138 rfl rfl rfl ?_
    refine j_imul C d_M_copy_139 rfl ?_
    refine j_iload_n C 3 d_M_copy_140 rfl rfl rfl ?_
    refine j_iadd C d_M_copy_141 rfl ?_
    refine j_aload_n C 0 d_M_copy_142 rfl rfl rfl ?_
    refine j_get C in_M 18 rfl rfl 12 (by decide) tw_587 rfl (v := .ref (bd 10)) rfl d_M_copy_143 rfl ?_
    refine j_bipush (v := 10) C d_M_copy_146 rfl (by decide) ?_
    refine j_iload_n C 1 d_M_copy_148 rfl rfl rfl ?_
    refine j_imul C d_M_copy_149 rfl ?_
    refine j_iload_n C 3 d_M_copy_150 rfl rfl rfl ?_
    refine j_iadd C d_M_copy_151 rfl ?_
    refine j_iald C 28 0 rfl hT d_M_copy_152 rfl h (fun r14 h => ?_)
    refine j_iast C (fun t => (wP ad cA σ0) ++ ((wM bd cA t) ++ wr)) 28 0 rfl hT d_M_copy_153 rfl h rfl (fun σ15 h => ?_)
    refine j_iinc (v' := (v3 + 1)) (lv' := [(3, .int (v3 + 1)), (0, .ref (bd 0)), (1, .int c1), (2, .int c2)]) C 3 d_M_copy_154 rfl rfl rfl (by decide) rfl ?_
    refine j_goto (tgt := 82) C d_M_copy_157 (by decide) ?_
    cases h
    refine j_sub [1, 2, 3, 0] rfl (kc _ _ rfl)
set_option maxRecDepth 100000 in
theorem wl_M_copy_82 {x : JX} {bd : Nat → Nat} {cA : ClassId} {ad : Nat → Nat} {σ0 : SP} {wr : va_W} (C : jC x cc_M_copy 4 "PlainWarehouseModel") (hT : (jT x)[0]? = some (cA, .int)) (hR : jR x = rm_M_copy)  (c1 : Int32) (c2 : Int32) (σ : SM) (v3 : Int32) {u3 : Int32} {τ : SM} (n : Nat) (h : lp (fun s => b_M_copy_82 c1 c2 s.1 s.2) n (v3, σ) = some (u3, τ)) (K : jW x 4 0 0 160 [(0, .ref (bd 0)), (1, .int c1), (2, .int c2), (3, .int u3)] [] ((wP ad cA σ0) ++ ((wM bd cA τ) ++ wr))) : jW x 4 0 0 82 [(0, .ref (bd 0)), (1, .int c1), (2, .int c2), (3, .int v3)] [] ((wP ad cA σ0) ++ ((wM bd cA σ) ++ wr)) :=
  j_lp (Pr := fun s => jW x 4 0 0 82 [(0, .ref (bd 0)), (1, .int c1), (2, .int c2), (3, .int s.1)] [] ((wP ad cA σ0) ++ ((wM bd cA s.2) ++ wr))) (K := fun s => jW x 4 0 0 160 [(0, .ref (bd 0)), (1, .int c1), (2, .int c2), (3, .int s.1)] [] ((wP ad cA σ0) ++ ((wM bd cA s.2) ++ wr))) (fun s o h kc ke => wb_M_copy_82 C hT hR c1 c2 s.2 s.1 h (fun u3 τ e => kc _ e) (fun u3 τ e => ke _ e)) n _ _ h K
set_option maxHeartbeats 4000000 in
set_option maxRecDepth 100000 in
theorem wb_M_copy_162 {x : JX} {bd : Nat → Nat} {cA : ClassId} {ad : Nat → Nat} {σ0 : SP} {wr : va_W} (C : jC x cc_M_copy 4 "PlainWarehouseModel") (hT : (jT x)[0]? = some (cA, .int)) (hR : jR x = rm_M_copy)  (c1 : Int32) (c2 : Int32) (σ : SM) (v3 : Int32) {o : (Int32 × SM) ⊕ (Int32 × SM)} (h : b_M_copy_162 c1 c2 v3 σ = some o) (kc : ∀ (u3 : Int32) (τ : SM), o = .inl (u3, τ) → jW x 4 0 0 162 [(0, .ref (bd 0)), (1, .int c1), (2, .int c2), (3, .int u3)] [] ((wP ad cA σ0) ++ ((wM bd cA τ) ++ wr))) (ke : ∀ (u3 : Int32) (τ : SM), o = .inr (u3, τ) → jW x 4 0 0 193 [(0, .ref (bd 0)), (1, .int c1), (2, .int c2), (3, .int u3)] [] ((wP ad cA σ0) ++ ((wM bd cA τ) ++ wr))) : jW x 4 0 0 162 [(0, .ref (bd 0)), (1, .int c1), (2, .int c2), (3, .int v3)] [] ((wP ad cA σ0) ++ ((wM bd cA σ) ++ wr)) := by
  unfold b_M_copy_162 at h
  refine j_iload_n C 3 d_M_copy_162 rfl rfl rfl ?_
  refine j_iconst (v := 4) C d_M_copy_163 rfl (by decide) ?_
  refine j_icmp_ge (tgt := 193) C d_M_copy_164 (by decide) rfl h (fun h => ?_) (fun h => ?_)
  · cases h
    refine j_sub [0, 1, 2, 3] rfl (ke _ _ rfl)
  · refine j_aload_n C 0 d_M_copy_167 rfl rfl rfl ?_
    refine j_get C in_M 18 rfl rfl 13 (by decide) tw_588 rfl (v := .ref (bd 11)) rfl d_M_copy_168 rfl ?_
    refine j_iconst (v := 4) C d_M_copy_171 rfl (by decide) ?_
    refine j_iload_n C 2 d_M_copy_172 rfl rfl rfl ?_
    refine j_imul C d_M_copy_173 rfl ?_
    refine j_iload_n C 3 d_M_copy_174 rfl rfl rfl ?_
    refine j_iadd C d_M_copy_175 rfl ?_
    refine j_aload_n C 0 d_M_copy_176 rfl rfl rfl ?_
    refine j_get C in_M 18 rfl rfl 13 (by decide) tw_588 rfl (v := .ref (bd 11)) rfl d_M_copy_177 rfl ?_
    refine j_iconst (v := 4) C d_M_copy_180 rfl (by decide) ?_
    refine j_iload_n C 1 d_M_copy_181 rfl rfl rfl ?_
    refine j_imul C d_M_copy_182 rfl ?_
    refine j_iload_n C 3 d_M_copy_183 rfl rfl rfl ?_
    refine j_iadd C d_M_copy_184 rfl ?_
    refine j_iald C 29 0 rfl hT d_M_copy_185 rfl h (fun r19 h => ?_)
    refine j_iast C (fun t => (wP ad cA σ0) ++ ((wM bd cA t) ++ wr)) 29 0 rfl hT d_M_copy_186 rfl h rfl (fun σ20 h => ?_)
    refine j_iinc (v' := (v3 + 1)) (lv' := [(3, .int (v3 + 1)), (0, .ref (bd 0)), (1, .int c1), (2, .int c2)]) C 3 d_M_copy_187 rfl rfl rfl (by decide) rfl ?_
    refine j_goto (tgt := 162) C d_M_copy_190 (by decide) ?_
    cases h
    refine j_sub [1, 2, 3, 0] rfl (kc _ _ rfl)
set_option maxRecDepth 100000 in
theorem wl_M_copy_162 {x : JX} {bd : Nat → Nat} {cA : ClassId} {ad : Nat → Nat} {σ0 : SP} {wr : va_W} (C : jC x cc_M_copy 4 "PlainWarehouseModel") (hT : (jT x)[0]? = some (cA, .int)) (hR : jR x = rm_M_copy)  (c1 : Int32) (c2 : Int32) (σ : SM) (v3 : Int32) {u3 : Int32} {τ : SM} (n : Nat) (h : lp (fun s => b_M_copy_162 c1 c2 s.1 s.2) n (v3, σ) = some (u3, τ)) (K : jW x 4 0 0 193 [(0, .ref (bd 0)), (1, .int c1), (2, .int c2), (3, .int u3)] [] ((wP ad cA σ0) ++ ((wM bd cA τ) ++ wr))) : jW x 4 0 0 162 [(0, .ref (bd 0)), (1, .int c1), (2, .int c2), (3, .int v3)] [] ((wP ad cA σ0) ++ ((wM bd cA σ) ++ wr)) :=
  j_lp (Pr := fun s => jW x 4 0 0 162 [(0, .ref (bd 0)), (1, .int c1), (2, .int c2), (3, .int s.1)] [] ((wP ad cA σ0) ++ ((wM bd cA s.2) ++ wr))) (K := fun s => jW x 4 0 0 193 [(0, .ref (bd 0)), (1, .int c1), (2, .int c2), (3, .int s.1)] [] ((wP ad cA σ0) ++ ((wM bd cA s.2) ++ wr))) (fun s o h kc ke => wb_M_copy_162 C hT hR c1 c2 s.2 s.1 h (fun u3 τ e => kc _ e) (fun u3 τ e => ke _ e)) n _ _ h K
set_option maxHeartbeats 4000000 in
set_option maxRecDepth 100000 in
theorem wb_M_copy_195 {x : JX} {bd : Nat → Nat} {cA : ClassId} {ad : Nat → Nat} {σ0 : SP} {wr : va_W} (C : jC x cc_M_copy 4 "PlainWarehouseModel") (hT : (jT x)[0]? = some (cA, .int)) (hR : jR x = rm_M_copy)  (c1 : Int32) (c2 : Int32) (σ : SM) (v3 : Int32) {o : (Int32 × SM) ⊕ (Int32 × SM)} (h : b_M_copy_195 c1 c2 v3 σ = some o) (kc : ∀ (u3 : Int32) (τ : SM), o = .inl (u3, τ) → jW x 4 0 0 195 [(0, .ref (bd 0)), (1, .int c1), (2, .int c2), (3, .int u3)] [] ((wP ad cA σ0) ++ ((wM bd cA τ) ++ wr))) (ke : ∀ (u3 : Int32) (τ : SM), o = .inr (u3, τ) → jW x 4 0 0 229 [(0, .ref (bd 0)), (1, .int c1), (2, .int c2), (3, .int u3)] [] ((wP ad cA σ0) ++ ((wM bd cA τ) ++ wr))) : jW x 4 0 0 195 [(0, .ref (bd 0)), (1, .int c1), (2, .int c2), (3, .int v3)] [] ((wP ad cA σ0) ++ ((wM bd cA σ) ++ wr)) := by
  unfold b_M_copy_195 at h
  refine j_iload_n C 3 d_M_copy_195 rfl rfl rfl ?_
  refine j_bipush (v := 100) C d_M_copy_196 rfl (by decide) ?_
  refine j_icmp_ge (tgt := 229) C d_M_copy_198 (by decide) rfl h (fun h => ?_) (fun h => ?_)
  · cases h
    refine j_sub [0, 1, 2, 3] rfl (ke _ _ rfl)
  · refine j_aload_n C 0 d_M_copy_201 rfl rfl rfl ?_
    refine j_get C in_M 18 rfl rfl 14 (by decide) tw_589 rfl (v := .ref (bd 12)) rfl d_M_copy_202 rfl ?_
    refine j_bipush (v := 100) C d_M_copy_205 rfl (by decide) ?_
    refine j_iload_n C 2 d_M_copy_207 rfl rfl rfl ?_
    refine j_imul C d_M_copy_208 rfl ?_
    refine j_iload_n C 3 d_M_copy_209 rfl rfl rfl ?_
    refine j_iadd C d_M_copy_210 rfl ?_
    refine j_aload_n C 0 d_M_copy_211 rfl rfl rfl ?_
    refine j_get C in_M 18 rfl rfl 14 (by decide) tw_589 rfl (v := .ref (bd 12)) rfl d_M_copy_212 rfl ?_
    refine j_bipush (v := 100) C d_M_copy_215 rfl (by decide) ?_
    refine j_iload_n C 1 d_M_copy_217 rfl rfl rfl ?_
    refine j_imul C d_M_copy_218 rfl ?_
    refine j_iload_n C 3 d_M_copy_219 rfl rfl rfl ?_
    refine j_iadd C d_M_copy_220 rfl ?_
    refine j_iald C 30 0 rfl hT d_M_copy_221 rfl h (fun r24 h => ?_)
    refine j_iast C (fun t => (wP ad cA σ0) ++ ((wM bd cA t) ++ wr)) 30 0 rfl hT d_M_copy_222 rfl h rfl (fun σ25 h => ?_)
    refine j_iinc (v' := (v3 + 1)) (lv' := [(3, .int (v3 + 1)), (0, .ref (bd 0)), (1, .int c1), (2, .int c2)]) C 3 d_M_copy_223 rfl rfl rfl (by decide) rfl ?_
    refine j_goto (tgt := 195) C d_M_copy_226 (by decide) ?_
    cases h
    refine j_sub [1, 2, 3, 0] rfl (kc _ _ rfl)
set_option maxRecDepth 100000 in
theorem wl_M_copy_195 {x : JX} {bd : Nat → Nat} {cA : ClassId} {ad : Nat → Nat} {σ0 : SP} {wr : va_W} (C : jC x cc_M_copy 4 "PlainWarehouseModel") (hT : (jT x)[0]? = some (cA, .int)) (hR : jR x = rm_M_copy)  (c1 : Int32) (c2 : Int32) (σ : SM) (v3 : Int32) {u3 : Int32} {τ : SM} (n : Nat) (h : lp (fun s => b_M_copy_195 c1 c2 s.1 s.2) n (v3, σ) = some (u3, τ)) (K : jW x 4 0 0 229 [(0, .ref (bd 0)), (1, .int c1), (2, .int c2), (3, .int u3)] [] ((wP ad cA σ0) ++ ((wM bd cA τ) ++ wr))) : jW x 4 0 0 195 [(0, .ref (bd 0)), (1, .int c1), (2, .int c2), (3, .int v3)] [] ((wP ad cA σ0) ++ ((wM bd cA σ) ++ wr)) :=
  j_lp (Pr := fun s => jW x 4 0 0 195 [(0, .ref (bd 0)), (1, .int c1), (2, .int c2), (3, .int s.1)] [] ((wP ad cA σ0) ++ ((wM bd cA s.2) ++ wr))) (K := fun s => jW x 4 0 0 229 [(0, .ref (bd 0)), (1, .int c1), (2, .int c2), (3, .int s.1)] [] ((wP ad cA σ0) ++ ((wM bd cA s.2) ++ wr))) (fun s o h kc ke => wb_M_copy_195 C hT hR c1 c2 s.2 s.1 h (fun u3 τ e => kc _ e) (fun u3 τ e => ke _ e)) n _ _ h K
set_option maxHeartbeats 4000000 in
set_option maxRecDepth 100000 in
theorem w_M_copy {x : JX} {bd : Nat → Nat} {cA : ClassId} {ad : Nat → Nat} {σ0 : SP} {wr : va_W} (C : jC x cc_M_copy 4 "PlainWarehouseModel") (hT : (jT x)[0]? = some (cA, .int)) (hR : jR x = rm_M_copy)  (a1 : Int32) (a2 : Int32) (σ : SM) {σ' : SM} (hr : (jt x).sig.returnType = none) (E : jE x 0 0 none ((wP ad cA σ0) ++ ((wM bd cA σ') ++ wr))) (h : m_M_copy a1 a2 σ = some σ') : jW x 4 0 0 0 [(0, .ref (bd 0)), (1, .int a1), (2, .int a2)] [] ((wP ad cA σ0) ++ ((wM bd cA σ) ++ wr)) := by
  unfold m_M_copy at h
  refine j_iconst (v := 0) C d_M_copy_0 rfl (by decide) ?_
  refine j_istore_n (lv' := [(3, .int (0 : Int32)), (0, .ref (bd 0)), (1, .int a1), (2, .int a2)]) C d_M_copy_1 rfl rfl (by decide) rfl ?_
  obtain ⟨w7, σ8, h9, h⟩ := mb2_some h
  refine j_sub [1, 2, 3, 0] rfl (wl_M_copy_2 C hT hR a1 a2 σ (0 : Int32) FU h9 ?_)
  refine j_iconst (v := 0) C d_M_copy_80 rfl (by decide) ?_
  refine j_istore_n (lv' := [(3, .int (0 : Int32)), (0, .ref (bd 0)), (1, .int a1), (2, .int a2)]) C d_M_copy_81 rfl rfl (by decide) rfl ?_
  obtain ⟨w16, σ17, h18, h⟩ := mb2_some h
  refine j_sub [1, 2, 3, 0] rfl (wl_M_copy_82 C hT hR a1 a2 σ8 (0 : Int32) FU h18 ?_)
  refine j_iconst (v := 0) C d_M_copy_160 rfl (by decide) ?_
  refine j_istore_n (lv' := [(3, .int (0 : Int32)), (0, .ref (bd 0)), (1, .int a1), (2, .int a2)]) C d_M_copy_161 rfl rfl (by decide) rfl ?_
  obtain ⟨w21, σ22, h23, h⟩ := mb2_some h
  refine j_sub [1, 2, 3, 0] rfl (wl_M_copy_162 C hT hR a1 a2 σ17 (0 : Int32) FU h23 ?_)
  refine j_iconst (v := 0) C d_M_copy_193 rfl (by decide) ?_
  refine j_istore_n (lv' := [(3, .int (0 : Int32)), (0, .ref (bd 0)), (1, .int a1), (2, .int a2)]) C d_M_copy_194 rfl rfl (by decide) rfl ?_
  obtain ⟨w26, σ27, h28, h⟩ := mb2_some h
  refine j_sub [1, 2, 3, 0] rfl (wl_M_copy_195 C hT hR a1 a2 σ22 (0 : Int32) FU h28 ?_)
  cases h
  exact j_vret C E hr d_M_copy_229
theorem ct_M_copy (l : Launch) (D : va_G) (tys : List (ClassId × FieldType)) {bd : Nat → Nat} {cA : ClassId} {ad : Nat → Nat} {σ0 : SP} {wr : va_W} (hT : tys[0]? = some (cA, .int)) (a1 : Int32) (a2 : Int32) (σ : SM) {σ' : SM} (h : m_M_copy a1 a2 σ = some σ') : jM l y_M_copy ws_M_copy rm_M_copy D tys [.ref (bd 0), .int a1, .int a2] ((wP ad cA σ0) ++ ((wM bd cA σ) ++ wr)) none ((wP ad cA σ0) ++ ((wM bd cA σ') ++ wr)) :=
  j_of (by decide +kernel) rfl (Nat.le_of_ble_eq_true rfl) rfl (fun x _ _ hT' hR C hr _ E => w_M_copy C (by rw [hT']; exact hT) hR a1 a2 σ hr E h)
def rm_M_apply : Room := { frames := 0, cells := 0, slots := 0, locals := 0 }
def m_M_apply (a1 : Int32) (a2 : Int32) (a3 : Int32) (a4 : Int32) (a5 : Int32) (σ : SM) : Option (SM) :=
  (if a2 = 0 then (mck 1240 (((20 : Int32) * a1) + a3) (mlet (u_mpl σ (upd (g_mpl σ) (((20 : Int32) * a1) + a3).toNatClampNeg a5)) fun σ14 => (mck 1240 (((20 : Int32) * a1) + a3) (mlet (u_mgd σ14 (upd (g_mgd σ14) (((20 : Int32) * a1) + a3).toNatClampNeg a4)) fun σ15 => (mck 1240 (((20 : Int32) * a1) + a3) (mlet (u_mgv σ15 (upd (g_mgv σ15) (((20 : Int32) * a1) + a3).toNatClampNeg (-1 : Int32))) fun σ16 => some σ16)))))) else (if a2 = (1 : Int32) then (mck 1240 (((20 : Int32) * a1) + a3) (mlet (u_mpl σ (upd (g_mpl σ) (((20 : Int32) * a1) + a3).toNatClampNeg a4)) fun σ13 => some σ13)) else (if a2 = (2 : Int32) then (mck 1240 (((20 : Int32) * a1) + a3) (mlet (u_mpl σ (upd (g_mpl σ) (((20 : Int32) * a1) + a3).toNatClampNeg (-1 : Int32))) fun σ11 => (mck 1240 (((20 : Int32) * a1) + a3) (mlet (u_mgv σ11 (upd (g_mgv σ11) (((20 : Int32) * a1) + a3).toNatClampNeg (-1 : Int32))) fun σ12 => some σ12)))) else (if a2 = (3 : Int32) then (mck 620 (((10 : Int32) * a1) + a3) (mlet (u_mwa σ (upd (g_mwa σ) (((10 : Int32) * a1) + a3).toNatClampNeg a4)) fun σ8 => (mck 620 (((10 : Int32) * a1) + a3) (mlet (u_mog σ8 (upd (g_mog σ8) (((10 : Int32) * a1) + a3).toNatClampNeg a5)) fun σ9 => (mck 620 (((10 : Int32) * a1) + a3) (mlet (u_mgt σ9 (upd (g_mgt σ9) (((10 : Int32) * a1) + a3).toNatClampNeg (0 : Int32))) fun σ10 => some σ10)))))) else (if a2 = (4 : Int32) then (mck 1240 (((20 : Int32) * a1) + a3) (mlet (u_mgv σ (upd (g_mgv σ) (((20 : Int32) * a1) + a3).toNatClampNeg a4)) fun σ5 => (mrd 620 (g_mgt σ5) (((10 : Int32) * a1) + a4) fun r6 => (mck 620 (((10 : Int32) * a1) + a4) (mlet (u_mgt σ5 (upd (g_mgt σ5) (((10 : Int32) * a1) + a4).toNatClampNeg (r6 + (1 : Int32)))) fun σ7 => some σ7))))) else (if a2 = (5 : Int32) then (mrd 248 (g_mce σ) (((4 : Int32) * a1) + a3) fun r3 => (mck 248 (((4 : Int32) * a1) + a3) (mlet (u_mce σ (upd (g_mce σ) (((4 : Int32) * a1) + a3).toNatClampNeg (r3 + a4))) fun σ4 => some σ4))) else (mck 6200 ((((100 : Int32) * a1) + ((10 : Int32) * a3)) + a4) (mlet (u_mlk σ (upd (g_mlk σ) ((((100 : Int32) * a1) + ((10 : Int32) * a3)) + a4).toNatClampNeg a5)) fun σ1 => (mck 6200 ((((100 : Int32) * a1) + ((10 : Int32) * a4)) + a3) (mlet (u_mlk σ1 (upd (g_mlk σ1) ((((100 : Int32) * a1) + ((10 : Int32) * a4)) + a3).toNatClampNeg a5)) fun σ2 => some σ2))))))))))
set_option maxHeartbeats 4000000 in
set_option maxRecDepth 100000 in
theorem w_M_apply {x : JX} {bd : Nat → Nat} {cA : ClassId} {ad : Nat → Nat} {σ0 : SP} {wr : va_W} (C : jC x cc_M_apply 6 "PlainWarehouseModel") (hT : (jT x)[0]? = some (cA, .int)) (hR : jR x = rm_M_apply)  (a1 : Int32) (a2 : Int32) (a3 : Int32) (a4 : Int32) (a5 : Int32) (σ : SM) {σ' : SM} (hr : (jt x).sig.returnType = none) (E : jE x 0 0 none ((wP ad cA σ0) ++ ((wM bd cA σ') ++ wr))) (h : m_M_apply a1 a2 a3 a4 a5 σ = some σ') : jW x 6 0 0 0 [(0, .ref (bd 0)), (1, .int a1), (2, .int a2), (3, .int a3), (4, .int a4), (5, .int a5)] [] ((wP ad cA σ0) ++ ((wM bd cA σ) ++ wr)) := by
  unfold m_M_apply at h
  refine j_iload_n C 2 d_M_apply_0 rfl rfl rfl ?_
  refine j_if_ne (tgt := 45) C d_M_apply_1 (by decide) rfl h (fun h => ?_) (fun h => ?_)
  · refine j_iload_n C 2 d_M_apply_45 rfl rfl rfl ?_
    refine j_iconst (v := 1) C d_M_apply_46 rfl (by decide) ?_
    refine j_icmp_ne (tgt := 66) C d_M_apply_47 (by decide) rfl h (fun h => ?_) (fun h => ?_)
    · refine j_iload_n C 2 d_M_apply_66 rfl rfl rfl ?_
      refine j_iconst (v := 2) C d_M_apply_67 rfl (by decide) ?_
      refine j_icmp_ne (tgt := 98) C d_M_apply_68 (by decide) rfl h (fun h => ?_) (fun h => ?_)
      · refine j_iload_n C 2 d_M_apply_98 rfl rfl rfl ?_
        refine j_iconst (v := 3) C d_M_apply_99 rfl (by decide) ?_
        refine j_icmp_ne (tgt := 144) C d_M_apply_100 (by decide) rfl h (fun h => ?_) (fun h => ?_)
        · refine j_iload_n C 2 d_M_apply_144 rfl rfl rfl ?_
          refine j_iconst (v := 4) C d_M_apply_145 rfl (by decide) ?_
          refine j_icmp_ne (tgt := 181) C d_M_apply_146 (by decide) rfl h (fun h => ?_) (fun h => ?_)
          · refine j_iload_n C 2 d_M_apply_181 rfl rfl rfl ?_
            refine j_iconst (v := 5) C d_M_apply_182 rfl (by decide) ?_
            refine j_icmp_ne (tgt := 204) C d_M_apply_183 (by decide) rfl h (fun h => ?_) (fun h => ?_)
            · refine j_aload_n C 0 d_M_apply_204 rfl rfl rfl ?_
              refine j_get C in_M 18 rfl rfl 14 (by decide) tw_589 rfl (v := .ref (bd 12)) rfl d_M_apply_205 rfl ?_
              refine j_bipush (v := 100) C d_M_apply_208 rfl (by decide) ?_
              refine j_iload_n C 1 d_M_apply_210 rfl rfl rfl ?_
              refine j_imul C d_M_apply_211 rfl ?_
              refine j_bipush (v := 10) C d_M_apply_212 rfl (by decide) ?_
              refine j_iload_n C 3 d_M_apply_214 rfl rfl rfl ?_
              refine j_imul C d_M_apply_215 rfl ?_
              refine j_iadd C d_M_apply_216 rfl ?_
              refine j_iload C 4 d_M_apply_217 rfl rfl ?_
              refine j_iadd C d_M_apply_219 rfl ?_
              refine j_iload C 5 d_M_apply_220 rfl rfl ?_
              refine j_iast C (fun t => (wP ad cA σ0) ++ ((wM bd cA t) ++ wr)) 30 0 rfl hT d_M_apply_222 rfl h rfl (fun σ1 h => ?_)
              refine j_aload_n C 0 d_M_apply_223 rfl rfl rfl ?_
              refine j_get C in_M 18 rfl rfl 14 (by decide) tw_589 rfl (v := .ref (bd 12)) rfl d_M_apply_224 rfl ?_
              refine j_bipush (v := 100) C d_M_apply_227 rfl (by decide) ?_
              refine j_iload_n C 1 d_M_apply_229 rfl rfl rfl ?_
              refine j_imul C d_M_apply_230 rfl ?_
              refine j_bipush (v := 10) C d_M_apply_231 rfl (by decide) ?_
              refine j_iload C 4 d_M_apply_233 rfl rfl ?_
              refine j_imul C d_M_apply_235 rfl ?_
              refine j_iadd C d_M_apply_236 rfl ?_
              refine j_iload_n C 3 d_M_apply_237 rfl rfl rfl ?_
              refine j_iadd C d_M_apply_238 rfl ?_
              refine j_iload C 5 d_M_apply_239 rfl rfl ?_
              refine j_iast C (fun t => (wP ad cA σ0) ++ ((wM bd cA t) ++ wr)) 30 0 rfl hT d_M_apply_241 rfl h rfl (fun σ2 h => ?_)
              cases h
              exact j_vret C E hr d_M_apply_242
            · refine j_aload_n C 0 d_M_apply_186 rfl rfl rfl ?_
              refine j_get C in_M 18 rfl rfl 13 (by decide) tw_588 rfl (v := .ref (bd 11)) rfl d_M_apply_187 rfl ?_
              refine j_iconst (v := 4) C d_M_apply_190 rfl (by decide) ?_
              refine j_iload_n C 1 d_M_apply_191 rfl rfl rfl ?_
              refine j_imul C d_M_apply_192 rfl ?_
              refine j_iload_n C 3 d_M_apply_193 rfl rfl rfl ?_
              refine j_iadd C d_M_apply_194 rfl ?_
              refine j_dup2 C d_M_apply_195 rfl rfl rfl ?_
              refine j_iald C 29 0 rfl hT d_M_apply_196 rfl h (fun r3 h => ?_)
              refine j_iload C 4 d_M_apply_197 rfl rfl ?_
              refine j_iadd C d_M_apply_199 rfl ?_
              refine j_iast C (fun t => (wP ad cA σ0) ++ ((wM bd cA t) ++ wr)) 29 0 rfl hT d_M_apply_200 rfl h rfl (fun σ4 h => ?_)
              refine j_goto (tgt := 242) C d_M_apply_201 (by decide) ?_
              cases h
              exact j_vret C E hr d_M_apply_242
          · refine j_aload_n C 0 d_M_apply_149 rfl rfl rfl ?_
            refine j_get C in_M 18 rfl rfl 9 (by decide) tw_584 rfl (v := .ref (bd 7)) rfl d_M_apply_150 rfl ?_
            refine j_bipush (v := 20) C d_M_apply_153 rfl (by decide) ?_
            refine j_iload_n C 1 d_M_apply_155 rfl rfl rfl ?_
            refine j_imul C d_M_apply_156 rfl ?_
            refine j_iload_n C 3 d_M_apply_157 rfl rfl rfl ?_
            refine j_iadd C d_M_apply_158 rfl ?_
            refine j_iload C 4 d_M_apply_159 rfl rfl ?_
            refine j_iast C (fun t => (wP ad cA σ0) ++ ((wM bd cA t) ++ wr)) 25 0 rfl hT d_M_apply_161 rfl h rfl (fun σ5 h => ?_)
            refine j_aload_n C 0 d_M_apply_162 rfl rfl rfl ?_
            refine j_get C in_M 18 rfl rfl 12 (by decide) tw_587 rfl (v := .ref (bd 10)) rfl d_M_apply_163 rfl ?_
            refine j_bipush (v := 10) C d_M_apply_166 rfl (by decide) ?_
            refine j_iload_n C 1 d_M_apply_168 rfl rfl rfl ?_
            refine j_imul C d_M_apply_169 rfl ?_
            refine j_iload C 4 d_M_apply_170 rfl rfl ?_
            refine j_iadd C d_M_apply_172 rfl ?_
            refine j_dup2 C d_M_apply_173 rfl rfl rfl ?_
            refine j_iald C 28 0 rfl hT d_M_apply_174 rfl h (fun r6 h => ?_)
            refine j_iconst (v := 1) C d_M_apply_175 rfl (by decide) ?_
            refine j_iadd C d_M_apply_176 rfl ?_
            refine j_iast C (fun t => (wP ad cA σ0) ++ ((wM bd cA t) ++ wr)) 28 0 rfl hT d_M_apply_177 rfl h rfl (fun σ7 h => ?_)
            refine j_goto (tgt := 242) C d_M_apply_178 (by decide) ?_
            cases h
            exact j_vret C E hr d_M_apply_242
        · refine j_aload_n C 0 d_M_apply_103 rfl rfl rfl ?_
          refine j_get C in_M 18 rfl rfl 10 (by decide) tw_585 rfl (v := .ref (bd 8)) rfl d_M_apply_104 rfl ?_
          refine j_bipush (v := 10) C d_M_apply_107 rfl (by decide) ?_
          refine j_iload_n C 1 d_M_apply_109 rfl rfl rfl ?_
          refine j_imul C d_M_apply_110 rfl ?_
          refine j_iload_n C 3 d_M_apply_111 rfl rfl rfl ?_
          refine j_iadd C d_M_apply_112 rfl ?_
          refine j_iload C 4 d_M_apply_113 rfl rfl ?_
          refine j_iast C (fun t => (wP ad cA σ0) ++ ((wM bd cA t) ++ wr)) 26 0 rfl hT d_M_apply_115 rfl h rfl (fun σ8 h => ?_)
          refine j_aload_n C 0 d_M_apply_116 rfl rfl rfl ?_
          refine j_get C in_M 18 rfl rfl 11 (by decide) tw_586 rfl (v := .ref (bd 9)) rfl d_M_apply_117 rfl ?_
          refine j_bipush (v := 10) C d_M_apply_120 rfl (by decide) ?_
          refine j_iload_n C 1 d_M_apply_122 rfl rfl rfl ?_
          refine j_imul C d_M_apply_123 rfl ?_
          refine j_iload_n C 3 d_M_apply_124 rfl rfl rfl ?_
          refine j_iadd C d_M_apply_125 rfl ?_
          refine j_iload C 5 d_M_apply_126 rfl rfl ?_
          refine j_iast C (fun t => (wP ad cA σ0) ++ ((wM bd cA t) ++ wr)) 27 0 rfl hT d_M_apply_128 rfl h rfl (fun σ9 h => ?_)
          refine j_aload_n C 0 d_M_apply_129 rfl rfl rfl ?_
          refine j_get C in_M 18 rfl rfl 12 (by decide) tw_587 rfl (v := .ref (bd 10)) rfl d_M_apply_130 rfl ?_
          refine j_bipush (v := 10) C d_M_apply_133 rfl (by decide) ?_
          refine j_iload_n C 1 d_M_apply_135 rfl rfl rfl ?_
          refine j_imul C d_M_apply_136 rfl ?_
          refine j_iload_n C 3 d_M_apply_137 rfl rfl rfl ?_
          refine j_iadd C d_M_apply_138 rfl ?_
          refine j_iconst (v := 0) C d_M_apply_139 rfl (by decide) ?_
          refine j_iast C (fun t => (wP ad cA σ0) ++ ((wM bd cA t) ++ wr)) 28 0 rfl hT d_M_apply_140 rfl h rfl (fun σ10 h => ?_)
          refine j_goto (tgt := 242) C d_M_apply_141 (by decide) ?_
          cases h
          exact j_vret C E hr d_M_apply_242
      · refine j_aload_n C 0 d_M_apply_71 rfl rfl rfl ?_
        refine j_get C in_M 18 rfl rfl 7 (by decide) tw_582 rfl (v := .ref (bd 5)) rfl d_M_apply_72 rfl ?_
        refine j_bipush (v := 20) C d_M_apply_75 rfl (by decide) ?_
        refine j_iload_n C 1 d_M_apply_77 rfl rfl rfl ?_
        refine j_imul C d_M_apply_78 rfl ?_
        refine j_iload_n C 3 d_M_apply_79 rfl rfl rfl ?_
        refine j_iadd C d_M_apply_80 rfl ?_
        refine j_iconst (v := (-1)) C d_M_apply_81 rfl (by decide) ?_
        refine j_iast C (fun t => (wP ad cA σ0) ++ ((wM bd cA t) ++ wr)) 23 0 rfl hT d_M_apply_82 rfl h rfl (fun σ11 h => ?_)
        refine j_aload_n C 0 d_M_apply_83 rfl rfl rfl ?_
        refine j_get C in_M 18 rfl rfl 9 (by decide) tw_584 rfl (v := .ref (bd 7)) rfl d_M_apply_84 rfl ?_
        refine j_bipush (v := 20) C d_M_apply_87 rfl (by decide) ?_
        refine j_iload_n C 1 d_M_apply_89 rfl rfl rfl ?_
        refine j_imul C d_M_apply_90 rfl ?_
        refine j_iload_n C 3 d_M_apply_91 rfl rfl rfl ?_
        refine j_iadd C d_M_apply_92 rfl ?_
        refine j_iconst (v := (-1)) C d_M_apply_93 rfl (by decide) ?_
        refine j_iast C (fun t => (wP ad cA σ0) ++ ((wM bd cA t) ++ wr)) 25 0 rfl hT d_M_apply_94 rfl h rfl (fun σ12 h => ?_)
        refine j_goto (tgt := 242) C d_M_apply_95 (by decide) ?_
        cases h
        exact j_vret C E hr d_M_apply_242
    · refine j_aload_n C 0 d_M_apply_50 rfl rfl rfl ?_
      refine j_get C in_M 18 rfl rfl 7 (by decide) tw_582 rfl (v := .ref (bd 5)) rfl d_M_apply_51 rfl ?_
      refine j_bipush (v := 20) C d_M_apply_54 rfl (by decide) ?_
      refine j_iload_n C 1 d_M_apply_56 rfl rfl rfl ?_
      refine j_imul C d_M_apply_57 rfl ?_
      refine j_iload_n C 3 d_M_apply_58 rfl rfl rfl ?_
      refine j_iadd C d_M_apply_59 rfl ?_
      refine j_iload C 4 d_M_apply_60 rfl rfl ?_
      refine j_iast C (fun t => (wP ad cA σ0) ++ ((wM bd cA t) ++ wr)) 23 0 rfl hT d_M_apply_62 rfl h rfl (fun σ13 h => ?_)
      refine j_goto (tgt := 242) C d_M_apply_63 (by decide) ?_
      cases h
      exact j_vret C E hr d_M_apply_242
  · refine j_aload_n C 0 d_M_apply_4 rfl rfl rfl ?_
    refine j_get C in_M 18 rfl rfl 7 (by decide) tw_582 rfl (v := .ref (bd 5)) rfl d_M_apply_5 rfl ?_
    refine j_bipush (v := 20) C d_M_apply_8 rfl (by decide) ?_
    refine j_iload_n C 1 d_M_apply_10 rfl rfl rfl ?_
    refine j_imul C d_M_apply_11 rfl ?_
    refine j_iload_n C 3 d_M_apply_12 rfl rfl rfl ?_
    refine j_iadd C d_M_apply_13 rfl ?_
    refine j_iload C 5 d_M_apply_14 rfl rfl ?_
    refine j_iast C (fun t => (wP ad cA σ0) ++ ((wM bd cA t) ++ wr)) 23 0 rfl hT d_M_apply_16 rfl h rfl (fun σ14 h => ?_)
    refine j_aload_n C 0 d_M_apply_17 rfl rfl rfl ?_
    refine j_get C in_M 18 rfl rfl 8 (by decide) tw_583 rfl (v := .ref (bd 6)) rfl d_M_apply_18 rfl ?_
    refine j_bipush (v := 20) C d_M_apply_21 rfl (by decide) ?_
    refine j_iload_n C 1 d_M_apply_23 rfl rfl rfl ?_
    refine j_imul C d_M_apply_24 rfl ?_
    refine j_iload_n C 3 d_M_apply_25 rfl rfl rfl ?_
    refine j_iadd C d_M_apply_26 rfl ?_
    refine j_iload C 4 d_M_apply_27 rfl rfl ?_
    refine j_iast C (fun t => (wP ad cA σ0) ++ ((wM bd cA t) ++ wr)) 24 0 rfl hT d_M_apply_29 rfl h rfl (fun σ15 h => ?_)
    refine j_aload_n C 0 d_M_apply_30 rfl rfl rfl ?_
    refine j_get C in_M 18 rfl rfl 9 (by decide) tw_584 rfl (v := .ref (bd 7)) rfl d_M_apply_31 rfl ?_
    refine j_bipush (v := 20) C d_M_apply_34 rfl (by decide) ?_
    refine j_iload_n C 1 d_M_apply_36 rfl rfl rfl ?_
    refine j_imul C d_M_apply_37 rfl ?_
    refine j_iload_n C 3 d_M_apply_38 rfl rfl rfl ?_
    refine j_iadd C d_M_apply_39 rfl ?_
    refine j_iconst (v := (-1)) C d_M_apply_40 rfl (by decide) ?_
    refine j_iast C (fun t => (wP ad cA σ0) ++ ((wM bd cA t) ++ wr)) 25 0 rfl hT d_M_apply_41 rfl h rfl (fun σ16 h => ?_)
    refine j_goto (tgt := 242) C d_M_apply_42 (by decide) ?_
    cases h
    exact j_vret C E hr d_M_apply_242
theorem ct_M_apply (l : Launch) (D : va_G) (tys : List (ClassId × FieldType)) {bd : Nat → Nat} {cA : ClassId} {ad : Nat → Nat} {σ0 : SP} {wr : va_W} (hT : tys[0]? = some (cA, .int)) (a1 : Int32) (a2 : Int32) (a3 : Int32) (a4 : Int32) (a5 : Int32) (σ : SM) {σ' : SM} (h : m_M_apply a1 a2 a3 a4 a5 σ = some σ') : jM l y_M_apply ws_M_apply rm_M_apply D tys [.ref (bd 0), .int a1, .int a2, .int a3, .int a4, .int a5] ((wP ad cA σ0) ++ ((wM bd cA σ) ++ wr)) none ((wP ad cA σ0) ++ ((wM bd cA σ') ++ wr)) :=
  j_of (by decide +kernel) rfl (Nat.le_of_ble_eq_true rfl) rfl (fun x _ _ hT' hR C hr _ E => w_M_apply C (by rw [hT']; exact hT) hR a1 a2 a3 a4 a5 σ hr E h)
