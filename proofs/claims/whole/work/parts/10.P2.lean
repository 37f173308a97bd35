set_option maxRecDepth 100000 in
theorem tw_0 : Cond.selects "PlainWarehouse" (⟨"PlainWarehouse", "replay", "(I)V"⟩ : MethodName) (⟨"PlainWarehouse", "replay", "(I)V"⟩ : MethodName) ∈ WS := ws_in 0 rfl rfl
set_option maxRecDepth 100000 in
theorem tw_1 : Cond.selects "PlainWarehouse$House" (⟨"PlainWarehouse$House", "empty", "()V"⟩ : MethodName) (⟨"PlainWarehouse$House", "empty", "()V"⟩ : MethodName) ∈ WS := ws_in 1 rfl rfl
set_option maxRecDepth 100000 in
theorem tw_2 : Cond.selects "PlainWarehouse" (⟨"PlainWarehouse", "takeKept", "(I)Z"⟩ : MethodName) (⟨"PlainWarehouse", "takeKept", "(I)Z"⟩ : MethodName) ∈ WS := ws_in 2 rfl rfl
set_option maxRecDepth 100000 in
theorem tw_3 : Cond.selects "PlainWarehouse$House" (⟨"PlainWarehouse$House", "take", "(IIII)Z"⟩ : MethodName) (⟨"PlainWarehouse$House", "take", "(IIII)Z"⟩ : MethodName) ∈ WS := ws_in 3 rfl rfl
set_option maxRecDepth 100000 in
theorem tw_12 : Cond.selects "PlainWarehouse$House" (⟨"PlainWarehouse$House", "unitsAt", "(II)I"⟩ : MethodName) (⟨"PlainWarehouse$House", "unitsAt", "(II)I"⟩ : MethodName) ∈ WS := ws_in 12 rfl rfl
set_option maxRecDepth 100000 in
theorem tw_13 : Cond.selects "PlainWarehouse$House" (⟨"PlainWarehouse$House", "toldOrders", "()I"⟩ : MethodName) (⟨"PlainWarehouse$House", "toldOrders", "()I"⟩ : MethodName) ∈ WS := ws_in 13 rfl rfl
set_option maxRecDepth 100000 in
theorem tw_14 : Cond.selects "PlainWarehouse$House" (⟨"PlainWarehouse$House", "fullOrders", "()I"⟩ : MethodName) (⟨"PlainWarehouse$House", "fullOrders", "()I"⟩ : MethodName) ∈ WS := ws_in 14 rfl rfl
set_option maxRecDepth 100000 in
theorem tw_16 : Cond.selects "PlainWarehouse$House" (⟨"PlainWarehouse$House", "linkedPairs", "()I"⟩ : MethodName) (⟨"PlainWarehouse$House", "linkedPairs", "()I"⟩ : MethodName) ∈ WS := ws_in 16 rfl rfl
set_option maxRecDepth 100000 in
theorem tw_143 : Cond.fieldLink "PlainWarehouse" (9 : Nat) "PlainWarehouse" "row" "[I" ∈ WS := ws_in 143 rfl rfl
set_option maxRecDepth 100000 in
theorem tw_144 : Cond.fieldLink "PlainWarehouse" (13 : Nat) "PlainWarehouse" "eventCount" "I" ∈ WS := ws_in 144 rfl rfl
set_option maxRecDepth 100000 in
theorem tw_145 : Cond.fieldLink "PlainWarehouse" (17 : Nat) "PlainWarehouse" "refusedCount" "I" ∈ WS := ws_in 145 rfl rfl
set_option maxRecDepth 100000 in
theorem tw_146 : Cond.fieldLink "PlainWarehouse" (23 : Nat) "PlainWarehouse" "house" "LPlainWarehouse$House;" ∈ WS := ws_in 146 rfl rfl
set_option maxRecDepth 100000 in
theorem tw_166 : Cond.methodLink "PlainWarehouse" (57 : Nat) ({ cls := "PlainWarehouse", name := "replay", desc := "(I)V" } : MethodName) ∈ WS := ws_in 166 rfl rfl
set_option maxRecDepth 100000 in
theorem tw_168 : Cond.instanceMethod ({ cls := "PlainWarehouse", name := "replay", desc := "(I)V" } : MethodName) ∈ WS := ws_in 168 rfl rfl
set_option maxRecDepth 100000 in
theorem tw_170 : Cond.methodLinkNest "PlainWarehouse" (186 : Nat) ({ cls := "PlainWarehouse$House", name := "empty", desc := "()V" } : MethodName) "PlainWarehouse" ∈ NWS := nws_in 170 rfl rfl
set_option maxRecDepth 100000 in
theorem tw_172 : Cond.instanceMethod ({ cls := "PlainWarehouse$House", name := "empty", desc := "()V" } : MethodName) ∈ WS := ws_in 172 rfl rfl
set_option maxRecDepth 100000 in
theorem tw_177 : Cond.methodLink "PlainWarehouse" (162 : Nat) ({ cls := "PlainWarehouse", name := "takeKept", desc := "(I)Z" } : MethodName) ∈ WS := ws_in 177 rfl rfl
set_option maxRecDepth 100000 in
theorem tw_179 : Cond.instanceMethod ({ cls := "PlainWarehouse", name := "takeKept", desc := "(I)Z" } : MethodName) ∈ WS := ws_in 179 rfl rfl
set_option maxRecDepth 100000 in
theorem tw_181 : Cond.methodLinkNest "PlainWarehouse" (61 : Nat) ({ cls := "PlainWarehouse$House", name := "take", desc := "(IIII)Z" } : MethodName) "PlainWarehouse" ∈ NWS := nws_in 181 rfl rfl
set_option maxRecDepth 100000 in
theorem tw_183 : Cond.instanceMethod ({ cls := "PlainWarehouse$House", name := "take", desc := "(IIII)Z" } : MethodName) ∈ WS := ws_in 183 rfl rfl
set_option maxRecDepth 100000 in
theorem tw_220 : Cond.methodLinkNest "PlainWarehouse" (79 : Nat) ({ cls := "PlainWarehouse$House", name := "unitsAt", desc := "(II)I" } : MethodName) "PlainWarehouse" ∈ NWS := nws_in 220 rfl rfl
set_option maxRecDepth 100000 in
theorem tw_222 : Cond.instanceMethod ({ cls := "PlainWarehouse$House", name := "unitsAt", desc := "(II)I" } : MethodName) ∈ WS := ws_in 222 rfl rfl
set_option maxRecDepth 100000 in
theorem tw_227 : Cond.methodLinkNest "PlainWarehouse" (176 : Nat) ({ cls := "PlainWarehouse$House", name := "toldOrders", desc := "()I" } : MethodName) "PlainWarehouse" ∈ NWS := nws_in 227 rfl rfl
set_option maxRecDepth 100000 in
theorem tw_229 : Cond.instanceMethod ({ cls := "PlainWarehouse$House", name := "toldOrders", desc := "()I" } : MethodName) ∈ WS := ws_in 229 rfl rfl
set_option maxRecDepth 100000 in
theorem tw_231 : Cond.methodLinkNest "PlainWarehouse" (180 : Nat) ({ cls := "PlainWarehouse$House", name := "fullOrders", desc := "()I" } : MethodName) "PlainWarehouse" ∈ NWS := nws_in 231 rfl rfl
set_option maxRecDepth 100000 in
theorem tw_233 : Cond.instanceMethod ({ cls := "PlainWarehouse$House", name := "fullOrders", desc := "()I" } : MethodName) ∈ WS := ws_in 233 rfl rfl
set_option maxRecDepth 100000 in
theorem tw_239 : Cond.methodLinkNest "PlainWarehouse" (183 : Nat) ({ cls := "PlainWarehouse$House", name := "linkedPairs", desc := "()I" } : MethodName) "PlainWarehouse" ∈ NWS := nws_in 239 rfl rfl
set_option maxRecDepth 100000 in
theorem tw_241 : Cond.instanceMethod ({ cls := "PlainWarehouse$House", name := "linkedPairs", desc := "()I" } : MethodName) ∈ WS := ws_in 241 rfl rfl
set_option maxRecDepth 100000 in
theorem tw_407 : Cond.methodLinkNest "PlainWarehouse" (99 : Nat) ({ cls := "PlainWarehouse$House", name := "isTold", desc := "(I)Z" } : MethodName) "PlainWarehouse" ∈ NWS := nws_in 407 rfl rfl
set_option maxRecDepth 100000 in
theorem tw_426 : Cond.methodLink "PlainWarehouse" (189 : Nat) ({ cls := "PlainWarehouse", name := "isInSet", desc := "(II)Z" } : MethodName) ∈ WS := ws_in 426 rfl rfl
set_option maxRecDepth 100000 in
theorem tw_506 : Cond.methodLink "PlainWarehouse$Ways" (38 : Nat) ({ cls := "PlainWarehouse$Ways", name := "fewest", desc := "([IIII)I" } : MethodName) ∈ WS := ws_in 506 rfl rfl
set_option maxRecDepth 100000 in
theorem tw_507 : Cond.static ({ cls := "PlainWarehouse$Ways", name := "fewest", desc := "([IIII)I" } : MethodName) ∈ WS := ws_in 507 rfl rfl
set_option maxRecDepth 100000 in
theorem tw_509 : Cond.methodLinkNest "PlainWarehouse$Ways" (42 : Nat) ({ cls := "PlainWarehouse", name := "isInSet", desc := "(II)Z" } : MethodName) "PlainWarehouse" ∈ NWS := nws_in 509 rfl rfl
def rm_Y_fewest (d : Nat) : Room := { frames := d + 1, cells := 0, slots := 0, locals := 26 * d + 21 }
def b_Y_fewest_20 (rec : SP → Int32 → Int32 → Int32 → Option Int32) (c1 : Int32) (c2 : Int32) (c3 : Int32) (σ : SP) (v4 : Int32) (v5 : Int32) : Option ((Int32 × Int32) ⊕ (Int32 × Int32)) :=
  (if (10 : Int32) ≤ v5 then some (.inr (v4, v5)) else (mb1 (m_P_isInSet v5 c2) fun r1 => (if r1 = 0 then some (.inl (v4, (v5 + 1))) else (mb1 (rec σ v5 (c2 &&& (((1 : Int32) <<< (v5 &&& 31)) ^^^ (-1 : Int32))) (c3 - (1 : Int32))) fun r3 => (mb1 (m_P_pair c1 v5) fun r5 => (mrd 100 (g_se σ) r5 fun r7 => (mlet (if (r7 + r3) < v4 then (r7 + r3) else v4) fun r8 => some (.inl (r8, (v5 + 1))))))))))
def mF_Y_fewest (rec : SP → Int32 → Int32 → Int32 → Option Int32) (σ : SP) (a1 : Int32) (a2 : Int32) (a3 : Int32) : Option (Int32) :=
  (if a2 = 0 then some (0 : Int32) else (if 0 < a3 then (mb2 (lp (fun s => b_Y_fewest_20 rec a1 a2 a3 σ s.1 s.2) FU ((1000000 : Int32), (0 : Int32))) fun w9 w10 => some w9) else some (1000000 : Int32)))
def m_Y_fewest : Nat → SP → Int32 → Int32 → Int32 → Option Int32
  | 0 => fun _ _ _ _ => none
  | d + 1 => mF_Y_fewest (m_Y_fewest d)
set_option maxHeartbeats 4000000 in
set_option maxRecDepth 100000 in
theorem wb_Y_fewest_20 {x : JX} {ad : Nat → Nat} {cA : ClassId} {wr : va_W} (C : jC x cc_Y_fewest 7 "PlainWarehouse$Ways") (hT : (jT x)[0]? = some (cA, .int)) {d : Nat} (hR : jR x = rm_Y_fewest (d + 1)) {rec : SP → Int32 → Int32 → Int32 → Option Int32} (hrec : ∀ (σ : SP) a1 a2 a3 r, rec σ a1 a2 a3 = some r → jM (jl x) y_Y_fewest ws_Y_fewest (rm_Y_fewest d) (jD x) (jT x) [.ref (ad 17), .int a1, .int a2, .int a3] ((wP ad cA σ) ++ wr) (some (.int r)) ((wP ad cA σ) ++ wr))  (c1 : Int32) (c2 : Int32) (c3 : Int32) (σ : SP) (v4 : Int32) (v5 : Int32) {o : (Int32 × Int32) ⊕ (Int32 × Int32)} (h : b_Y_fewest_20 rec c1 c2 c3 σ v4 v5 = some o) (kc : ∀ (u4 : Int32) (u5 : Int32), o = .inl (u4, u5) → jW x 7 0 0 20 [(0, .ref (ad 17)), (1, .int c1), (2, .int c2), (3, .int c3), (4, .int u4), (5, .int u5)] [] ((wP ad cA σ) ++ wr)) (ke : ∀ (u4 : Int32) (u5 : Int32), o = .inr (u4, u5) → jW x 7 0 0 79 [(0, .ref (ad 17)), (1, .int c1), (2, .int c2), (3, .int c3), (4, .int u4), (5, .int u5)] [] ((wP ad cA σ) ++ wr)) : jW x 7 0 0 20 [(0, .ref (ad 17)), (1, .int c1), (2, .int c2), (3, .int c3), (4, .int v4), (5, .int v5)] [] ((wP ad cA σ) ++ wr) := by
  unfold b_Y_fewest_20 at h
  refine j_iload C 5 d_Y_fewest_20 rfl rfl ?_
  refine j_bipush (v := 10) C d_Y_fewest_22 rfl (by decide) ?_
  refine j_icmp_ge (tgt := 79) C d_Y_fewest_24 (by decide) rfl h (fun h => ?_) (fun h => ?_)
  · cases h
    refine j_sub [0, 1, 2, 3, 4, 5] rfl (ke _ _ rfl)
  · refine j_iload C 5 d_Y_fewest_27 rfl rfl ?_
    refine j_iload_n C 2 d_Y_fewest_29 rfl rfl rfl ?_
    obtain ⟨r1, h2, h⟩ := mb1_some h
    refine j_callSN C hR (As := [.int v5, .int c2]) (ct_P_isInSet (jl x) (jD x) (jT x) v5 c2 h2) kf_P_isInSet (by simp only [rm_P_isInSet, rm_Y_fewest]; omega) tw_509 tw_427 (rest := []) rfl rfl (Nat.le_of_ble_eq_true rfl) (by simp only [rm_Y_fewest]; omega) ⟨rfl, rfl⟩ d_Y_fewest_30 rfl (st1 := [.int r1]) rfl ?_
    refine j_if_eq (tgt := 73) C d_Y_fewest_33 (by decide) rfl h (fun h => ?_) (fun h => ?_)
    · refine j_iinc (v' := (v5 + 1)) (lv' := [(5, .int (v5 + 1)), (0, .ref (ad 17)), (1, .int c1), (2, .int c2), (3, .int c3), (4, .int v4)]) C 5 d_Y_fewest_73 rfl rfl rfl (by decide) rfl ?_
      refine j_goto (tgt := 20) C d_Y_fewest_76 (by decide) ?_
      cases h
      refine j_sub [1, 2, 3, 4, 5, 0] rfl (kc _ _ rfl)
    · refine j_aload_n C 0 d_Y_fewest_36 rfl rfl rfl ?_
      refine j_iload C 5 d_Y_fewest_37 rfl rfl ?_
      refine j_iload_n C 2 d_Y_fewest_39 rfl rfl rfl ?_
      refine j_iconst (v := 1) C d_Y_fewest_40 rfl (by decide) ?_
      refine j_iload C 5 d_Y_fewest_41 rfl rfl ?_
      refine j_ishl C d_Y_fewest_43 rfl ?_
      refine j_iconst (v := (-1)) C d_Y_fewest_44 rfl (by decide) ?_
      refine j_ixor C d_Y_fewest_45 rfl ?_
      refine j_iand C d_Y_fewest_46 rfl ?_
      refine j_iload_n C 3 d_Y_fewest_47 rfl rfl rfl ?_
      refine j_iconst (v := 1) C d_Y_fewest_48 rfl (by decide) ?_
      refine j_isub C d_Y_fewest_49 rfl ?_
      obtain ⟨r3, h4, h⟩ := mb1_some h
      refine j_callS C hR (As := [.ref (ad 17), .int v5, .int (c2 &&& (((1 : Int32) <<< (v5 &&& 31)) ^^^ (-1 : Int32))), .int (c3 - (1 : Int32))]) (hrec σ v5 (c2 &&& (((1 : Int32) <<< (v5 &&& 31)) ^^^ (-1 : Int32))) (c3 - (1 : Int32)) _ h4) kf_Y_fewest (by simp only [rm_Y_fewest, rm_Y_fewest]; omega) tw_506 tw_507 (rest := []) rfl rfl (Nat.le_of_ble_eq_true rfl) (by simp only [rm_Y_fewest]; omega) ⟨rfl, rfl⟩ d_Y_fewest_50 rfl (st1 := [.int r3]) rfl ?_
      refine j_istore (lv' := [(6, .int r3), (0, .ref (ad 17)), (1, .int c1), (2, .int c2), (3, .int c3), (4, .int v4), (5, .int v5)]) C d_Y_fewest_53 rfl (by decide) rfl ?_
      refine j_iload C 5 d_Y_fewest_55 rfl rfl ?_
      refine j_aload_n C 1 d_Y_fewest_57 rfl rfl rfl ?_
      refine j_iload_n C 2 d_Y_fewest_58 rfl rfl rfl ?_
      refine j_iload C 6 d_Y_fewest_59 rfl rfl ?_
      obtain ⟨r5, h6, h⟩ := mb1_some h
      refine j_callSN C hR (As := [.int c1, .int v5]) (ct_P_pair (jl x) (jD x) (jT x) c1 v5 h6) kf_P_pair (by simp only [rm_P_pair, rm_Y_fewest]; omega) tw_474 tw_218 (rest := [.ref (ad 17), .int v4]) rfl rfl (Nat.le_of_ble_eq_true rfl) (by simp only [rm_Y_fewest]; omega) ⟨rfl, rfl⟩ d_Y_fewest_61 rfl (st1 := [.int r5, .ref (ad 17), .int v4]) rfl ?_
      refine j_iald C 17 0 rfl hT d_Y_fewest_64 rfl h (fun r7 h => ?_)
      refine j_iload C 0 d_Y_fewest_65 rfl rfl ?_
      refine j_iadd C d_Y_fewest_67 rfl ?_
      refine j_mmin C hR tw_480 tw_481 tw_61 tw_482 (by simp only [rm_Y_fewest]; simp; try omega) (by simp only [rm_Y_fewest]; simp; try omega) (by simp only [rm_Y_fewest]; simp; try omega) (by simp only [rm_Y_fewest]; simp; try omega) d_Y_fewest_68 rfl h (fun r8 h => ?_)
      refine j_istore (lv' := [(4, .int r8), (6, .int r3), (0, .ref (ad 17)), (1, .int c1), (2, .int c2), (3, .int c3), (5, .int v5)]) C d_Y_fewest_71 rfl (by decide) rfl ?_
      refine j_iinc (v' := (v5 + 1)) (lv' := [(5, .int (v5 + 1)), (4, .int r8), (6, .int r3), (0, .ref (ad 17)), (1, .int c1), (2, .int c2), (3, .int c3)]) C 6 d_Y_fewest_73 rfl rfl rfl (by decide) rfl ?_
      refine j_goto (tgt := 20) C d_Y_fewest_76 (by decide) ?_
      cases h
      refine j_sub [3, 4, 5, 6, 1, 0] rfl (kc _ _ rfl)
set_option maxRecDepth 100000 in
theorem wl_Y_fewest_20 {x : JX} {ad : Nat → Nat} {cA : ClassId} {wr : va_W} (C : jC x cc_Y_fewest 7 "PlainWarehouse$Ways") (hT : (jT x)[0]? = some (cA, .int)) {d : Nat} (hR : jR x = rm_Y_fewest (d + 1)) {rec : SP → Int32 → Int32 → Int32 → Option Int32} (hrec : ∀ (σ : SP) a1 a2 a3 r, rec σ a1 a2 a3 = some r → jM (jl x) y_Y_fewest ws_Y_fewest (rm_Y_fewest d) (jD x) (jT x) [.ref (ad 17), .int a1, .int a2, .int a3] ((wP ad cA σ) ++ wr) (some (.int r)) ((wP ad cA σ) ++ wr))  (c1 : Int32) (c2 : Int32) (c3 : Int32) (σ : SP) (v4 : Int32) (v5 : Int32) {u4 : Int32} {u5 : Int32} (n : Nat) (h : lp (fun s => b_Y_fewest_20 rec c1 c2 c3 σ s.1 s.2) n (v4, v5) = some (u4, u5)) (K : jW x 7 0 0 79 [(0, .ref (ad 17)), (1, .int c1), (2, .int c2), (3, .int c3), (4, .int u4), (5, .int u5)] [] ((wP ad cA σ) ++ wr)) : jW x 7 0 0 20 [(0, .ref (ad 17)), (1, .int c1), (2, .int c2), (3, .int c3), (4, .int v4), (5, .int v5)] [] ((wP ad cA σ) ++ wr) :=
  j_lp (Pr := fun s => jW x 7 0 0 20 [(0, .ref (ad 17)), (1, .int c1), (2, .int c2), (3, .int c3), (4, .int s.1), (5, .int s.2)] [] ((wP ad cA σ) ++ wr)) (K := fun s => jW x 7 0 0 79 [(0, .ref (ad 17)), (1, .int c1), (2, .int c2), (3, .int c3), (4, .int s.1), (5, .int s.2)] [] ((wP ad cA σ) ++ wr)) (fun s o h kc ke => wb_Y_fewest_20 C hT hR hrec c1 c2 c3 σ s.1 s.2 h (fun u4 u5 e => kc _ e) (fun u4 u5 e => ke _ e)) n _ _ h K
set_option maxHeartbeats 4000000 in
set_option maxRecDepth 100000 in
theorem w_Y_fewest {x : JX} {ad : Nat → Nat} {cA : ClassId} {wr : va_W} (C : jC x cc_Y_fewest 7 "PlainWarehouse$Ways") (hT : (jT x)[0]? = some (cA, .int)) {d : Nat} (hR : jR x = rm_Y_fewest (d + 1)) {rec : SP → Int32 → Int32 → Int32 → Option Int32} (hrec : ∀ (σ : SP) a1 a2 a3 r, rec σ a1 a2 a3 = some r → jM (jl x) y_Y_fewest ws_Y_fewest (rm_Y_fewest d) (jD x) (jT x) [.ref (ad 17), .int a1, .int a2, .int a3] ((wP ad cA σ) ++ wr) (some (.int r)) ((wP ad cA σ) ++ wr))  (a1 : Int32) (a2 : Int32) (a3 : Int32) (σ : SP) {r : Int32} (hr : (jt x).sig.returnType = some .int) (E : jE x 0 0 (some (.int r)) ((wP ad cA σ) ++ wr)) (h : mF_Y_fewest rec σ a1 a2 a3 = some r) : jW x 7 0 0 0 [(0, .ref (ad 17)), (1, .int a1), (2, .int a2), (3, .int a3)] [] ((wP ad cA σ) ++ wr) := by
  unfold mF_Y_fewest at h
  refine j_iload_n C 2 d_Y_fewest_0 rfl rfl rfl ?_
  refine j_if_ne (tgt := 6) C d_Y_fewest_1 (by decide) rfl h (fun h => ?_) (fun h => ?_)
  · refine j_iload_n C 3 d_Y_fewest_6 rfl rfl rfl ?_
    refine j_if_gt (tgt := 13) C d_Y_fewest_7 (by decide) rfl h (fun h => ?_) (fun h => ?_)
    · refine j_ldc (v := 1000000) C d_Y_fewest_13 rfl tw_475 ?_
      refine j_istore (lv' := [(4, .int (1000000 : Int32)), (0, .ref (ad 17)), (1, .int a1), (2, .int a2), (3, .int a3)]) C d_Y_fewest_15 rfl (by decide) rfl ?_
      refine j_iconst (v := 0) C d_Y_fewest_17 rfl (by decide) ?_
      refine j_istore (lv' := [(5, .int (0 : Int32)), (4, .int (1000000 : Int32)), (0, .ref (ad 17)), (1, .int a1), (2, .int a2), (3, .int a3)]) C d_Y_fewest_18 rfl (by decide) rfl ?_
      obtain ⟨w9, w10, h11, h⟩ := mb2_some h
      refine j_sub [2, 3, 4, 5, 1, 0] rfl (wl_Y_fewest_20 C hT hR hrec a1 a2 a3 σ (1000000 : Int32) (0 : Int32) FU h11 ?_)
      refine j_iload C 4 d_Y_fewest_79 rfl rfl ?_
      cases h
      exact j_iret C E hr d_Y_fewest_81
    · refine j_ldc (v := 1000000) C d_Y_fewest_10 rfl tw_475 ?_
      cases h
      exact j_iret C E hr d_Y_fewest_12
  · refine j_iconst (v := 0) C d_Y_fewest_4 rfl (by decide) ?_
    cases h
    exact j_iret C E hr d_Y_fewest_5
theorem ct_Y_fewest (l : Launch) (D : va_G) (tys : List (ClassId × FieldType)) {ad : Nat → Nat} {cA : ClassId} {wr : va_W} (hT : tys[0]? = some (cA, .int)) : ∀ (d : Nat) (a1 : Int32) (a2 : Int32) (a3 : Int32) (σ : SP) {r : Int32}, m_Y_fewest d σ a1 a2 a3 = some r → jM l y_Y_fewest ws_Y_fewest (rm_Y_fewest d) D tys [.ref (ad 17), .int a1, .int a2, .int a3] ((wP ad cA σ) ++ wr) (some (.int r)) ((wP ad cA σ) ++ wr) := by
  intro d
  induction d with
  | zero => intro a1 a2 a3 σ r h; cases h
  | succ d ih =>
    intro a1 a2 a3 σ r h
    have h : mF_Y_fewest (m_Y_fewest d) σ a1 a2 a3 = some r := h
    exact j_of (by decide +kernel) rfl (Nat.le_of_ble_eq_true rfl) rfl (fun x hl hD hT' hR C hr _ E => w_Y_fewest C (by rw [hT']; exact hT) hR (by rw [hl, hD, hT']; exact fun σ a1 a2 a3 r h => ih a1 a2 a3 σ h) a1 a2 a3 σ hr E h)
def rm_Y_fewestThrough : Room := { frames := 10, cells := 0, slots := 0, locals := 255 }
def m_Y_fewestThrough (a1 : Int32) (a2 : Int32) (σ : SP) : Option (Int32) :=
  (mb1 (m_Y_fewest 8 σ a1 a2 (4 : Int32)) fun r1 => some r1)
set_option maxHeartbeats 4000000 in
set_option maxRecDepth 100000 in
theorem w_Y_fewestThrough {x : JX} {ad : Nat → Nat} {cA : ClassId} {wr : va_W} (C : jC x cc_Y_fewestThrough 3 "PlainWarehouse$Ways") (hT : (jT x)[0]? = some (cA, .int)) (hR : jR x = rm_Y_fewestThrough)  (a1 : Int32) (a2 : Int32) (σ : SP) {r : Int32} (hr : (jt x).sig.returnType = some .int) (E : jE x 0 0 (some (.int r)) ((wP ad cA σ) ++ wr)) (h : m_Y_fewestThrough a1 a2 σ = some r) : jW x 3 0 0 0 [(0, .ref (ad 16)), (1, .int a1), (2, .int a2)] [] ((wP ad cA σ) ++ wr) := by
  unfold m_Y_fewestThrough at h
  refine j_aload_n C 0 d_Y_fewestThrough_0 rfl rfl rfl ?_
  refine j_get C in_Y 16 rfl rfl 0 (by decide) tw_139 rfl (v := .ref (ad 17)) rfl d_Y_fewestThrough_1 rfl ?_
  refine j_iload_n C 1 d_Y_fewestThrough_4 rfl rfl rfl ?_
  refine j_iload_n C 2 d_Y_fewestThrough_5 rfl rfl rfl ?_
  refine j_iconst (v := 4) C d_Y_fewestThrough_6 rfl (by decide) ?_
  obtain ⟨r1, h2, h⟩ := mb1_some h
  refine j_callS C hR (As := [.ref (ad 17), .int a1, .int a2, .int (4 : Int32)]) (ct_Y_fewest (jl x) (jD x) (jT x) hT 8 a1 a2 (4 : Int32) σ h2) kf_Y_fewest (by decide) tw_506 tw_507 (rest := []) rfl rfl (Nat.le_of_ble_eq_true rfl) (by decide) ⟨rfl, rfl⟩ d_Y_fewestThrough_7 rfl (st1 := [.int r1]) rfl ?_
  cases h
  exact j_iret C E hr d_Y_fewestThrough_10
theorem ct_Y_fewestThrough (l : Launch) (D : va_G) (tys : List (ClassId × FieldType)) {ad : Nat → Nat} {cA : ClassId} {wr : va_W} (hT : tys[0]? = some (cA, .int)) (a1 : Int32) (a2 : Int32) (σ : SP) {r : Int32} (h : m_Y_fewestThrough a1 a2 σ = some r) : jM l y_Y_fewestThrough ws_Y_fewestThrough rm_Y_fewestThrough D tys [.ref (ad 16), .int a1, .int a2] ((wP ad cA σ) ++ wr) (some (.int r)) ((wP ad cA σ) ++ wr) :=
  j_of (by decide +kernel) rfl (Nat.le_of_ble_eq_true rfl) rfl (fun x _ _ hT' hR C hr _ E => w_Y_fewestThrough C (by rw [hT']; exact hT) hR a1 a2 σ hr E h)
def rm_P_takeKept : Room := { frames := 4, cells := 0, slots := 0, locals := 89 }
def m_P_takeKept (a1 : Int32) (σ : SP) : Option (Int32 × SP) :=
  (mrd 240 (g_row σ) (a1 * (4 : Int32)) fun r1 => (mrd 240 (g_row σ) ((a1 * (4 : Int32)) + (1 : Int32)) fun r2 => (mrd 240 (g_row σ) ((a1 * (4 : Int32)) + (2 : Int32)) fun r3 => (mrd 240 (g_row σ) ((a1 * (4 : Int32)) + (3 : Int32)) fun r4 => (mb2 (m_H_take r1 r2 r3 r4 σ) fun r5 σ6 => (mzr r5 (some (r5, σ6))))))))
set_option maxHeartbeats 4000000 in
set_option maxRecDepth 100000 in
theorem w_P_takeKept {x : JX} {ad : Nat → Nat} {cA : ClassId} {wr : va_W} (C : jC x cc_P_takeKept 3 "PlainWarehouse") (hT : (jT x)[0]? = some (cA, .int)) (hR : jR x = rm_P_takeKept)  (a1 : Int32) (σ : SP) {r : Int32} {σ' : SP} (hr : (jt x).sig.returnType = some .boolean) (E : jE x 0 0 (some (.int r)) ((wP ad cA σ') ++ wr)) (h : m_P_takeKept a1 σ = some (r, σ')) : jW x 3 0 0 0 [(0, .ref (ad 0)), (1, .int a1)] [] ((wP ad cA σ) ++ wr) := by
  unfold m_P_takeKept at h
  refine j_iload_n C 1 d_P_takeKept_0 rfl rfl rfl ?_
  refine j_iconst (v := 4) C d_P_takeKept_1 rfl (by decide) ?_
  refine j_imul C d_P_takeKept_2 rfl ?_
  refine j_istore_n (lv' := [(2, .int (a1 * (4 : Int32))), (0, .ref (ad 0)), (1, .int a1)]) C d_P_takeKept_3 rfl rfl (by decide) rfl ?_
  refine j_aload_n C 1 d_P_takeKept_4 rfl rfl rfl ?_
  refine j_get C in_P 0 rfl rfl 3 (by decide) tw_146 rfl (v := .ref (ad 2)) rfl d_P_takeKept_5 rfl ?_
  refine j_aload_n C 1 d_P_takeKept_8 rfl rfl rfl ?_
  refine j_get C in_P 0 rfl rfl 0 (by decide) tw_143 rfl (v := .ref (ad 1)) rfl d_P_takeKept_9 rfl ?_
  refine j_iload_n C 0 d_P_takeKept_12 rfl rfl rfl ?_
  refine j_iald C 1 0 rfl hT d_P_takeKept_13 rfl h (fun r1 h => ?_)
  refine j_aload_n C 1 d_P_takeKept_14 rfl rfl rfl ?_
  refine j_get C in_P 0 rfl rfl 0 (by decide) tw_143 rfl (v := .ref (ad 1)) rfl d_P_takeKept_15 rfl ?_
  refine j_iload_n C 0 d_P_takeKept_18 rfl rfl rfl ?_
  refine j_iconst (v := 1) C d_P_takeKept_19 rfl (by decide) ?_
  refine j_iadd C d_P_takeKept_20 rfl ?_
  refine j_iald C 1 0 rfl hT d_P_takeKept_21 rfl h (fun r2 h => ?_)
  refine j_aload_n C 1 d_P_takeKept_22 rfl rfl rfl ?_
  refine j_get C in_P 0 rfl rfl 0 (by decide) tw_143 rfl (v := .ref (ad 1)) rfl d_P_takeKept_23 rfl ?_
  refine j_iload_n C 0 d_P_takeKept_26 rfl rfl rfl ?_
  refine j_iconst (v := 2) C d_P_takeKept_27 rfl (by decide) ?_
  refine j_iadd C d_P_takeKept_28 rfl ?_
  refine j_iald C 1 0 rfl hT d_P_takeKept_29 rfl h (fun r3 h => ?_)
  refine j_aload_n C 1 d_P_takeKept_30 rfl rfl rfl ?_
  refine j_get C in_P 0 rfl rfl 0 (by decide) tw_143 rfl (v := .ref (ad 1)) rfl d_P_takeKept_31 rfl ?_
  refine j_iload_n C 0 d_P_takeKept_34 rfl rfl rfl ?_
  refine j_iconst (v := 3) C d_P_takeKept_35 rfl (by decide) ?_
  refine j_iadd C d_P_takeKept_36 rfl ?_
  refine j_iald C 1 0 rfl hT d_P_takeKept_37 rfl h (fun r4 h => ?_)
  obtain ⟨r5, σ6, h7, h⟩ := mb2_some h
  refine j_callVN C hR (As := [.int r1, .int r2, .int r3, .int r4]) (ct_H_take (jl x) (jD x) (jT x) hT r1 r2 r3 r4 σ h7) kf_H_take (by decide) tw_181 tw_183 tw_3 2 rfl rfl (rest := []) rfl rfl (Nat.le_of_ble_eq_true rfl) (by decide) ⟨rfl, rfl⟩ d_P_takeKept_38 rfl (st1 := [.int r5]) rfl ?_
  obtain ⟨hz, h⟩ := mzr_some h
  cases h
  exact j_zret C E hr hz d_P_takeKept_41
theorem ct_P_takeKept (l : Launch) (D : va_G) (tys : List (ClassId × FieldType)) {ad : Nat → Nat} {cA : ClassId} {wr : va_W} (hT : tys[0]? = some (cA, .int)) (a1 : Int32) (σ : SP) {r : Int32} {σ' : SP} (h : m_P_takeKept a1 σ = some (r, σ')) : jM l y_P_takeKept ws_P_takeKept rm_P_takeKept D tys [.ref (ad 0), .int a1] ((wP ad cA σ) ++ wr) (some (.int r)) ((wP ad cA σ') ++ wr) :=
  j_of (by decide +kernel) rfl (Nat.le_of_ble_eq_true rfl) rfl (fun x _ _ hT' hR C hr _ E => w_P_takeKept C (by rw [hT']; exact hT) hR a1 σ hr E h)
def rm_P_replay : Room := { frames := 5, cells := 0, slots := 0, locals := 111 }
def b_P_replay_9 (c1 : Int32) (v2 : Int32) (σ : SP) : Option ((Int32 × SP) ⊕ (Int32 × SP)) :=
  (if c1 ≤ v2 then some (.inr (v2, σ)) else (mb2 (m_P_takeKept v2 σ) fun r3 σ4 => some (.inl ((v2 + 1), σ4))))
def m_P_replay (a1 : Int32) (σ : SP) : Option (SP) :=
  (mb1 (m_H_empty σ) fun σ1 => (mb2 (lp (fun s => b_P_replay_9 a1 s.1 s.2) FU ((0 : Int32), σ1)) fun w6 σ7 => some σ7))
set_option maxHeartbeats 4000000 in
set_option maxRecDepth 100000 in
theorem wb_P_replay_9 {x : JX} {ad : Nat → Nat} {cA : ClassId} {wr : va_W} (C : jC x cc_P_replay 3 "PlainWarehouse") (hT : (jT x)[0]? = some (cA, .int)) (hR : jR x = rm_P_replay)  (c1 : Int32) (σ : SP) (v2 : Int32) {o : (Int32 × SP) ⊕ (Int32 × SP)} (h : b_P_replay_9 c1 v2 σ = some o) (kc : ∀ (u2 : Int32) (τ : SP), o = .inl (u2, τ) → jW x 3 0 0 9 [(0, .ref (ad 0)), (1, .int c1), (2, .int u2)] [] ((wP ad cA τ) ++ wr)) (ke : ∀ (u2 : Int32) (τ : SP), o = .inr (u2, τ) → jW x 3 0 0 26 [(0, .ref (ad 0)), (1, .int c1), (2, .int u2)] [] ((wP ad cA τ) ++ wr)) : jW x 3 0 0 9 [(0, .ref (ad 0)), (1, .int c1), (2, .int v2)] [] ((wP ad cA σ) ++ wr) := by
  unfold b_P_replay_9 at h
  refine j_iload_n C 2 d_P_replay_9 rfl rfl rfl ?_
  refine j_iload_n C 1 d_P_replay_10 rfl rfl rfl ?_
  refine j_icmp_ge (tgt := 26) C d_P_replay_11 (by decide) rfl h (fun h => ?_) (fun h => ?_)
  · cases h
    refine j_sub [0, 1, 2] rfl (ke _ _ rfl)
  · refine j_aload_n C 0 d_P_replay_14 rfl rfl rfl ?_
    refine j_iload_n C 2 d_P_replay_15 rfl rfl rfl ?_
    obtain ⟨r3, σ4, h5, h⟩ := mb2_some h
    refine j_callV C hR (As := [.int v2]) (ct_P_takeKept (jl x) (jD x) (jT x) hT v2 σ h5) kf_P_takeKept (by decide) tw_177 tw_179 tw_2 0 rfl rfl (rest := []) rfl rfl (Nat.le_of_ble_eq_true rfl) (by decide) ⟨rfl, rfl⟩ d_P_replay_16 rfl (st1 := [.int r3]) rfl ?_
    refine j_pop C d_P_replay_19 rfl rfl ?_
    refine j_iinc (v' := (v2 + 1)) (lv' := [(2, .int (v2 + 1)), (0, .ref (ad 0)), (1, .int c1)]) C 2 d_P_replay_20 rfl rfl rfl (by decide) rfl ?_
    refine j_goto (tgt := 9) C d_P_replay_23 (by decide) ?_
    cases h
    refine j_sub [1, 2, 0] rfl (kc _ _ rfl)
set_option maxRecDepth 100000 in
theorem wl_P_replay_9 {x : JX} {ad : Nat → Nat} {cA : ClassId} {wr : va_W} (C : jC x cc_P_replay 3 "PlainWarehouse") (hT : (jT x)[0]? = some (cA, .int)) (hR : jR x = rm_P_replay)  (c1 : Int32) (σ : SP) (v2 : Int32) {u2 : Int32} {τ : SP} (n : Nat) (h : lp (fun s => b_P_replay_9 c1 s.1 s.2) n (v2, σ) = some (u2, τ)) (K : jW x 3 0 0 26 [(0, .ref (ad 0)), (1, .int c1), (2, .int u2)] [] ((wP ad cA τ) ++ wr)) : jW x 3 0 0 9 [(0, .ref (ad 0)), (1, .int c1), (2, .int v2)] [] ((wP ad cA σ) ++ wr) :=
  j_lp (Pr := fun s => jW x 3 0 0 9 [(0, .ref (ad 0)), (1, .int c1), (2, .int s.1)] [] ((wP ad cA s.2) ++ wr)) (K := fun s => jW x 3 0 0 26 [(0, .ref (ad 0)), (1, .int c1), (2, .int s.1)] [] ((wP ad cA s.2) ++ wr)) (fun s o h kc ke => wb_P_replay_9 C hT hR c1 s.2 s.1 h (fun u2 τ e => kc _ e) (fun u2 τ e => ke _ e)) n _ _ h K
set_option maxHeartbeats 4000000 in
set_option maxRecDepth 100000 in
theorem w_P_replay {x : JX} {ad : Nat → Nat} {cA : ClassId} {wr : va_W} (C : jC x cc_P_replay 3 "PlainWarehouse") (hT : (jT x)[0]? = some (cA, .int)) (hR : jR x = rm_P_replay)  (a1 : Int32) (σ : SP) {σ' : SP} (hr : (jt x).sig.returnType = none) (E : jE x 0 0 none ((wP ad cA σ') ++ wr)) (h : m_P_replay a1 σ = some σ') : jW x 3 0 0 0 [(0, .ref (ad 0)), (1, .int a1)] [] ((wP ad cA σ) ++ wr) := by
  unfold m_P_replay at h
  refine j_aload_n C 0 d_P_replay_0 rfl rfl rfl ?_
  refine j_get C in_P 0 rfl rfl 3 (by decide) tw_146 rfl (v := .ref (ad 2)) rfl d_P_replay_1 rfl ?_
  obtain ⟨σ1, h2, h⟩ := mb1_some h
  refine j_callVN C hR (As := []) (ct_H_empty (jl x) (jD x) (jT x) hT  σ h2) kf_H_empty (by decide) tw_170 tw_172 tw_1 2 rfl rfl (rest := []) rfl rfl (Nat.le_of_ble_eq_true rfl) (by decide) ⟨rfl, rfl⟩ d_P_replay_4 rfl (st1 := []) rfl ?_
  refine j_iconst (v := 0) C d_P_replay_7 rfl (by decide) ?_
  refine j_istore_n (lv' := [(2, .int (0 : Int32)), (0, .ref (ad 0)), (1, .int a1)]) C d_P_replay_8 rfl rfl (by decide) rfl ?_
  obtain ⟨w6, σ7, h8, h⟩ := mb2_some h
  refine j_sub [1, 2, 0] rfl (wl_P_replay_9 C hT hR a1 σ1 (0 : Int32) FU h8 ?_)
  cases h
  exact j_vret C E hr d_P_replay_26
theorem ct_P_replay (l : Launch) (D : va_G) (tys : List (ClassId × FieldType)) {ad : Nat → Nat} {cA : ClassId} {wr : va_W} (hT : tys[0]? = some (cA, .int)) (a1 : Int32) (σ : SP) {σ' : SP} (h : m_P_replay a1 σ = some σ') : jM l y_P_replay ws_P_replay rm_P_replay D tys [.ref (ad 0), .int a1] ((wP ad cA σ) ++ wr) none ((wP ad cA σ') ++ wr) :=
  j_of (by decide +kernel) rfl (Nat.le_of_ble_eq_true rfl) rfl (fun x _ _ hT' hR C hr _ E => w_P_replay C (by rw [hT']; exact hT) hR a1 σ hr E h)
def rm_P_keep : Room := { frames := 0, cells := 0, slots := 0, locals := 0 }
def m_P_keep (a1 : Int32) (a2 : Int32) (a3 : Int32) (a4 : Int32) (σ : SP) : Option (SP) :=
  (mck 240 ((g_ec σ) * (4 : Int32)) (mlet (u_row σ (upd (g_row σ) ((g_ec σ) * (4 : Int32)).toNatClampNeg a1)) fun σ1 => (mck 240 (((g_ec σ) * (4 : Int32)) + (1 : Int32)) (mlet (u_row σ1 (upd (g_row σ1) (((g_ec σ) * (4 : Int32)) + (1 : Int32)).toNatClampNeg a2)) fun σ2 => (mck 240 (((g_ec σ) * (4 : Int32)) + (2 : Int32)) (mlet (u_row σ2 (upd (g_row σ2) (((g_ec σ) * (4 : Int32)) + (2 : Int32)).toNatClampNeg a3)) fun σ3 => (mck 240 (((g_ec σ) * (4 : Int32)) + (3 : Int32)) (mlet (u_row σ3 (upd (g_row σ3) (((g_ec σ) * (4 : Int32)) + (3 : Int32)).toNatClampNeg a4)) fun σ4 => (mlet (u_ec σ4 ((g_ec σ4) + (1 : Int32))) fun σ5 => some σ5)))))))))
set_option maxHeartbeats 4000000 in
set_option maxRecDepth 100000 in
theorem w_P_keep {x : JX} {ad : Nat → Nat} {cA : ClassId} {wr : va_W} (C : jC x cc_P_keep 6 "PlainWarehouse") (hT : (jT x)[0]? = some (cA, .int)) (hR : jR x = rm_P_keep)  (a1 : Int32) (a2 : Int32) (a3 : Int32) (a4 : Int32) (σ : SP) {σ' : SP} (hr : (jt x).sig.returnType = none) (E : jE x 0 0 none ((wP ad cA σ') ++ wr)) (h : m_P_keep a1 a2 a3 a4 σ = some σ') : jW x 6 0 0 0 [(0, .ref (ad 0)), (1, .int a1), (2, .int a2), (3, .int a3), (4, .int a4)] [] ((wP ad cA σ) ++ wr) := by
  unfold m_P_keep at h
  refine j_aload_n C 0 d_P_keep_0 rfl rfl rfl ?_
  refine j_get C in_P 0 rfl rfl 1 (by decide) tw_144 rfl (v := .int (g_ec σ)) rfl d_P_keep_1 rfl ?_
  refine j_iconst (v := 4) C d_P_keep_4 rfl (by decide) ?_
  refine j_imul C d_P_keep_5 rfl ?_
  refine j_istore (lv' := [(5, .int ((g_ec σ) * (4 : Int32))), (0, .ref (ad 0)), (1, .int a1), (2, .int a2), (3, .int a3), (4, .int a4)]) C d_P_keep_6 rfl (by decide) rfl ?_
  refine j_aload_n C 1 d_P_keep_8 rfl rfl rfl ?_
  refine j_get C in_P 0 rfl rfl 0 (by decide) tw_143 rfl (v := .ref (ad 1)) rfl d_P_keep_9 rfl ?_
  refine j_iload C 0 d_P_keep_12 rfl rfl ?_
  refine j_iload_n C 2 d_P_keep_14 rfl rfl rfl ?_
  refine j_iast C (fun t => (wP ad cA t) ++ wr) 1 0 rfl hT d_P_keep_15 rfl h rfl (fun σ1 h => ?_)
  refine j_aload_n C 1 d_P_keep_16 rfl rfl rfl ?_
  refine j_get C in_P 0 rfl rfl 0 (by decide) tw_143 rfl (v := .ref (ad 1)) rfl d_P_keep_17 rfl ?_
  refine j_iload C 0 d_P_keep_20 rfl rfl ?_
  refine j_iconst (v := 1) C d_P_keep_22 rfl (by decide) ?_
  refine j_iadd C d_P_keep_23 rfl ?_
  refine j_iload_n C 3 d_P_keep_24 rfl rfl rfl ?_
  refine j_iast C (fun t => (wP ad cA t) ++ wr) 1 0 rfl hT d_P_keep_25 rfl h rfl (fun σ2 h => ?_)
  refine j_aload_n C 1 d_P_keep_26 rfl rfl rfl ?_
  refine j_get C in_P 0 rfl rfl 0 (by decide) tw_143 rfl (v := .ref (ad 1)) rfl d_P_keep_27 rfl ?_
  refine j_iload C 0 d_P_keep_30 rfl rfl ?_
  refine j_iconst (v := 2) C d_P_keep_32 rfl (by decide) ?_
  refine j_iadd C d_P_keep_33 rfl ?_
  refine j_iload_n C 4 d_P_keep_34 rfl rfl rfl ?_
  refine j_iast C (fun t => (wP ad cA t) ++ wr) 1 0 rfl hT d_P_keep_35 rfl h rfl (fun σ3 h => ?_)
  refine j_aload_n C 1 d_P_keep_36 rfl rfl rfl ?_
  refine j_get C in_P 0 rfl rfl 0 (by decide) tw_143 rfl (v := .ref (ad 1)) rfl d_P_keep_37 rfl ?_
  refine j_iload C 0 d_P_keep_40 rfl rfl ?_
  refine j_iconst (v := 3) C d_P_keep_42 rfl (by decide) ?_
  refine j_iadd C d_P_keep_43 rfl ?_
  refine j_iload C 5 d_P_keep_44 rfl rfl ?_
  refine j_iast C (fun t => (wP ad cA t) ++ wr) 1 0 rfl hT d_P_keep_46 rfl h rfl (fun σ4 h => ?_)
  refine j_aload_n C 1 d_P_keep_47 rfl rfl rfl ?_
  refine j_dup C d_P_keep_48 rfl rfl ?_
  refine j_get C in_P 0 rfl rfl 1 (by decide) tw_144 rfl (v := .int (g_ec σ4)) rfl d_P_keep_49 rfl ?_
  refine j_iconst (v := 1) C d_P_keep_52 rfl (by decide) ?_
  refine j_iadd C d_P_keep_53 rfl ?_
  refine j_put C in_P ty_P_ok nm_P 0 rfl rfl 1 (by decide) tw_144 rfl rfl rfl (Nat.le_of_ble_eq_true rfl) (fun t => (wP ad cA t) ++ wr) d_P_keep_54 rfl h rfl (fun σ5 h => ?_)
  cases h
  exact j_vret C E hr d_P_keep_57
theorem ct_P_keep (l : Launch) (D : va_G) (tys : List (ClassId × FieldType)) {ad : Nat → Nat} {cA : ClassId} {wr : va_W} (hT : tys[0]? = some (cA, .int)) (a1 : Int32) (a2 : Int32) (a3 : Int32) (a4 : Int32) (σ : SP) {σ' : SP} (h : m_P_keep a1 a2 a3 a4 σ = some σ') : jM l y_P_keep ws_P_keep rm_P_keep D tys [.ref (ad 0), .int a1, .int a2, .int a3, .int a4] ((wP ad cA σ) ++ wr) none ((wP ad cA σ') ++ wr) :=
  j_of (by decide +kernel) rfl (Nat.le_of_ble_eq_true rfl) rfl (fun x _ _ hT' hR C hr _ E => w_P_keep C (by rw [hT']; exact hT) hR a1 a2 a3 a4 σ hr E h)
def rm_P_areAllTold : Room := { frames := 1, cells := 0, slots := 0, locals := 21 }
def b_P_areAllTold_2 (c1 : Int32) (σ : SP) (v2 : Int32) : Option ((Int32) ⊕ (Nat × Int32)) :=
  (if (32 : Int32) ≤ v2 then some (.inr (1, v2)) else (mb1 (m_P_isInSet v2 c1) fun r1 => (if r1 = 0 then some (.inl (v2 + 1)) else (mb1 (m_H_isTold v2 σ) fun r3 => (if r3 = 0 then some (.inr (0, v2)) else some (.inl (v2 + 1)))))))
def m_P_areAllTold (a1 : Int32) (σ : SP) : Option (Int32) :=
  (mb2 (lp (fun s => b_P_areAllTold_2 a1 σ s) FU (0 : Int32)) fun tg7 w5 => (if tg7 = 0 then some (0 : Int32) else some (1 : Int32)))
set_option maxHeartbeats 4000000 in
set_option maxRecDepth 100000 in
theorem wb_P_areAllTold_2 {x : JX} {ad : Nat → Nat} {cA : ClassId} {wr : va_W} (C : jC x cc_P_areAllTold 3 "PlainWarehouse") (hT : (jT x)[0]? = some (cA, .int)) (hR : jR x = rm_P_areAllTold)  (c1 : Int32) (σ : SP) (v2 : Int32) {o : (Int32) ⊕ (Nat × Int32)} (h : b_P_areAllTold_2 c1 σ v2 = some o) (kc : ∀ (u2 : Int32), o = .inl u2 → jW x 3 0 0 2 [(0, .ref (ad 0)), (1, .int c1), (2, .int u2)] [] ((wP ad cA σ) ++ wr)) (ke0 : ∀ (u2 : Int32), o = .inr (0, u2) → jW x 3 0 0 27 [(0, .ref (ad 0)), (1, .int c1), (2, .int u2)] [] ((wP ad cA σ) ++ wr)) (ke1 : ∀ (u2 : Int32), o = .inr (1, u2) → jW x 3 0 0 35 [(0, .ref (ad 0)), (1, .int c1), (2, .int u2)] [] ((wP ad cA σ) ++ wr)) : jW x 3 0 0 2 [(0, .ref (ad 0)), (1, .int c1), (2, .int v2)] [] ((wP ad cA σ) ++ wr) := by
  unfold b_P_areAllTold_2 at h
  refine j_iload_n C 2 d_P_areAllTold_2 rfl rfl rfl ?_
  refine j_bipush (v := 32) C d_P_areAllTold_3 rfl (by decide) ?_
  refine j_icmp_ge (tgt := 35) C d_P_areAllTold_5 (by decide) rfl h (fun h => ?_) (fun h => ?_)
  · cases h
    refine j_sub [0, 1, 2] rfl (ke1 _ rfl)
  · refine j_iload_n C 2 d_P_areAllTold_8 rfl rfl rfl ?_
    refine j_iload_n C 1 d_P_areAllTold_9 rfl rfl rfl ?_
    obtain ⟨r1, h2, h⟩ := mb1_some h
    refine j_callS C hR (As := [.int v2, .int c1]) (ct_P_isInSet (jl x) (jD x) (jT x) v2 c1 h2) kf_P_isInSet (by decide) tw_426 tw_427 (rest := []) rfl rfl (Nat.le_of_ble_eq_true rfl) (by decide) ⟨rfl, rfl⟩ d_P_areAllTold_10 rfl (st1 := [.int r1]) rfl ?_
    refine j_if_eq (tgt := 29) C d_P_areAllTold_13 (by decide) rfl h (fun h => ?_) (fun h => ?_)
    · refine j_iinc (v' := (v2 + 1)) (lv' := [(2, .int (v2 + 1)), (0, .ref (ad 0)), (1, .int c1)]) C 2 d_P_areAllTold_29 rfl rfl rfl (by decide) rfl ?_
      refine j_goto (tgt := 2) C d_P_areAllTold_32 (by decide) ?_
      cases h
      refine j_sub [1, 2, 0] rfl (kc _ rfl)
    · refine j_aload_n C 0 d_P_areAllTold_16 rfl rfl rfl ?_
      refine j_get C in_P 0 rfl rfl 3 (by decide) tw_146 rfl (v := .ref (ad 2)) rfl d_P_areAllTold_17 rfl ?_
      refine j_iload_n C 2 d_P_areAllTold_20 rfl rfl rfl ?_
      obtain ⟨r3, h4, h⟩ := mb1_some h
      refine j_callVN C hR (As := [.int v2]) (ct_H_isTold (jl x) (jD x) (jT x) hT v2 σ h4) kf_H_isTold (by decide) tw_407 tw_199 tw_7 2 rfl rfl (rest := []) rfl rfl (Nat.le_of_ble_eq_true rfl) (by decide) ⟨rfl, rfl⟩ d_P_areAllTold_21 rfl (st1 := [.int r3]) rfl ?_
      refine j_if_ne (tgt := 29) C d_P_areAllTold_24 (by decide) rfl h (fun h => ?_) (fun h => ?_)
      · refine j_iinc (v' := (v2 + 1)) (lv' := [(2, .int (v2 + 1)), (0, .ref (ad 0)), (1, .int c1)]) C 2 d_P_areAllTold_29 rfl rfl rfl (by decide) rfl ?_
        refine j_goto (tgt := 2) C d_P_areAllTold_32 (by decide) ?_
        cases h
        refine j_sub [1, 2, 0] rfl (kc _ rfl)
      · cases h
        refine j_sub [0, 1, 2] rfl (ke0 _ rfl)
set_option maxRecDepth 100000 in
theorem wl_P_areAllTold_2 {x : JX} {ad : Nat → Nat} {cA : ClassId} {wr : va_W} (C : jC x cc_P_areAllTold 3 "PlainWarehouse") (hT : (jT x)[0]? = some (cA, .int)) (hR : jR x = rm_P_areAllTold)  (c1 : Int32) (σ : SP) (v2 : Int32) {u2 : Int32} {tg : Nat} (n : Nat) (h : lp (fun s => b_P_areAllTold_2 c1 σ s) n v2 = some (tg, u2)) (K0 : tg = 0 → jW x 3 0 0 27 [(0, .ref (ad 0)), (1, .int c1), (2, .int u2)] [] ((wP ad cA σ) ++ wr)) (K1 : ¬ tg = 0 → jW x 3 0 0 35 [(0, .ref (ad 0)), (1, .int c1), (2, .int u2)] [] ((wP ad cA σ) ++ wr)) : jW x 3 0 0 2 [(0, .ref (ad 0)), (1, .int c1), (2, .int v2)] [] ((wP ad cA σ) ++ wr) :=
  j_lp (Pr := fun s => jW x 3 0 0 2 [(0, .ref (ad 0)), (1, .int c1), (2, .int s)] [] ((wP ad cA σ) ++ wr)) (K := fun s => (s.1 = 0 → jW x 3 0 0 27 [(0, .ref (ad 0)), (1, .int c1), (2, .int s.2)] [] ((wP ad cA σ) ++ wr)) ∧ (¬ s.1 = 0 → jW x 3 0 0 35 [(0, .ref (ad 0)), (1, .int c1), (2, .int s.2)] [] ((wP ad cA σ) ++ wr))) (fun s o h kc ke => wb_P_areAllTold_2 C hT hR c1 σ s h (fun u2 e => kc _ e) (fun u2 e => (ke _ e).1 rfl) (fun u2 e => (ke _ e).2 Nat.one_ne_zero)) n _ _ h ⟨K0, K1⟩
set_option maxHeartbeats 4000000 in
set_option maxRecDepth 100000 in
theorem w_P_areAllTold {x : JX} {ad : Nat → Nat} {cA : ClassId} {wr : va_W} (C : jC x cc_P_areAllTold 3 "PlainWarehouse") (hT : (jT x)[0]? = some (cA, .int)) (hR : jR x = rm_P_areAllTold)  (a1 : Int32) (σ : SP) {r : Int32} (hr : (jt x).sig.returnType = some .boolean) (E : jE x 0 0 (some (.int r)) ((wP ad cA σ) ++ wr)) (h : m_P_areAllTold a1 σ = some r) : jW x 3 0 0 0 [(0, .ref (ad 0)), (1, .int a1)] [] ((wP ad cA σ) ++ wr) := by
  unfold m_P_areAllTold at h
  refine j_iconst (v := 0) C d_P_areAllTold_0 rfl (by decide) ?_
  refine j_istore_n (lv' := [(2, .int (0 : Int32)), (0, .ref (ad 0)), (1, .int a1)]) C d_P_areAllTold_1 rfl rfl (by decide) rfl ?_
  obtain ⟨tg7, w5, h6, h⟩ := mb2_some h
  refine j_sub [1, 2, 0] rfl (wl_P_areAllTold_2 C hT hR a1 σ (0 : Int32) FU h6 (fun q => ?_) (fun q => ?_))
  · rw [if_pos q] at h
    refine j_iconst (v := 0) C d_P_areAllTold_27 rfl (by decide) ?_
    cases h
    exact j_zret C E hr rfl d_P_areAllTold_28
  · rw [if_neg q] at h
    refine j_iconst (v := 1) C d_P_areAllTold_35 rfl (by decide) ?_
    cases h
    exact j_zret C E hr rfl d_P_areAllTold_36
theorem ct_P_areAllTold (l : Launch) (D : va_G) (tys : List (ClassId × FieldType)) {ad : Nat → Nat} {cA : ClassId} {wr : va_W} (hT : tys[0]? = some (cA, .int)) (a1 : Int32) (σ : SP) {r : Int32} (h : m_P_areAllTold a1 σ = some r) : jM l y_P_areAllTold ws_P_areAllTold rm_P_areAllTold D tys [.ref (ad 0), .int a1] ((wP ad cA σ) ++ wr) (some (.int r)) ((wP ad cA σ) ++ wr) :=
  j_of (by decide +kernel) rfl (Nat.le_of_ble_eq_true rfl) rfl (fun x _ _ hT' hR C hr _ E => w_P_areAllTold C (by rw [hT']; exact hT) hR a1 σ hr E h)
def rm_P_isEvent : Room := { frames := 1, cells := 0, slots := 0, locals := 22 }
def m_P_isEvent (a1 : Int32) (σ : SP) : Option (Int32) :=
  (mb1 (m_P_isWithin a1 (0 : Int32) ((g_ec σ) - (1 : Int32))) fun r1 => (mzr r1 (some r1)))
set_option maxHeartbeats 4000000 in
set_option maxRecDepth 100000 in
theorem w_P_isEvent {x : JX} {ad : Nat → Nat} {cA : ClassId} {wr : va_W} (C : jC x cc_P_isEvent 2 "PlainWarehouse") (hT : (jT x)[0]? = some (cA, .int)) (hR : jR x = rm_P_isEvent)  (a1 : Int32) (σ : SP) {r : Int32} (hr : (jt x).sig.returnType = some .boolean) (E : jE x 0 0 (some (.int r)) ((wP ad cA σ) ++ wr)) (h : m_P_isEvent a1 σ = some r) : jW x 2 0 0 0 [(0, .ref (ad 0)), (1, .int a1)] [] ((wP ad cA σ) ++ wr) := by
  unfold m_P_isEvent at h
  refine j_iload_n C 1 d_P_isEvent_0 rfl rfl rfl ?_
  refine j_iconst (v := 0) C d_P_isEvent_1 rfl (by decide) ?_
  refine j_aload_n C 0 d_P_isEvent_2 rfl rfl rfl ?_
  refine j_get C in_P 0 rfl rfl 1 (by decide) tw_144 rfl (v := .int (g_ec σ)) rfl d_P_isEvent_3 rfl ?_
  refine j_iconst (v := 1) C d_P_isEvent_6 rfl (by decide) ?_
  refine j_isub C d_P_isEvent_7 rfl ?_
  obtain ⟨r1, h2, h⟩ := mb1_some h
  refine j_callS C hR (As := [.int a1, .int (0 : Int32), .int ((g_ec σ) - (1 : Int32))]) (ct_P_isWithin (jl x) (jD x) (jT x) a1 (0 : Int32) ((g_ec σ) - (1 : Int32)) h2) kf_P_isWithin (by decide) tw_258 tw_259 (rest := []) rfl rfl (Nat.le_of_ble_eq_true rfl) (by decide) ⟨rfl, rfl⟩ d_P_isEvent_8 rfl (st1 := [.int r1]) rfl ?_
  obtain ⟨hz, h⟩ := mzr_some h
  cases h
  exact j_zret C E hr hz d_P_isEvent_11
theorem ct_P_isEvent (l : Launch) (D : va_G) (tys : List (ClassId × FieldType)) {ad : Nat → Nat} {cA : ClassId} {wr : va_W} (hT : tys[0]? = some (cA, .int)) (a1 : Int32) (σ : SP) {r : Int32} (h : m_P_isEvent a1 σ = some r) : jM l y_P_isEvent ws_P_isEvent rm_P_isEvent D tys [.ref (ad 0), .int a1] ((wP ad cA σ) ++ wr) (some (.int r)) ((wP ad cA σ) ++ wr) :=
  j_of (by decide +kernel) rfl (Nat.le_of_ble_eq_true rfl) rfl (fun x _ _ hT' hR C hr _ E => w_P_isEvent C (by rw [hT']; exact hT) hR a1 σ hr E h)
def rm_P_hasSoMany : Room := { frames := 1, cells := 0, slots := 0, locals := 22 }
def m_P_hasSoMany (a1 : Int32) (σ : SP) : Option (Int32) :=
  (mb1 (m_P_isWithin a1 (0 : Int32) (g_ec σ)) fun r1 => (mzr r1 (some r1)))
set_option maxHeartbeats 4000000 in
set_option maxRecDepth 100000 in
theorem w_P_hasSoMany {x : JX} {ad : Nat → Nat} {cA : ClassId} {wr : va_W} (C : jC x cc_P_hasSoMany 2 "PlainWarehouse") (hT : (jT x)[0]? = some (cA, .int)) (hR : jR x = rm_P_hasSoMany)  (a1 : Int32) (σ : SP) {r : Int32} (hr : (jt x).sig.returnType = some .boolean) (E : jE x 0 0 (some (.int r)) ((wP ad cA σ) ++ wr)) (h : m_P_hasSoMany a1 σ = some r) : jW x 2 0 0 0 [(0, .ref (ad 0)), (1, .int a1)] [] ((wP ad cA σ) ++ wr) := by
  unfold m_P_hasSoMany at h
  refine j_iload_n C 1 d_P_hasSoMany_0 rfl rfl rfl ?_
  refine j_iconst (v := 0) C d_P_hasSoMany_1 rfl (by decide) ?_
  refine j_aload_n C 0 d_P_hasSoMany_2 rfl rfl rfl ?_
  refine j_get C in_P 0 rfl rfl 1 (by decide) tw_144 rfl (v := .int (g_ec σ)) rfl d_P_hasSoMany_3 rfl ?_
  obtain ⟨r1, h2, h⟩ := mb1_some h
  refine j_callS C hR (As := [.int a1, .int (0 : Int32), .int (g_ec σ)]) (ct_P_isWithin (jl x) (jD x) (jT x) a1 (0 : Int32) (g_ec σ) h2) kf_P_isWithin (by decide) tw_258 tw_259 (rest := []) rfl rfl (Nat.le_of_ble_eq_true rfl) (by decide) ⟨rfl, rfl⟩ d_P_hasSoMany_6 rfl (st1 := [.int r1]) rfl ?_
  obtain ⟨hz, h⟩ := mzr_some h
  cases h
  exact j_zret C E hr hz d_P_hasSoMany_9
theorem ct_P_hasSoMany (l : Launch) (D : va_G) (tys : List (ClassId × FieldType)) {ad : Nat → Nat} {cA : ClassId} {wr : va_W} (hT : tys[0]? = some (cA, .int)) (a1 : Int32) (σ : SP) {r : Int32} (h : m_P_hasSoMany a1 σ = some r) : jM l y_P_hasSoMany ws_P_hasSoMany rm_P_hasSoMany D tys [.ref (ad 0), .int a1] ((wP ad cA σ) ++ wr) (some (.int r)) ((wP ad cA σ) ++ wr) :=
  j_of (by decide +kernel) rfl (Nat.le_of_ble_eq_true rfl) rfl (fun x _ _ hT' hR C hr _ E => w_P_hasSoMany C (by rw [hT']; exact hT) hR a1 σ hr E h)
def rm_P_count : Room := { frames := 6, cells := 0, slots := 0, locals := 133 }
def m_P_count (a1 : Int32) (σ : SP) : Option (Int32 × SP) :=
  (mb1 (m_P_replay (g_ec σ) σ) fun σ1 => (if a1 = 0 then some ((g_ec σ1), σ1) else (if a1 = 1 then some ((g_rc σ1), σ1) else (if a1 = 2 then (mb1 (m_H_unitsAt (-1 : Int32) (-1 : Int32) σ1) fun r3 => some (r3, σ1)) else (if a1 = 3 then (mb1 (m_H_toldOrders σ1) fun r5 => some (r5, σ1)) else (if a1 = 4 then (mb1 (m_H_fullOrders σ1) fun r7 => some (r7, σ1)) else (if a1 = 5 then (mb1 (m_H_linkedPairs σ1) fun r9 => some (r9, σ1)) else some ((-1 : Int32), σ1))))))))
set_option maxHeartbeats 4000000 in
set_option maxRecDepth 100000 in
theorem w_P_count {x : JX} {ad : Nat → Nat} {cA : ClassId} {wr : va_W} (C : jC x cc_P_count 2 "PlainWarehouse") (hT : (jT x)[0]? = some (cA, .int)) (hR : jR x = rm_P_count)  (a1 : Int32) (σ : SP) {r : Int32} {σ' : SP} (hr : (jt x).sig.returnType = some .int) (E : jE x 0 0 (some (.int r)) ((wP ad cA σ') ++ wr)) (h : m_P_count a1 σ = some (r, σ')) : jW x 2 0 0 0 [(0, .ref (ad 0)), (1, .int a1)] [] ((wP ad cA σ) ++ wr) := by
  unfold m_P_count at h
  refine j_aload_n C 0 d_P_count_0 rfl rfl rfl ?_
  refine j_aload_n C 0 d_P_count_1 rfl rfl rfl ?_
  refine j_get C in_P 0 rfl rfl 1 (by decide) tw_144 rfl (v := .int (g_ec σ)) rfl d_P_count_2 rfl ?_
  obtain ⟨σ1, h2, h⟩ := mb1_some h
  refine j_callV C hR (As := [.int (g_ec σ)]) (ct_P_replay (jl x) (jD x) (jT x) hT (g_ec σ) σ h2) kf_P_replay (by decide) tw_166 tw_168 tw_0 0 rfl rfl (rest := []) rfl rfl (Nat.le_of_ble_eq_true rfl) (by decide) ⟨rfl, rfl⟩ d_P_count_5 rfl (st1 := []) rfl ?_
  refine j_iload_n C 1 d_P_count_8 rfl rfl rfl ?_
  refine j_tsw (k := 0) (tgt := 48) C d_P_count_9 (by decide) (by decide) rfl (by decide) h (fun h => ?_) (fun n0 h => ?_)
  · refine j_aload_n C 0 d_P_count_48 rfl rfl rfl ?_
    refine j_get C in_P 0 rfl rfl 1 (by decide) tw_144 rfl (v := .int (g_ec σ1)) rfl d_P_count_49 rfl ?_
    cases h
    exact j_iret C E hr d_P_count_52
  refine j_tsw (k := 1) (tgt := 53) C d_P_count_9 (by decide) (by decide) rfl (by decide) h (fun h => ?_) (fun n1 h => ?_)
  · refine j_aload_n C 0 d_P_count_53 rfl rfl rfl ?_
    refine j_get C in_P 0 rfl rfl 2 (by decide) tw_145 rfl (v := .int (g_rc σ1)) rfl d_P_count_54 rfl ?_
    cases h
    exact j_iret C E hr d_P_count_57
  refine j_tsw (k := 2) (tgt := 58) C d_P_count_9 (by decide) (by decide) rfl (by decide) h (fun h => ?_) (fun n2 h => ?_)
  · refine j_aload_n C 0 d_P_count_58 rfl rfl rfl ?_
    refine j_get C in_P 0 rfl rfl 3 (by decide) tw_146 rfl (v := .ref (ad 2)) rfl d_P_count_59 rfl ?_
    refine j_iconst (v := (-1)) C d_P_count_62 rfl (by decide) ?_
    refine j_iconst (v := (-1)) C d_P_count_63 rfl (by decide) ?_
    obtain ⟨r3, h4, h⟩ := mb1_some h
    refine j_callVN C hR (As := [.int (-1 : Int32), .int (-1 : Int32)]) (ct_H_unitsAt (jl x) (jD x) (jT x) hT (-1 : Int32) (-1 : Int32) σ1 h4) kf_H_unitsAt (by decide) tw_220 tw_222 tw_12 2 rfl rfl (rest := []) rfl rfl (Nat.le_of_ble_eq_true rfl) (by decide) ⟨rfl, rfl⟩ d_P_count_64 rfl (st1 := [.int r3]) rfl ?_
    cases h
    exact j_iret C E hr d_P_count_67
  refine j_tsw (k := 3) (tgt := 68) C d_P_count_9 (by decide) (by decide) rfl (by decide) h (fun h => ?_) (fun n3 h => ?_)
  · refine j_aload_n C 0 d_P_count_68 rfl rfl rfl ?_
    refine j_get C in_P 0 rfl rfl 3 (by decide) tw_146 rfl (v := .ref (ad 2)) rfl d_P_count_69 rfl ?_
    obtain ⟨r5, h6, h⟩ := mb1_some h
    refine j_callVN C hR (As := []) (ct_H_toldOrders (jl x) (jD x) (jT x) hT  σ1 h6) kf_H_toldOrders (by decide) tw_227 tw_229 tw_13 2 rfl rfl (rest := []) rfl rfl (Nat.le_of_ble_eq_true rfl) (by decide) ⟨rfl, rfl⟩ d_P_count_72 rfl (st1 := [.int r5]) rfl ?_
    cases h
    exact j_iret C E hr d_P_count_75
  refine j_tsw (k := 4) (tgt := 76) C d_P_count_9 (by decide) (by decide) rfl (by decide) h (fun h => ?_) (fun n4 h => ?_)
  · refine j_aload_n C 0 d_P_count_76 rfl rfl rfl ?_
    refine j_get C in_P 0 rfl rfl 3 (by decide) tw_146 rfl (v := .ref (ad 2)) rfl d_P_count_77 rfl ?_
    obtain ⟨r7, h8, h⟩ := mb1_some h
    refine j_callVN C hR (As := []) (ct_H_fullOrders (jl x) (jD x) (jT x) hT  σ1 h8) kf_H_fullOrders (by decide) tw_231 tw_233 tw_14 2 rfl rfl (rest := []) rfl rfl (Nat.le_of_ble_eq_true rfl) (by decide) ⟨rfl, rfl⟩ d_P_count_80 rfl (st1 := [.int r7]) rfl ?_
    cases h
    exact j_iret C E hr d_P_count_83
  refine j_tsw (k := 5) (tgt := 84) C d_P_count_9 (by decide) (by decide) rfl (by decide) h (fun h => ?_) (fun n5 h => ?_)
  · refine j_aload_n C 0 d_P_count_84 rfl rfl rfl ?_
    refine j_get C in_P 0 rfl rfl 3 (by decide) tw_146 rfl (v := .ref (ad 2)) rfl d_P_count_85 rfl ?_
    obtain ⟨r9, h10, h⟩ := mb1_some h
    refine j_callVN C hR (As := []) (ct_H_linkedPairs (jl x) (jD x) (jT x) hT  σ1 h10) kf_H_linkedPairs (by decide) tw_239 tw_241 tw_16 2 rfl rfl (rest := []) rfl rfl (Nat.le_of_ble_eq_true rfl) (by decide) ⟨rfl, rfl⟩ d_P_count_88 rfl (st1 := [.int r9]) rfl ?_
    cases h
    exact j_iret C E hr d_P_count_91
  refine j_tswD (tgt := 92) C d_P_count_9 (by have q0 := tiNe (z := 0) (by decide) n0; have q1 := tiNe (z := 1) (by decide) n1; have q2 := tiNe (z := 2) (by decide) n2; have q3 := tiNe (z := 3) (by decide) n3; have q4 := tiNe (z := 4) (by decide) n4; have q5 := tiNe (z := 5) (by decide) n5; omega) (by decide) ?_
  refine j_iconst (v := (-1)) C d_P_count_92 rfl (by decide) ?_
  cases h
  exact j_iret C E hr d_P_count_93
theorem ct_P_count (l : Launch) (D : va_G) (tys : List (ClassId × FieldType)) {ad : Nat → Nat} {cA : ClassId} {wr : va_W} (hT : tys[0]? = some (cA, .int)) (a1 : Int32) (σ : SP) {r : Int32} {σ' : SP} (h : m_P_count a1 σ = some (r, σ')) : jM l y_P_count ws_P_count rm_P_count D tys [.ref (ad 0), .int a1] ((wP ad cA σ) ++ wr) (some (.int r)) ((wP ad cA σ') ++ wr) :=
  j_of (by decide +kernel) rfl (Nat.le_of_ble_eq_true rfl) rfl (fun x _ _ hT' hR C hr _ E => w_P_count C (by rw [hT']; exact hT) hR a1 σ hr E h)
