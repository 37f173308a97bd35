set_option maxRecDepth 100000 in
theorem tw_4 : Cond.selects "PlainWarehouse$House" (⟨"PlainWarehouse$House", "isPossible", "(III)Z"⟩ : MethodName) (⟨"PlainWarehouse$House", "isPossible", "(III)Z"⟩ : MethodName) ∈ WS := ws_in 4 rfl rfl
set_option maxRecDepth 100000 in
theorem tw_5 : Cond.selects "PlainWarehouse$House" (⟨"PlainWarehouse$House", "isInside", "(I)Z"⟩ : MethodName) (⟨"PlainWarehouse$House", "isInside", "(I)Z"⟩ : MethodName) ∈ WS := ws_in 5 rfl rfl
set_option maxRecDepth 100000 in
theorem tw_6 : Cond.selects "PlainWarehouse$House" (⟨"PlainWarehouse$House", "isOpen", "(I)Z"⟩ : MethodName) (⟨"PlainWarehouse$House", "isOpen", "(I)Z"⟩ : MethodName) ∈ WS := ws_in 6 rfl rfl
set_option maxRecDepth 100000 in
theorem tw_7 : Cond.selects "PlainWarehouse$House" (⟨"PlainWarehouse$House", "isTold", "(I)Z"⟩ : MethodName) (⟨"PlainWarehouse$House", "isTold", "(I)Z"⟩ : MethodName) ∈ WS := ws_in 7 rfl rfl
set_option maxRecDepth 100000 in
theorem tw_8 : Cond.selects "PlainWarehouse$House" (⟨"PlainWarehouse$House", "isFree", "(I)Z"⟩ : MethodName) (⟨"PlainWarehouse$House", "isFree", "(I)Z"⟩ : MethodName) ∈ WS := ws_in 8 rfl rfl
set_option maxRecDepth 100000 in
theorem tw_9 : Cond.selects "PlainWarehouse$House" (⟨"PlainWarehouse$House", "happen", "(IIII)V"⟩ : MethodName) (⟨"PlainWarehouse$House", "happen", "(IIII)V"⟩ : MethodName) ∈ WS := ws_in 9 rfl rfl
set_option maxRecDepth 100000 in
theorem tw_10 : Cond.selects "PlainWarehouse$House" (⟨"PlainWarehouse$House", "come", "(III)V"⟩ : MethodName) (⟨"PlainWarehouse$House", "come", "(III)V"⟩ : MethodName) ∈ WS := ws_in 10 rfl rfl
set_option maxRecDepth 100000 in
theorem tw_11 : Cond.selects "PlainWarehouse$House" (⟨"PlainWarehouse$House", "leave", "(I)V"⟩ : MethodName) (⟨"PlainWarehouse$House", "leave", "(I)V"⟩ : MethodName) ∈ WS := ws_in 11 rfl rfl
set_option maxRecDepth 100000 in
theorem tw_15 : Cond.selects "PlainWarehouse$House" (⟨"PlainWarehouse$House", "isFull", "(I)Z"⟩ : MethodName) (⟨"PlainWarehouse$House", "isFull", "(I)Z"⟩ : MethodName) ∈ WS := ws_in 15 rfl rfl
set_option maxRecDepth 100000 in
theorem tw_77 : Cond.fieldLink "PlainWarehouse$House" (9 : Nat) "PlainWarehouse$House" "placeOf" "[I" ∈ WS := ws_in 77 rfl rfl
set_option maxRecDepth 100000 in
theorem tw_79 : Cond.fieldLink "PlainWarehouse$House" (15 : Nat) "PlainWarehouse$House" "goodOf" "[I" ∈ WS := ws_in 79 rfl rfl
set_option maxRecDepth 100000 in
theorem tw_80 : Cond.fieldLink "PlainWarehouse$House" (18 : Nat) "PlainWarehouse$House" "givenTo" "[I" ∈ WS := ws_in 80 rfl rfl
set_option maxRecDepth 100000 in
theorem tw_81 : Cond.fieldLink "PlainWarehouse$House" (21 : Nat) "PlainWarehouse$House" "wanted" "[I" ∈ WS := ws_in 81 rfl rfl
set_option maxRecDepth 100000 in
theorem tw_83 : Cond.fieldLink "PlainWarehouse$House" (24 : Nat) "PlainWarehouse$House" "goodWanted" "[I" ∈ WS := ws_in 83 rfl rfl
set_option maxRecDepth 100000 in
theorem tw_86 : Cond.fieldLink "PlainWarehouse$House" (27 : Nat) "PlainWarehouse$House" "got" "[I" ∈ WS := ws_in 86 rfl rfl
set_option maxRecDepth 100000 in
theorem tw_89 : Cond.fieldLink "PlainWarehouse$House" (30 : Nat) "PlainWarehouse$House" "cents" "[I" ∈ WS := ws_in 89 rfl rfl
set_option maxRecDepth 100000 in
theorem tw_91 : Cond.fieldLink "PlainWarehouse$House" (33 : Nat) "PlainWarehouse$House" "link" "[I" ∈ WS := ws_in 91 rfl rfl
set_option maxRecDepth 100000 in
theorem tw_174 : Cond.methodLink "PlainWarehouse$House" (36 : Nat) ({ cls := "java/util/Arrays", name := "fill", desc := "([II)V" } : MethodName) ∈ WS := ws_in 174 rfl rfl
set_option maxRecDepth 100000 in
theorem tw_175 : Cond.static ({ cls := "java/util/Arrays", name := "fill", desc := "([II)V" } : MethodName) ∈ WS := ws_in 175 rfl rfl
set_option maxRecDepth 100000 in
theorem tw_185 : Cond.methodLink "PlainWarehouse$House" (42 : Nat) ({ cls := "PlainWarehouse$House", name := "isPossible", desc := "(III)Z" } : MethodName) ∈ WS := ws_in 185 rfl rfl
set_option maxRecDepth 100000 in
theorem tw_187 : Cond.instanceMethod ({ cls := "PlainWarehouse$House", name := "isPossible", desc := "(III)Z" } : MethodName) ∈ WS := ws_in 187 rfl rfl
set_option maxRecDepth 100000 in
theorem tw_189 : Cond.methodLink "PlainWarehouse$House" (50 : Nat) ({ cls := "PlainWarehouse$House", name := "isInside", desc := "(I)Z" } : MethodName) ∈ WS := ws_in 189 rfl rfl
set_option maxRecDepth 100000 in
theorem tw_191 : Cond.instanceMethod ({ cls := "PlainWarehouse$House", name := "isInside", desc := "(I)Z" } : MethodName) ∈ WS := ws_in 191 rfl rfl
set_option maxRecDepth 100000 in
theorem tw_193 : Cond.methodLink "PlainWarehouse$House" (54 : Nat) ({ cls := "PlainWarehouse$House", name := "isOpen", desc := "(I)Z" } : MethodName) ∈ WS := ws_in 193 rfl rfl
set_option maxRecDepth 100000 in
theorem tw_195 : Cond.instanceMethod ({ cls := "PlainWarehouse$House", name := "isOpen", desc := "(I)Z" } : MethodName) ∈ WS := ws_in 195 rfl rfl
set_option maxRecDepth 100000 in
theorem tw_197 : Cond.methodLink "PlainWarehouse$House" (57 : Nat) ({ cls := "PlainWarehouse$House", name := "isTold", desc := "(I)Z" } : MethodName) ∈ WS := ws_in 197 rfl rfl
set_option maxRecDepth 100000 in
theorem tw_199 : Cond.instanceMethod ({ cls := "PlainWarehouse$House", name := "isTold", desc := "(I)Z" } : MethodName) ∈ WS := ws_in 199 rfl rfl
set_option maxRecDepth 100000 in
theorem tw_201 : Cond.methodLink "PlainWarehouse$House" (60 : Nat) ({ cls := "PlainWarehouse$House", name := "isFree", desc := "(I)Z" } : MethodName) ∈ WS := ws_in 201 rfl rfl
set_option maxRecDepth 100000 in
theorem tw_203 : Cond.instanceMethod ({ cls := "PlainWarehouse$House", name := "isFree", desc := "(I)Z" } : MethodName) ∈ WS := ws_in 203 rfl rfl
set_option maxRecDepth 100000 in
theorem tw_205 : Cond.methodLink "PlainWarehouse$House" (46 : Nat) ({ cls := "PlainWarehouse$House", name := "happen", desc := "(IIII)V" } : MethodName) ∈ WS := ws_in 205 rfl rfl
set_option maxRecDepth 100000 in
theorem tw_207 : Cond.instanceMethod ({ cls := "PlainWarehouse$House", name := "happen", desc := "(IIII)V" } : MethodName) ∈ WS := ws_in 207 rfl rfl
set_option maxRecDepth 100000 in
theorem tw_209 : Cond.methodLink "PlainWarehouse$House" (63 : Nat) ({ cls := "PlainWarehouse$House", name := "come", desc := "(III)V" } : MethodName) ∈ WS := ws_in 209 rfl rfl
set_option maxRecDepth 100000 in
theorem tw_211 : Cond.instanceMethod ({ cls := "PlainWarehouse$House", name := "come", desc := "(III)V" } : MethodName) ∈ WS := ws_in 211 rfl rfl
set_option maxRecDepth 100000 in
theorem tw_213 : Cond.methodLink "PlainWarehouse$House" (67 : Nat) ({ cls := "PlainWarehouse$House", name := "leave", desc := "(I)V" } : MethodName) ∈ WS := ws_in 213 rfl rfl
set_option maxRecDepth 100000 in
theorem tw_215 : Cond.instanceMethod ({ cls := "PlainWarehouse$House", name := "leave", desc := "(I)V" } : MethodName) ∈ WS := ws_in 215 rfl rfl
set_option maxRecDepth 100000 in
theorem tw_217 : Cond.methodLinkNest "PlainWarehouse$House" (71 : Nat) ({ cls := "PlainWarehouse", name := "pair", desc := "(II)I" } : MethodName) "PlainWarehouse" ∈ NWS := nws_in 217 rfl rfl
set_option maxRecDepth 100000 in
theorem tw_218 : Cond.static ({ cls := "PlainWarehouse", name := "pair", desc := "(II)I" } : MethodName) ∈ WS := ws_in 218 rfl rfl
set_option maxRecDepth 100000 in
theorem tw_224 : Cond.methodLink "PlainWarehouse$House" (75 : Nat) ({ cls := "PlainWarehouse$House", name := "isAsked", desc := "(II)Z" } : MethodName) ∈ WS := ws_in 224 rfl rfl
set_option maxRecDepth 100000 in
theorem tw_225 : Cond.static ({ cls := "PlainWarehouse$House", name := "isAsked", desc := "(II)Z" } : MethodName) ∈ WS := ws_in 225 rfl rfl
set_option maxRecDepth 100000 in
theorem tw_235 : Cond.methodLink "PlainWarehouse$House" (79 : Nat) ({ cls := "PlainWarehouse$House", name := "isFull", desc := "(I)Z" } : MethodName) ∈ WS := ws_in 235 rfl rfl
set_option maxRecDepth 100000 in
theorem tw_237 : Cond.instanceMethod ({ cls := "PlainWarehouse$House", name := "isFull", desc := "(I)Z" } : MethodName) ∈ WS := ws_in 237 rfl rfl
def rm_H_isInside : Room := { frames := 0, cells := 0, slots := 0, locals := 0 }
def m_H_isInside (a1 : Int32) (σ : SP) : Option (Int32) :=
  (mrd 20 (g_pl σ) a1 fun r1 => (if r1 = (-1 : Int32) then some (0 : Int32) else some (1 : Int32)))
set_option maxHeartbeats 4000000 in
set_option maxRecDepth 100000 in
theorem w_H_isInside {x : JX} {ad : Nat → Nat} {cA : ClassId} {wr : va_W} (C : jC x cc_H_isInside 2 "PlainWarehouse$House") (hT : (jT x)[0]? = some (cA, .int)) (hR : jR x = rm_H_isInside)  (a1 : Int32) (σ : SP) {r : Int32} (hr : (jt x).sig.returnType = some .boolean) (E : jE x 0 0 (some (.int r)) ((wP ad cA σ) ++ wr)) (h : m_H_isInside a1 σ = some r) : jW x 2 0 0 0 [(0, .ref (ad 2)), (1, .int a1)] [] ((wP ad cA σ) ++ wr) := by
  unfold m_H_isInside at h
  refine j_aload_n C 0 d_H_isInside_0 rfl rfl rfl ?_
  refine j_get C in_H 2 rfl rfl 0 (by decide) tw_77 rfl (v := .ref (ad 3)) rfl d_H_isInside_1 rfl ?_
  refine j_iload_n C 1 d_H_isInside_4 rfl rfl rfl ?_
  refine j_iald C 3 0 rfl hT d_H_isInside_5 rfl h (fun r1 h => ?_)
  refine j_iconst (v := (-1)) C d_H_isInside_6 rfl (by decide) ?_
  refine j_icmp_eq (tgt := 14) C d_H_isInside_7 (by decide) rfl h (fun h => ?_) (fun h => ?_)
  · refine j_iconst (v := 0) C d_H_isInside_14 rfl (by decide) ?_
    cases h
    exact j_zret C E hr rfl d_H_isInside_15
  · refine j_iconst (v := 1) C d_H_isInside_10 rfl (by decide) ?_
    refine j_goto (tgt := 15) C d_H_isInside_11 (by decide) ?_
    cases h
    exact j_zret C E hr rfl d_H_isInside_15
theorem ct_H_isInside (l : Launch) (D : va_G) (tys : List (ClassId × FieldType)) {ad : Nat → Nat} {cA : ClassId} {wr : va_W} (hT : tys[0]? = some (cA, .int)) (a1 : Int32) (σ : SP) {r : Int32} (h : m_H_isInside a1 σ = some r) : jM l y_H_isInside ws_H_isInside rm_H_isInside D tys [.ref (ad 2), .int a1] ((wP ad cA σ) ++ wr) (some (.int r)) ((wP ad cA σ) ++ wr) :=
  j_of (by decide +kernel) rfl (Nat.le_of_ble_eq_true rfl) rfl (fun x _ _ hT' hR C hr _ E => w_H_isInside C (by rw [hT']; exact hT) hR a1 σ hr E h)
def rm_H_isTold : Room := { frames := 0, cells := 0, slots := 0, locals := 0 }
def m_H_isTold (a1 : Int32) (σ : SP) : Option (Int32) :=
  (if a1 < 0 then some (0 : Int32) else (if (10 : Int32) ≤ a1 then some (0 : Int32) else (mrd 10 (g_wa σ) a1 fun r1 => (if r1 ≤ 0 then some (0 : Int32) else some (1 : Int32)))))
set_option maxHeartbeats 4000000 in
set_option maxRecDepth 100000 in
theorem w_H_isTold {x : JX} {ad : Nat → Nat} {cA : ClassId} {wr : va_W} (C : jC x cc_H_isTold 2 "PlainWarehouse$House") (hT : (jT x)[0]? = some (cA, .int)) (hR : jR x = rm_H_isTold)  (a1 : Int32) (σ : SP) {r : Int32} (hr : (jt x).sig.returnType = some .boolean) (E : jE x 0 0 (some (.int r)) ((wP ad cA σ) ++ wr)) (h : m_H_isTold a1 σ = some r) : jW x 2 0 0 0 [(0, .ref (ad 2)), (1, .int a1)] [] ((wP ad cA σ) ++ wr) := by
  unfold m_H_isTold at h
  refine j_iload_n C 1 d_H_isTold_0 rfl rfl rfl ?_
  refine j_if_lt (tgt := 23) C d_H_isTold_1 (by decide) rfl h (fun h => ?_) (fun h => ?_)
  · refine j_iconst (v := 0) C d_H_isTold_23 rfl (by decide) ?_
    cases h
    exact j_zret C E hr rfl d_H_isTold_24
  · refine j_iload_n C 1 d_H_isTold_4 rfl rfl rfl ?_
    refine j_bipush (v := 10) C d_H_isTold_5 rfl (by decide) ?_
    refine j_icmp_ge (tgt := 23) C d_H_isTold_7 (by decide) rfl h (fun h => ?_) (fun h => ?_)
    · refine j_iconst (v := 0) C d_H_isTold_23 rfl (by decide) ?_
      cases h
      exact j_zret C E hr rfl d_H_isTold_24
    · refine j_aload_n C 0 d_H_isTold_10 rfl rfl rfl ?_
      refine j_get C in_H 2 rfl rfl 3 (by decide) tw_81 rfl (v := .ref (ad 6)) rfl d_H_isTold_11 rfl ?_
      refine j_iload_n C 1 d_H_isTold_14 rfl rfl rfl ?_
      refine j_iald C 6 0 rfl hT d_H_isTold_15 rfl h (fun r1 h => ?_)
      refine j_if_le (tgt := 23) C d_H_isTold_16 (by decide) rfl h (fun h => ?_) (fun h => ?_)
      · refine j_iconst (v := 0) C d_H_isTold_23 rfl (by decide) ?_
        cases h
        exact j_zret C E hr rfl d_H_isTold_24
      · refine j_iconst (v := 1) C d_H_isTold_19 rfl (by decide) ?_
        refine j_goto (tgt := 24) C d_H_isTold_20 (by decide) ?_
        cases h
        exact j_zret C E hr rfl d_H_isTold_24
theorem ct_H_isTold (l : Launch) (D : va_G) (tys : List (ClassId × FieldType)) {ad : Nat → Nat} {cA : ClassId} {wr : va_W} (hT : tys[0]? = some (cA, .int)) (a1 : Int32) (σ : SP) {r : Int32} (h : m_H_isTold a1 σ = some r) : jM l y_H_isTold ws_H_isTold rm_H_isTold D tys [.ref (ad 2), .int a1] ((wP ad cA σ) ++ wr) (some (.int r)) ((wP ad cA σ) ++ wr) :=
  j_of (by decide +kernel) rfl (Nat.le_of_ble_eq_true rfl) rfl (fun x _ _ hT' hR C hr _ E => w_H_isTold C (by rw [hT']; exact hT) hR a1 σ hr E h)
def rm_H_isFree : Room := { frames := 1, cells := 0, slots := 0, locals := 21 }
def m_H_isFree (a1 : Int32) (σ : SP) : Option (Int32) :=
  (mb1 (m_H_isInside a1 σ) fun r1 => (if r1 = 0 then some (0 : Int32) else (mrd 20 (g_gv σ) a1 fun r3 => (if r3 = (-1 : Int32) then some (1 : Int32) else some (0 : Int32)))))
set_option maxHeartbeats 4000000 in
set_option maxRecDepth 100000 in
theorem w_H_isFree {x : JX} {ad : Nat → Nat} {cA : ClassId} {wr : va_W} (C : jC x cc_H_isFree 2 "PlainWarehouse$House") (hT : (jT x)[0]? = some (cA, .int)) (hR : jR x = rm_H_isFree)  (a1 : Int32) (σ : SP) {r : Int32} (hr : (jt x).sig.returnType = some .boolean) (E : jE x 0 0 (some (.int r)) ((wP ad cA σ) ++ wr)) (h : m_H_isFree a1 σ = some r) : jW x 2 0 0 0 [(0, .ref (ad 2)), (1, .int a1)] [] ((wP ad cA σ) ++ wr) := by
  unfold m_H_isFree at h
  refine j_aload_n C 0 d_H_isFree_0 rfl rfl rfl ?_
  refine j_iload_n C 1 d_H_isFree_1 rfl rfl rfl ?_
  obtain ⟨r1, h2, h⟩ := mb1_some h
  refine j_callV C hR (As := [.int a1]) (ct_H_isInside (jl x) (jD x) (jT x) hT a1 σ h2) kf_H_isInside (by decide) tw_189 tw_191 tw_5 2 rfl rfl (rest := []) rfl rfl (Nat.le_of_ble_eq_true rfl) (by decide) ⟨rfl, rfl⟩ d_H_isFree_2 rfl (st1 := [.int r1]) rfl ?_
  refine j_if_eq (tgt := 22) C d_H_isFree_5 (by decide) rfl h (fun h => ?_) (fun h => ?_)
  · refine j_iconst (v := 0) C d_H_isFree_22 rfl (by decide) ?_
    cases h
    exact j_zret C E hr rfl d_H_isFree_23
  · refine j_aload_n C 0 d_H_isFree_8 rfl rfl rfl ?_
    refine j_get C in_H 2 rfl rfl 2 (by decide) tw_80 rfl (v := .ref (ad 5)) rfl d_H_isFree_9 rfl ?_
    refine j_iload_n C 1 d_H_isFree_12 rfl rfl rfl ?_
    refine j_iald C 5 0 rfl hT d_H_isFree_13 rfl h (fun r3 h => ?_)
    refine j_iconst (v := (-1)) C d_H_isFree_14 rfl (by decide) ?_
    refine j_icmp_ne (tgt := 22) C d_H_isFree_15 (by decide) rfl h (fun h => ?_) (fun h => ?_)
    · refine j_iconst (v := 0) C d_H_isFree_22 rfl (by decide) ?_
      cases h
      exact j_zret C E hr rfl d_H_isFree_23
    · refine j_iconst (v := 1) C d_H_isFree_18 rfl (by decide) ?_
      refine j_goto (tgt := 23) C d_H_isFree_19 (by decide) ?_
      cases h
      exact j_zret C E hr rfl d_H_isFree_23
theorem ct_H_isFree (l : Launch) (D : va_G) (tys : List (ClassId × FieldType)) {ad : Nat → Nat} {cA : ClassId} {wr : va_W} (hT : tys[0]? = some (cA, .int)) (a1 : Int32) (σ : SP) {r : Int32} (h : m_H_isFree a1 σ = some r) : jM l y_H_isFree ws_H_isFree rm_H_isFree D tys [.ref (ad 2), .int a1] ((wP ad cA σ) ++ wr) (some (.int r)) ((wP ad cA σ) ++ wr) :=
  j_of (by decide +kernel) rfl (Nat.le_of_ble_eq_true rfl) rfl (fun x _ _ hT' hR C hr _ E => w_H_isFree C (by rw [hT']; exact hT) hR a1 σ hr E h)
def rm_H_isOpen : Room := { frames := 1, cells := 0, slots := 0, locals := 21 }
def m_H_isOpen (a1 : Int32) (σ : SP) : Option (Int32) :=
  (mb1 (m_H_isTold a1 σ) fun r1 => (if r1 = 0 then some (0 : Int32) else (mrd 10 (g_gt σ) a1 fun r3 => (mrd 10 (g_wa σ) a1 fun r4 => (if r4 ≤ r3 then some (0 : Int32) else some (1 : Int32))))))
set_option maxHeartbeats 4000000 in
set_option maxRecDepth 100000 in
theorem w_H_isOpen {x : JX} {ad : Nat → Nat} {cA : ClassId} {wr : va_W} (C : jC x cc_H_isOpen 2 "PlainWarehouse$House") (hT : (jT x)[0]? = some (cA, .int)) (hR : jR x = rm_H_isOpen)  (a1 : Int32) (σ : SP) {r : Int32} (hr : (jt x).sig.returnType = some .boolean) (E : jE x 0 0 (some (.int r)) ((wP ad cA σ) ++ wr)) (h : m_H_isOpen a1 σ = some r) : jW x 2 0 0 0 [(0, .ref (ad 2)), (1, .int a1)] [] ((wP ad cA σ) ++ wr) := by
  unfold m_H_isOpen at h
  refine j_aload_n C 0 d_H_isOpen_0 rfl rfl rfl ?_
  refine j_iload_n C 1 d_H_isOpen_1 rfl rfl rfl ?_
  obtain ⟨r1, h2, h⟩ := mb1_some h
  refine j_callV C hR (As := [.int a1]) (ct_H_isTold (jl x) (jD x) (jT x) hT a1 σ h2) kf_H_isTold (by decide) tw_197 tw_199 tw_7 2 rfl rfl (rest := []) rfl rfl (Nat.le_of_ble_eq_true rfl) (by decide) ⟨rfl, rfl⟩ d_H_isOpen_2 rfl (st1 := [.int r1]) rfl ?_
  refine j_if_eq (tgt := 27) C d_H_isOpen_5 (by decide) rfl h (fun h => ?_) (fun h => ?_)
  · refine j_iconst (v := 0) C d_H_isOpen_27 rfl (by decide) ?_
    cases h
    exact j_zret C E hr rfl d_H_isOpen_28
  · refine j_aload_n C 0 d_H_isOpen_8 rfl rfl rfl ?_
    refine j_get C in_H 2 rfl rfl 5 (by decide) tw_86 rfl (v := .ref (ad 8)) rfl d_H_isOpen_9 rfl ?_
    refine j_iload_n C 1 d_H_isOpen_12 rfl rfl rfl ?_
    refine j_iald C 8 0 rfl hT d_H_isOpen_13 rfl h (fun r3 h => ?_)
    refine j_aload_n C 0 d_H_isOpen_14 rfl rfl rfl ?_
    refine j_get C in_H 2 rfl rfl 3 (by decide) tw_81 rfl (v := .ref (ad 6)) rfl d_H_isOpen_15 rfl ?_
    refine j_iload_n C 1 d_H_isOpen_18 rfl rfl rfl ?_
    refine j_iald C 6 0 rfl hT d_H_isOpen_19 rfl h (fun r4 h => ?_)
    refine j_icmp_ge (tgt := 27) C d_H_isOpen_20 (by decide) rfl h (fun h => ?_) (fun h => ?_)
    · refine j_iconst (v := 0) C d_H_isOpen_27 rfl (by decide) ?_
      cases h
      exact j_zret C E hr rfl d_H_isOpen_28
    · refine j_iconst (v := 1) C d_H_isOpen_23 rfl (by decide) ?_
      refine j_goto (tgt := 28) C d_H_isOpen_24 (by decide) ?_
      cases h
      exact j_zret C E hr rfl d_H_isOpen_28
theorem ct_H_isOpen (l : Launch) (D : va_G) (tys : List (ClassId × FieldType)) {ad : Nat → Nat} {cA : ClassId} {wr : va_W} (hT : tys[0]? = some (cA, .int)) (a1 : Int32) (σ : SP) {r : Int32} (h : m_H_isOpen a1 σ = some r) : jM l y_H_isOpen ws_H_isOpen rm_H_isOpen D tys [.ref (ad 2), .int a1] ((wP ad cA σ) ++ wr) (some (.int r)) ((wP ad cA σ) ++ wr) :=
  j_of (by decide +kernel) rfl (Nat.le_of_ble_eq_true rfl) rfl (fun x _ _ hT' hR C hr _ E => w_H_isOpen C (by rw [hT']; exact hT) hR a1 σ hr E h)
def rm_H_isFull : Room := { frames := 1, cells := 0, slots := 0, locals := 21 }
def m_H_isFull (a1 : Int32) (σ : SP) : Option (Int32) :=
  (mb1 (m_H_isTold a1 σ) fun r1 => (if r1 = 0 then some (0 : Int32) else (mrd 10 (g_gt σ) a1 fun r3 => (mrd 10 (g_wa σ) a1 fun r4 => (if r3 < r4 then some (0 : Int32) else some (1 : Int32))))))
set_option maxHeartbeats 4000000 in
set_option maxRecDepth 100000 in
theorem w_H_isFull {x : JX} {ad : Nat → Nat} {cA : ClassId} {wr : va_W} (C : jC x cc_H_isFull 2 "PlainWarehouse$House") (hT : (jT x)[0]? = some (cA, .int)) (hR : jR x = rm_H_isFull)  (a1 : Int32) (σ : SP) {r : Int32} (hr : (jt x).sig.returnType = some .boolean) (E : jE x 0 0 (some (.int r)) ((wP ad cA σ) ++ wr)) (h : m_H_isFull a1 σ = some r) : jW x 2 0 0 0 [(0, .ref (ad 2)), (1, .int a1)] [] ((wP ad cA σ) ++ wr) := by
  unfold m_H_isFull at h
  refine j_aload_n C 0 d_H_isFull_0 rfl rfl rfl ?_
  refine j_iload_n C 1 d_H_isFull_1 rfl rfl rfl ?_
  obtain ⟨r1, h2, h⟩ := mb1_some h
  refine j_callV C hR (As := [.int a1]) (ct_H_isTold (jl x) (jD x) (jT x) hT a1 σ h2) kf_H_isTold (by decide) tw_197 tw_199 tw_7 2 rfl rfl (rest := []) rfl rfl (Nat.le_of_ble_eq_true rfl) (by decide) ⟨rfl, rfl⟩ d_H_isFull_2 rfl (st1 := [.int r1]) rfl ?_
  refine j_if_eq (tgt := 27) C d_H_isFull_5 (by decide) rfl h (fun h => ?_) (fun h => ?_)
  · refine j_iconst (v := 0) C d_H_isFull_27 rfl (by decide) ?_
    cases h
    exact j_zret C E hr rfl d_H_isFull_28
  · refine j_aload_n C 0 d_H_isFull_8 rfl rfl rfl ?_
    refine j_get C in_H 2 rfl rfl 5 (by decide) tw_86 rfl (v := .ref (ad 8)) rfl d_H_isFull_9 rfl ?_
    refine j_iload_n C 1 d_H_isFull_12 rfl rfl rfl ?_
    refine j_iald C 8 0 rfl hT d_H_isFull_13 rfl h (fun r3 h => ?_)
    refine j_aload_n C 0 d_H_isFull_14 rfl rfl rfl ?_
    refine j_get C in_H 2 rfl rfl 3 (by decide) tw_81 rfl (v := .ref (ad 6)) rfl d_H_isFull_15 rfl ?_
    refine j_iload_n C 1 d_H_isFull_18 rfl rfl rfl ?_
    refine j_iald C 6 0 rfl hT d_H_isFull_19 rfl h (fun r4 h => ?_)
    refine j_icmp_lt (tgt := 27) C d_H_isFull_20 (by decide) rfl h (fun h => ?_) (fun h => ?_)
    · refine j_iconst (v := 0) C d_H_isFull_27 rfl (by decide) ?_
      cases h
      exact j_zret C E hr rfl d_H_isFull_28
    · refine j_iconst (v := 1) C d_H_isFull_23 rfl (by decide) ?_
      refine j_goto (tgt := 28) C d_H_isFull_24 (by decide) ?_
      cases h
      exact j_zret C E hr rfl d_H_isFull_28
theorem ct_H_isFull (l : Launch) (D : va_G) (tys : List (ClassId × FieldType)) {ad : Nat → Nat} {cA : ClassId} {wr : va_W} (hT : tys[0]? = some (cA, .int)) (a1 : Int32) (σ : SP) {r : Int32} (h : m_H_isFull a1 σ = some r) : jM l y_H_isFull ws_H_isFull rm_H_isFull D tys [.ref (ad 2), .int a1] ((wP ad cA σ) ++ wr) (some (.int r)) ((wP ad cA σ) ++ wr) :=
  j_of (by decide +kernel) rfl (Nat.le_of_ble_eq_true rfl) rfl (fun x _ _ hT' hR C hr _ E => w_H_isFull C (by rw [hT']; exact hT) hR a1 σ hr E h)
def rm_H_come : Room := { frames := 0, cells := 0, slots := 0, locals := 0 }
def m_H_come (a1 : Int32) (a2 : Int32) (a3 : Int32) (σ : SP) : Option (SP) :=
  (mck 20 a1 (mlet (u_pl σ (upd (g_pl σ) a1.toNatClampNeg a3)) fun σ1 => (mck 20 a1 (mlet (u_gd σ1 (upd (g_gd σ1) a1.toNatClampNeg a2)) fun σ2 => some σ2))))
set_option maxHeartbeats 4000000 in
set_option maxRecDepth 100000 in
theorem w_H_come {x : JX} {ad : Nat → Nat} {cA : ClassId} {wr : va_W} (C : jC x cc_H_come 4 "PlainWarehouse$House") (hT : (jT x)[0]? = some (cA, .int)) (hR : jR x = rm_H_come)  (a1 : Int32) (a2 : Int32) (a3 : Int32) (σ : SP) {σ' : SP} (hr : (jt x).sig.returnType = none) (E : jE x 0 0 none ((wP ad cA σ') ++ wr)) (h : m_H_come a1 a2 a3 σ = some σ') : jW x 4 0 0 0 [(0, .ref (ad 2)), (1, .int a1), (2, .int a2), (3, .int a3)] [] ((wP ad cA σ) ++ wr) := by
  unfold m_H_come at h
  refine j_aload_n C 0 d_H_come_0 rfl rfl rfl ?_
  refine j_get C in_H 2 rfl rfl 0 (by decide) tw_77 rfl (v := .ref (ad 3)) rfl d_H_come_1 rfl ?_
  refine j_iload_n C 1 d_H_come_4 rfl rfl rfl ?_
  refine j_iload_n C 3 d_H_come_5 rfl rfl rfl ?_
  refine j_iast C (fun t => (wP ad cA t) ++ wr) 3 0 rfl hT d_H_come_6 rfl h rfl (fun σ1 h => ?_)
  refine j_aload_n C 0 d_H_come_7 rfl rfl rfl ?_
  refine j_get C in_H 2 rfl rfl 1 (by decide) tw_79 rfl (v := .ref (ad 4)) rfl d_H_come_8 rfl ?_
  refine j_iload_n C 1 d_H_come_11 rfl rfl rfl ?_
  refine j_iload_n C 2 d_H_come_12 rfl rfl rfl ?_
  refine j_iast C (fun t => (wP ad cA t) ++ wr) 4 0 rfl hT d_H_come_13 rfl h rfl (fun σ2 h => ?_)
  cases h
  exact j_vret C E hr d_H_come_14
theorem ct_H_come (l : Launch) (D : va_G) (tys : List (ClassId × FieldType)) {ad : Nat → Nat} {cA : ClassId} {wr : va_W} (hT : tys[0]? = some (cA, .int)) (a1 : Int32) (a2 : Int32) (a3 : Int32) (σ : SP) {σ' : SP} (h : m_H_come a1 a2 a3 σ = some σ') : jM l y_H_come ws_H_come rm_H_come D tys [.ref (ad 2), .int a1, .int a2, .int a3] ((wP ad cA σ) ++ wr) none ((wP ad cA σ') ++ wr) :=
  j_of (by decide +kernel) rfl (Nat.le_of_ble_eq_true rfl) rfl (fun x _ _ hT' hR C hr _ E => w_H_come C (by rw [hT']; exact hT) hR a1 a2 a3 σ hr E h)
def rm_H_leave : Room := { frames := 0, cells := 0, slots := 0, locals := 0 }
def m_H_leave (a1 : Int32) (σ : SP) : Option (SP) :=
  (mck 20 a1 (mlet (u_pl σ (upd (g_pl σ) a1.toNatClampNeg (-1 : Int32))) fun σ1 => (mck 20 a1 (mlet (u_gv σ1 (upd (g_gv σ1) a1.toNatClampNeg (-1 : Int32))) fun σ2 => some σ2))))
set_option maxHeartbeats 4000000 in
set_option maxRecDepth 100000 in
theorem w_H_leave {x : JX} {ad : Nat → Nat} {cA : ClassId} {wr : va_W} (C : jC x cc_H_leave 2 "PlainWarehouse$House") (hT : (jT x)[0]? = some (cA, .int)) (hR : jR x = rm_H_leave)  (a1 : Int32) (σ : SP) {σ' : SP} (hr : (jt x).sig.returnType = none) (E : jE x 0 0 none ((wP ad cA σ') ++ wr)) (h : m_H_leave a1 σ = some σ') : jW x 2 0 0 0 [(0, .ref (ad 2)), (1, .int a1)] [] ((wP ad cA σ) ++ wr) := by
  unfold m_H_leave at h
  refine j_aload_n C 0 d_H_leave_0 rfl rfl rfl ?_
  refine j_get C in_H 2 rfl rfl 0 (by decide) tw_77 rfl (v := .ref (ad 3)) rfl d_H_leave_1 rfl ?_
  refine j_iload_n C 1 d_H_leave_4 rfl rfl rfl ?_
  refine j_iconst (v := (-1)) C d_H_leave_5 rfl (by decide) ?_
  refine j_iast C (fun t => (wP ad cA t) ++ wr) 3 0 rfl hT d_H_leave_6 rfl h rfl (fun σ1 h => ?_)
  refine j_aload_n C 0 d_H_leave_7 rfl rfl rfl ?_
  refine j_get C in_H 2 rfl rfl 2 (by decide) tw_80 rfl (v := .ref (ad 5)) rfl d_H_leave_8 rfl ?_
  refine j_iload_n C 1 d_H_leave_11 rfl rfl rfl ?_
  refine j_iconst (v := (-1)) C d_H_leave_12 rfl (by decide) ?_
  refine j_iast C (fun t => (wP ad cA t) ++ wr) 5 0 rfl hT d_H_leave_13 rfl h rfl (fun σ2 h => ?_)
  cases h
  exact j_vret C E hr d_H_leave_14
theorem ct_H_leave (l : Launch) (D : va_G) (tys : List (ClassId × FieldType)) {ad : Nat → Nat} {cA : ClassId} {wr : va_W} (hT : tys[0]? = some (cA, .int)) (a1 : Int32) (σ : SP) {σ' : SP} (h : m_H_leave a1 σ = some σ') : jM l y_H_leave ws_H_leave rm_H_leave D tys [.ref (ad 2), .int a1] ((wP ad cA σ) ++ wr) none ((wP ad cA σ') ++ wr) :=
  j_of (by decide +kernel) rfl (Nat.le_of_ble_eq_true rfl) rfl (fun x _ _ hT' hR C hr _ E => w_H_leave C (by rw [hT']; exact hT) hR a1 σ hr E h)
def rm_H_isPossible : Room := { frames := 2, cells := 0, slots := 0, locals := 42 }
def m_H_isPossible (a1 : Int32) (a2 : Int32) (a3 : Int32) (σ : SP) : Option (Int32) :=
  (if a1 = 0 then (mb1 (m_H_isInside a2 σ) fun r1 => (if r1 = 0 then some (1 : Int32) else some (0 : Int32))) else (if a1 = 1 then (mb1 (m_H_isInside a2 σ) fun r3 => (mzr r3 (some r3))) else (if a1 = 2 then (mb1 (m_H_isInside a2 σ) fun r5 => (if r5 = 0 then some (0 : Int32) else (mrd 20 (g_gv σ) a2 fun r7 => (mb1 (m_H_isOpen r7 σ) fun r8 => (if r8 = 0 then some (1 : Int32) else some (0 : Int32)))))) else (if a1 = 3 then (mb1 (m_H_isTold a2 σ) fun r10 => (if r10 = 0 then some (1 : Int32) else some (0 : Int32))) else (if a1 = 4 then (mb1 (m_H_isFree a2 σ) fun r12 => (if r12 = 0 then some (0 : Int32) else (mb1 (m_H_isOpen a3 σ) fun r14 => (if r14 = 0 then some (0 : Int32) else (mrd 20 (g_gd σ) a2 fun r16 => (mrd 10 (g_gw σ) a3 fun r17 => (if r16 = r17 then some (1 : Int32) else some (0 : Int32)))))))) else (if a1 = 5 then some (1 : Int32) else (if a1 = 6 then (if a2 = a3 then some (0 : Int32) else some (1 : Int32)) else some (1 : Int32))))))))
set_option maxHeartbeats 4000000 in
set_option maxRecDepth 100000 in
theorem w_H_isPossible {x : JX} {ad : Nat → Nat} {cA : ClassId} {wr : va_W} (C : jC x cc_H_isPossible 4 "PlainWarehouse$House") (hT : (jT x)[0]? = some (cA, .int)) (hR : jR x = rm_H_isPossible)  (a1 : Int32) (a2 : Int32) (a3 : Int32) (σ : SP) {r : Int32} (hr : (jt x).sig.returnType = some .boolean) (E : jE x 0 0 (some (.int r)) ((wP ad cA σ) ++ wr)) (h : m_H_isPossible a1 a2 a3 σ = some r) : jW x 4 0 0 0 [(0, .ref (ad 2)), (1, .int a1), (2, .int a2), (3, .int a3)] [] ((wP ad cA σ) ++ wr) := by
  unfold m_H_isPossible at h
  refine j_iload_n C 1 d_H_isPossible_0 rfl rfl rfl ?_
  refine j_tsw (k := 0) (tgt := 44) C d_H_isPossible_1 (by decide) (by decide) rfl (by decide) h (fun h => ?_) (fun n0 h => ?_)
  · refine j_aload_n C 0 d_H_isPossible_44 rfl rfl rfl ?_
    refine j_iload_n C 2 d_H_isPossible_45 rfl rfl rfl ?_
    obtain ⟨r1, h2, h⟩ := mb1_some h
    refine j_callV C hR (As := [.int a2]) (ct_H_isInside (jl x) (jD x) (jT x) hT a2 σ h2) kf_H_isInside (by decide) tw_189 tw_191 tw_5 2 rfl rfl (rest := []) rfl rfl (Nat.le_of_ble_eq_true rfl) (by decide) ⟨rfl, rfl⟩ d_H_isPossible_46 rfl (st1 := [.int r1]) rfl ?_
    refine j_if_ne (tgt := 56) C d_H_isPossible_49 (by decide) rfl h (fun h => ?_) (fun h => ?_)
    · refine j_iconst (v := 0) C d_H_isPossible_56 rfl (by decide) ?_
      cases h
      exact j_zret C E hr rfl d_H_isPossible_57
    · refine j_iconst (v := 1) C d_H_isPossible_52 rfl (by decide) ?_
      refine j_goto (tgt := 57) C d_H_isPossible_53 (by decide) ?_
      cases h
      exact j_zret C E hr rfl d_H_isPossible_57
  refine j_tsw (k := 1) (tgt := 58) C d_H_isPossible_1 (by decide) (by decide) rfl (by decide) h (fun h => ?_) (fun n1 h => ?_)
  · refine j_aload_n C 0 d_H_isPossible_58 rfl rfl rfl ?_
    refine j_iload_n C 2 d_H_isPossible_59 rfl rfl rfl ?_
    obtain ⟨r3, h4, h⟩ := mb1_some h
    refine j_callV C hR (As := [.int a2]) (ct_H_isInside (jl x) (jD x) (jT x) hT a2 σ h4) kf_H_isInside (by decide) tw_189 tw_191 tw_5 2 rfl rfl (rest := []) rfl rfl (Nat.le_of_ble_eq_true rfl) (by decide) ⟨rfl, rfl⟩ d_H_isPossible_60 rfl (st1 := [.int r3]) rfl ?_
    obtain ⟨hz, h⟩ := mzr_some h
    cases h
    exact j_zret C E hr hz d_H_isPossible_63
  refine j_tsw (k := 2) (tgt := 64) C d_H_isPossible_1 (by decide) (by decide) rfl (by decide) h (fun h => ?_) (fun n2 h => ?_)
  · refine j_aload_n C 0 d_H_isPossible_64 rfl rfl rfl ?_
    refine j_iload_n C 2 d_H_isPossible_65 rfl rfl rfl ?_
    obtain ⟨r5, h6, h⟩ := mb1_some h
    refine j_callV C hR (As := [.int a2]) (ct_H_isInside (jl x) (jD x) (jT x) hT a2 σ h6) kf_H_isInside (by decide) tw_189 tw_191 tw_5 2 rfl rfl (rest := []) rfl rfl (Nat.le_of_ble_eq_true rfl) (by decide) ⟨rfl, rfl⟩ d_H_isPossible_66 rfl (st1 := [.int r5]) rfl ?_
    refine j_if_eq (tgt := 89) C d_H_isPossible_69 (by decide) rfl h (fun h => ?_) (fun h => ?_)
    · refine j_iconst (v := 0) C d_H_isPossible_89 rfl (by decide) ?_
      cases h
      exact j_zret C E hr rfl d_H_isPossible_90
    · refine j_aload_n C 0 d_H_isPossible_72 rfl rfl rfl ?_
      refine j_aload_n C 0 d_H_isPossible_73 rfl rfl rfl ?_
      refine j_get C in_H 2 rfl rfl 2 (by decide) tw_80 rfl (v := .ref (ad 5)) rfl d_H_isPossible_74 rfl ?_
      refine j_iload_n C 2 d_H_isPossible_77 rfl rfl rfl ?_
      refine j_iald C 5 0 rfl hT d_H_isPossible_78 rfl h (fun r7 h => ?_)
      obtain ⟨r8, h9, h⟩ := mb1_some h
      refine j_callV C hR (As := [.int r7]) (ct_H_isOpen (jl x) (jD x) (jT x) hT r7 σ h9) kf_H_isOpen (by decide) tw_193 tw_195 tw_6 2 rfl rfl (rest := []) rfl rfl (Nat.le_of_ble_eq_true rfl) (by decide) ⟨rfl, rfl⟩ d_H_isPossible_79 rfl (st1 := [.int r8]) rfl ?_
      refine j_if_ne (tgt := 89) C d_H_isPossible_82 (by decide) rfl h (fun h => ?_) (fun h => ?_)
      · refine j_iconst (v := 0) C d_H_isPossible_89 rfl (by decide) ?_
        cases h
        exact j_zret C E hr rfl d_H_isPossible_90
      · refine j_iconst (v := 1) C d_H_isPossible_85 rfl (by decide) ?_
        refine j_goto (tgt := 90) C d_H_isPossible_86 (by decide) ?_
        cases h
        exact j_zret C E hr rfl d_H_isPossible_90
  refine j_tsw (k := 3) (tgt := 91) C d_H_isPossible_1 (by decide) (by decide) rfl (by decide) h (fun h => ?_) (fun n3 h => ?_)
  · refine j_aload_n C 0 d_H_isPossible_91 rfl rfl rfl ?_
    refine j_iload_n C 2 d_H_isPossible_92 rfl rfl rfl ?_
    obtain ⟨r10, h11, h⟩ := mb1_some h
    refine j_callV C hR (As := [.int a2]) (ct_H_isTold (jl x) (jD x) (jT x) hT a2 σ h11) kf_H_isTold (by decide) tw_197 tw_199 tw_7 2 rfl rfl (rest := []) rfl rfl (Nat.le_of_ble_eq_true rfl) (by decide) ⟨rfl, rfl⟩ d_H_isPossible_93 rfl (st1 := [.int r10]) rfl ?_
    refine j_if_ne (tgt := 103) C d_H_isPossible_96 (by decide) rfl h (fun h => ?_) (fun h => ?_)
    · refine j_iconst (v := 0) C d_H_isPossible_103 rfl (by decide) ?_
      cases h
      exact j_zret C E hr rfl d_H_isPossible_104
    · refine j_iconst (v := 1) C d_H_isPossible_99 rfl (by decide) ?_
      refine j_goto (tgt := 104) C d_H_isPossible_100 (by decide) ?_
      cases h
      exact j_zret C E hr rfl d_H_isPossible_104
  refine j_tsw (k := 4) (tgt := 105) C d_H_isPossible_1 (by decide) (by decide) rfl (by decide) h (fun h => ?_) (fun n4 h => ?_)
  · refine j_aload_n C 0 d_H_isPossible_105 rfl rfl rfl ?_
    refine j_iload_n C 2 d_H_isPossible_106 rfl rfl rfl ?_
    obtain ⟨r12, h13, h⟩ := mb1_some h
    refine j_callV C hR (As := [.int a2]) (ct_H_isFree (jl x) (jD x) (jT x) hT a2 σ h13) kf_H_isFree (by decide) tw_201 tw_203 tw_8 2 rfl rfl (rest := []) rfl rfl (Nat.le_of_ble_eq_true rfl) (by decide) ⟨rfl, rfl⟩ d_H_isPossible_107 rfl (st1 := [.int r12]) rfl ?_
    refine j_if_eq (tgt := 140) C d_H_isPossible_110 (by decide) rfl h (fun h => ?_) (fun h => ?_)
    · refine j_iconst (v := 0) C d_H_isPossible_140 rfl (by decide) ?_
      cases h
      exact j_zret C E hr rfl d_H_isPossible_141
    · refine j_aload_n C 0 d_H_isPossible_113 rfl rfl rfl ?_
      refine j_iload_n C 3 d_H_isPossible_114 rfl rfl rfl ?_
      obtain ⟨r14, h15, h⟩ := mb1_some h
      refine j_callV C hR (As := [.int a3]) (ct_H_isOpen (jl x) (jD x) (jT x) hT a3 σ h15) kf_H_isOpen (by decide) tw_193 tw_195 tw_6 2 rfl rfl (rest := []) rfl rfl (Nat.le_of_ble_eq_true rfl) (by decide) ⟨rfl, rfl⟩ d_H_isPossible_115 rfl (st1 := [.int r14]) rfl ?_
      refine j_if_eq (tgt := 140) C d_H_isPossible_118 (by decide) rfl h (fun h => ?_) (fun h => ?_)
      · refine j_iconst (v := 0) C d_H_isPossible_140 rfl (by decide) ?_
        cases h
        exact j_zret C E hr rfl d_H_isPossible_141
      · refine j_aload_n C 0 d_H_isPossible_121 rfl rfl rfl ?_
        refine j_get C in_H 2 rfl rfl 1 (by decide) tw_79 rfl (v := .ref (ad 4)) rfl d_H_isPossible_122 rfl ?_
        refine j_iload_n C 2 d_H_isPossible_125 rfl rfl rfl ?_
        refine j_iald C 4 0 rfl hT d_H_isPossible_126 rfl h (fun r16 h => ?_)
        refine j_aload_n C 0 d_H_isPossible_127 rfl rfl rfl ?_
        refine j_get C in_H 2 rfl rfl 4 (by decide) tw_83 rfl (v := .ref (ad 7)) rfl d_H_isPossible_128 rfl ?_
        refine j_iload_n C 3 d_H_isPossible_131 rfl rfl rfl ?_
        refine j_iald C 7 0 rfl hT d_H_isPossible_132 rfl h (fun r17 h => ?_)
        refine j_icmp_ne (tgt := 140) C d_H_isPossible_133 (by decide) rfl h (fun h => ?_) (fun h => ?_)
        · refine j_iconst (v := 0) C d_H_isPossible_140 rfl (by decide) ?_
          cases h
          exact j_zret C E hr rfl d_H_isPossible_141
        · refine j_iconst (v := 1) C d_H_isPossible_136 rfl (by decide) ?_
          refine j_goto (tgt := 141) C d_H_isPossible_137 (by decide) ?_
          cases h
          exact j_zret C E hr rfl d_H_isPossible_141
  refine j_tsw (k := 5) (tgt := 153) C d_H_isPossible_1 (by decide) (by decide) rfl (by decide) h (fun h => ?_) (fun n5 h => ?_)
  · refine j_iconst (v := 1) C d_H_isPossible_153 rfl (by decide) ?_
    cases h
    exact j_zret C E hr rfl d_H_isPossible_154
  refine j_tsw (k := 6) (tgt := 142) C d_H_isPossible_1 (by decide) (by decide) rfl (by decide) h (fun h => ?_) (fun n6 h => ?_)
  · refine j_iload_n C 2 d_H_isPossible_142 rfl rfl rfl ?_
    refine j_iload_n C 3 d_H_isPossible_143 rfl rfl rfl ?_
    refine j_icmp_eq (tgt := 151) C d_H_isPossible_144 (by decide) rfl h (fun h => ?_) (fun h => ?_)
    · refine j_iconst (v := 0) C d_H_isPossible_151 rfl (by decide) ?_
      cases h
      exact j_zret C E hr rfl d_H_isPossible_152
    · refine j_iconst (v := 1) C d_H_isPossible_147 rfl (by decide) ?_
      refine j_goto (tgt := 152) C d_H_isPossible_148 (by decide) ?_
      cases h
      exact j_zret C E hr rfl d_H_isPossible_152
  refine j_tswD (tgt := 153) C d_H_isPossible_1 (by have q0 := tiNe (z := 0) (by decide) n0; have q1 := tiNe (z := 1) (by decide) n1; have q2 := tiNe (z := 2) (by decide) n2; have q3 := tiNe (z := 3) (by decide) n3; have q4 := tiNe (z := 4) (by decide) n4; have q5 := tiNe (z := 5) (by decide) n5; have q6 := tiNe (z := 6) (by decide) n6; omega) (by decide) ?_
  refine j_iconst (v := 1) C d_H_isPossible_153 rfl (by decide) ?_
  cases h
  exact j_zret C E hr rfl d_H_isPossible_154
theorem ct_H_isPossible (l : Launch) (D : va_G) (tys : List (ClassId × FieldType)) {ad : Nat → Nat} {cA : ClassId} {wr : va_W} (hT : tys[0]? = some (cA, .int)) (a1 : Int32) (a2 : Int32) (a3 : Int32) (σ : SP) {r : Int32} (h : m_H_isPossible a1 a2 a3 σ = some r) : jM l y_H_isPossible ws_H_isPossible rm_H_isPossible D tys [.ref (ad 2), .int a1, .int a2, .int a3] ((wP ad cA σ) ++ wr) (some (.int r)) ((wP ad cA σ) ++ wr) :=
  j_of (by decide +kernel) rfl (Nat.le_of_ble_eq_true rfl) rfl (fun x _ _ hT' hR C hr _ E => w_H_isPossible C (by rw [hT']; exact hT) hR a1 a2 a3 σ hr E h)
def rm_H_happen : Room := { frames := 1, cells := 0, slots := 0, locals := 23 }
def m_H_happen (a1 : Int32) (a2 : Int32) (a3 : Int32) (a4 : Int32) (σ : SP) : Option (SP) :=
  (if a1 = 0 then (mb1 (m_H_come a2 a3 a4 σ) fun σ1 => some σ1) else (if a1 = 1 then (mck 20 a2 (mlet (u_pl σ (upd (g_pl σ) a2.toNatClampNeg a3)) fun σ3 => some σ3)) else (if a1 = 2 then (mb1 (m_H_leave a2 σ) fun σ4 => some σ4) else (if a1 = 3 then (mck 10 a2 (mlet (u_wa σ (upd (g_wa σ) a2.toNatClampNeg a3)) fun σ6 => (mck 10 a2 (mlet (u_gw σ6 (upd (g_gw σ6) a2.toNatClampNeg a4)) fun σ7 => some σ7)))) else (if a1 = 4 then (mck 20 a2 (mlet (u_gv σ (upd (g_gv σ) a2.toNatClampNeg a3)) fun σ8 => (mrd 10 (g_gt σ8) a3 fun r9 => (mck 10 a3 (mlet (u_gt σ8 (upd (g_gt σ8) a3.toNatClampNeg (r9 + (1 : Int32)))) fun σ10 => some σ10))))) else (if a1 = 5 then (mrd 4 (g_ce σ) a2 fun r11 => (mck 4 a2 (mlet (u_ce σ (upd (g_ce σ) a2.toNatClampNeg (r11 + a3))) fun σ12 => some σ12))) else (if a1 = 6 then (mb1 (m_P_pair a2 a3) fun r13 => (mck 100 r13 (mlet (u_lk σ (upd (g_lk σ) r13.toNatClampNeg a4)) fun σ15 => (mb1 (m_P_pair a3 a2) fun r16 => (mck 100 r16 (mlet (u_lk σ15 (upd (g_lk σ15) r16.toNatClampNeg a4)) fun σ18 => some σ18)))))) else some σ)))))))
set_option maxHeartbeats 4000000 in
set_option maxRecDepth 100000 in
theorem w_H_happen {x : JX} {ad : Nat → Nat} {cA : ClassId} {wr : va_W} (C : jC x cc_H_happen 5 "PlainWarehouse$House") (hT : (jT x)[0]? = some (cA, .int)) (hR : jR x = rm_H_happen)  (a1 : Int32) (a2 : Int32) (a3 : Int32) (a4 : Int32) (σ : SP) {σ' : SP} (hr : (jt x).sig.returnType = none) (E : jE x 0 0 none ((wP ad cA σ') ++ wr)) (h : m_H_happen a1 a2 a3 a4 σ = some σ') : jW x 5 0 0 0 [(0, .ref (ad 2)), (1, .int a1), (2, .int a2), (3, .int a3), (4, .int a4)] [] ((wP ad cA σ) ++ wr) := by
  unfold m_H_happen at h
  refine j_iload_n C 1 d_H_happen_0 rfl rfl rfl ?_
  refine j_tsw (k := 0) (tgt := 44) C d_H_happen_1 (by decide) (by decide) rfl (by decide) h (fun h => ?_) (fun n0 h => ?_)
  · refine j_aload_n C 0 d_H_happen_44 rfl rfl rfl ?_
    refine j_iload_n C 2 d_H_happen_45 rfl rfl rfl ?_
    refine j_iload_n C 3 d_H_happen_46 rfl rfl rfl ?_
    refine j_iload C 4 d_H_happen_47 rfl rfl ?_
    obtain ⟨σ1, h2, h⟩ := mb1_some h
    refine j_callV C hR (As := [.int a2, .int a3, .int a4]) (ct_H_come (jl x) (jD x) (jT x) hT a2 a3 a4 σ h2) kf_H_come (by decide) tw_209 tw_211 tw_10 2 rfl rfl (rest := []) rfl rfl (Nat.le_of_ble_eq_true rfl) (by decide) ⟨rfl, rfl⟩ d_H_happen_49 rfl (st1 := []) rfl ?_
    refine j_goto (tgt := 151) C d_H_happen_52 (by decide) ?_
    cases h
    exact j_vret C E hr d_H_happen_151
  refine j_tsw (k := 1) (tgt := 55) C d_H_happen_1 (by decide) (by decide) rfl (by decide) h (fun h => ?_) (fun n1 h => ?_)
  · refine j_aload_n C 0 d_H_happen_55 rfl rfl rfl ?_
    refine j_get C in_H 2 rfl rfl 0 (by decide) tw_77 rfl (v := .ref (ad 3)) rfl d_H_happen_56 rfl ?_
    refine j_iload_n C 2 d_H_happen_59 rfl rfl rfl ?_
    refine j_iload_n C 3 d_H_happen_60 rfl rfl rfl ?_
    refine j_iast C (fun t => (wP ad cA t) ++ wr) 3 0 rfl hT d_H_happen_61 rfl h rfl (fun σ3 h => ?_)
    refine j_goto (tgt := 151) C d_H_happen_62 (by decide) ?_
    cases h
    exact j_vret C E hr d_H_happen_151
  refine j_tsw (k := 2) (tgt := 65) C d_H_happen_1 (by decide) (by decide) rfl (by decide) h (fun h => ?_) (fun n2 h => ?_)
  · refine j_aload_n C 0 d_H_happen_65 rfl rfl rfl ?_
    refine j_iload_n C 2 d_H_happen_66 rfl rfl rfl ?_
    obtain ⟨σ4, h5, h⟩ := mb1_some h
    refine j_callV C hR (As := [.int a2]) (ct_H_leave (jl x) (jD x) (jT x) hT a2 σ h5) kf_H_leave (by decide) tw_213 tw_215 tw_11 2 rfl rfl (rest := []) rfl rfl (Nat.le_of_ble_eq_true rfl) (by decide) ⟨rfl, rfl⟩ d_H_happen_67 rfl (st1 := []) rfl ?_
    refine j_goto (tgt := 151) C d_H_happen_70 (by decide) ?_
    cases h
    exact j_vret C E hr d_H_happen_151
  refine j_tsw (k := 3) (tgt := 73) C d_H_happen_1 (by decide) (by decide) rfl (by decide) h (fun h => ?_) (fun n3 h => ?_)
  · refine j_aload_n C 0 d_H_happen_73 rfl rfl rfl ?_
    refine j_get C in_H 2 rfl rfl 3 (by decide) tw_81 rfl (v := .ref (ad 6)) rfl d_H_happen_74 rfl ?_
    refine j_iload_n C 2 d_H_happen_77 rfl rfl rfl ?_
    refine j_iload_n C 3 d_H_happen_78 rfl rfl rfl ?_
    refine j_iast C (fun t => (wP ad cA t) ++ wr) 6 0 rfl hT d_H_happen_79 rfl h rfl (fun σ6 h => ?_)
    refine j_aload_n C 0 d_H_happen_80 rfl rfl rfl ?_
    refine j_get C in_H 2 rfl rfl 4 (by decide) tw_83 rfl (v := .ref (ad 7)) rfl d_H_happen_81 rfl ?_
    refine j_iload_n C 2 d_H_happen_84 rfl rfl rfl ?_
    refine j_iload C 4 d_H_happen_85 rfl rfl ?_
    refine j_iast C (fun t => (wP ad cA t) ++ wr) 7 0 rfl hT d_H_happen_87 rfl h rfl (fun σ7 h => ?_)
    refine j_goto (tgt := 151) C d_H_happen_88 (by decide) ?_
    cases h
    exact j_vret C E hr d_H_happen_151
  refine j_tsw (k := 4) (tgt := 91) C d_H_happen_1 (by decide) (by decide) rfl (by decide) h (fun h => ?_) (fun n4 h => ?_)
  · refine j_aload_n C 0 d_H_happen_91 rfl rfl rfl ?_
    refine j_get C in_H 2 rfl rfl 2 (by decide) tw_80 rfl (v := .ref (ad 5)) rfl d_H_happen_92 rfl ?_
    refine j_iload_n C 2 d_H_happen_95 rfl rfl rfl ?_
    refine j_iload_n C 3 d_H_happen_96 rfl rfl rfl ?_
    refine j_iast C (fun t => (wP ad cA t) ++ wr) 5 0 rfl hT d_H_happen_97 rfl h rfl (fun σ8 h => ?_)
    refine j_aload_n C 0 d_H_happen_98 rfl rfl rfl ?_
    refine j_get C in_H 2 rfl rfl 5 (by decide) tw_86 rfl (v := .ref (ad 8)) rfl d_H_happen_99 rfl ?_
    refine j_iload_n C 3 d_H_happen_102 rfl rfl rfl ?_
    refine j_dup2 C d_H_happen_103 rfl rfl rfl ?_
    refine j_iald C 8 0 rfl hT d_H_happen_104 rfl h (fun r9 h => ?_)
    refine j_iconst (v := 1) C d_H_happen_105 rfl (by decide) ?_
    refine j_iadd C d_H_happen_106 rfl ?_
    refine j_iast C (fun t => (wP ad cA t) ++ wr) 8 0 rfl hT d_H_happen_107 rfl h rfl (fun σ10 h => ?_)
    refine j_goto (tgt := 151) C d_H_happen_108 (by decide) ?_
    cases h
    exact j_vret C E hr d_H_happen_151
  refine j_tsw (k := 5) (tgt := 111) C d_H_happen_1 (by decide) (by decide) rfl (by decide) h (fun h => ?_) (fun n5 h => ?_)
  · refine j_aload_n C 0 d_H_happen_111 rfl rfl rfl ?_
    refine j_get C in_H 2 rfl rfl 6 (by decide) tw_89 rfl (v := .ref (ad 9)) rfl d_H_happen_112 rfl ?_
    refine j_iload_n C 2 d_H_happen_115 rfl rfl rfl ?_
    refine j_dup2 C d_H_happen_116 rfl rfl rfl ?_
    refine j_iald C 9 0 rfl hT d_H_happen_117 rfl h (fun r11 h => ?_)
    refine j_iload_n C 3 d_H_happen_118 rfl rfl rfl ?_
    refine j_iadd C d_H_happen_119 rfl ?_
    refine j_iast C (fun t => (wP ad cA t) ++ wr) 9 0 rfl hT d_H_happen_120 rfl h rfl (fun σ12 h => ?_)
    refine j_goto (tgt := 151) C d_H_happen_121 (by decide) ?_
    cases h
    exact j_vret C E hr d_H_happen_151
  refine j_tsw (k := 6) (tgt := 124) C d_H_happen_1 (by decide) (by decide) rfl (by decide) h (fun h => ?_) (fun n6 h => ?_)
  · refine j_aload_n C 0 d_H_happen_124 rfl rfl rfl ?_
    refine j_get C in_H 2 rfl rfl 7 (by decide) tw_91 rfl (v := .ref (ad 10)) rfl d_H_happen_125 rfl ?_
    refine j_iload_n C 2 d_H_happen_128 rfl rfl rfl ?_
    refine j_iload_n C 3 d_H_happen_129 rfl rfl rfl ?_
    obtain ⟨r13, h14, h⟩ := mb1_some h
    refine j_callSN C hR (As := [.int a2, .int a3]) (ct_P_pair (jl x) (jD x) (jT x) a2 a3 h14) kf_P_pair (by decide) tw_217 tw_218 (rest := [.ref (ad 10)]) rfl rfl (Nat.le_of_ble_eq_true rfl) (by decide) ⟨rfl, rfl⟩ d_H_happen_130 rfl (st1 := [.int r13, .ref (ad 10)]) rfl ?_
    refine j_iload C 4 d_H_happen_133 rfl rfl ?_
    refine j_iast C (fun t => (wP ad cA t) ++ wr) 10 0 rfl hT d_H_happen_135 rfl h rfl (fun σ15 h => ?_)
    refine j_aload_n C 0 d_H_happen_136 rfl rfl rfl ?_
    refine j_get C in_H 2 rfl rfl 7 (by decide) tw_91 rfl (v := .ref (ad 10)) rfl d_H_happen_137 rfl ?_
    refine j_iload_n C 3 d_H_happen_140 rfl rfl rfl ?_
    refine j_iload_n C 2 d_H_happen_141 rfl rfl rfl ?_
    obtain ⟨r16, h17, h⟩ := mb1_some h
    refine j_callSN C hR (As := [.int a3, .int a2]) (ct_P_pair (jl x) (jD x) (jT x) a3 a2 h17) kf_P_pair (by decide) tw_217 tw_218 (rest := [.ref (ad 10)]) rfl rfl (Nat.le_of_ble_eq_true rfl) (by decide) ⟨rfl, rfl⟩ d_H_happen_142 rfl (st1 := [.int r16, .ref (ad 10)]) rfl ?_
    refine j_iload C 4 d_H_happen_145 rfl rfl ?_
    refine j_iast C (fun t => (wP ad cA t) ++ wr) 10 0 rfl hT d_H_happen_147 rfl h rfl (fun σ18 h => ?_)
    refine j_goto (tgt := 151) C d_H_happen_148 (by decide) ?_
    cases h
    exact j_vret C E hr d_H_happen_151
  refine j_tswD (tgt := 151) C d_H_happen_1 (by have q0 := tiNe (z := 0) (by decide) n0; have q1 := tiNe (z := 1) (by decide) n1; have q2 := tiNe (z := 2) (by decide) n2; have q3 := tiNe (z := 3) (by decide) n3; have q4 := tiNe (z := 4) (by decide) n4; have q5 := tiNe (z := 5) (by decide) n5; have q6 := tiNe (z := 6) (by decide) n6; omega) (by decide) ?_
  cases h
  exact j_vret C E hr d_H_happen_151
theorem ct_H_happen (l : Launch) (D : va_G) (tys : List (ClassId × FieldType)) {ad : Nat → Nat} {cA : ClassId} {wr : va_W} (hT : tys[0]? = some (cA, .int)) (a1 : Int32) (a2 : Int32) (a3 : Int32) (a4 : Int32) (σ : SP) {σ' : SP} (h : m_H_happen a1 a2 a3 a4 σ = some σ') : jM l y_H_happen ws_H_happen rm_H_happen D tys [.ref (ad 2), .int a1, .int a2, .int a3, .int a4] ((wP ad cA σ) ++ wr) none ((wP ad cA σ') ++ wr) :=
  j_of (by decide +kernel) rfl (Nat.le_of_ble_eq_true rfl) rfl (fun x _ _ hT' hR C hr _ E => w_H_happen C (by rw [hT']; exact hT) hR a1 a2 a3 a4 σ hr E h)
def rm_H_take : Room := { frames := 3, cells := 0, slots := 0, locals := 65 }
def m_H_take (a1 : Int32) (a2 : Int32) (a3 : Int32) (a4 : Int32) (σ : SP) : Option (Int32 × SP) :=
  (mb1 (m_H_isPossible a1 a2 a3 σ) fun r1 => (if r1 = 0 then some ((0 : Int32), σ) else (mb1 (m_H_happen a1 a2 a3 a4 σ) fun σ3 => some ((1 : Int32), σ3))))
set_option maxHeartbeats 4000000 in
set_option maxRecDepth 100000 in
theorem w_H_take {x : JX} {ad : Nat → Nat} {cA : ClassId} {wr : va_W} (C : jC x cc_H_take 5 "PlainWarehouse$House") (hT : (jT x)[0]? = some (cA, .int)) (hR : jR x = rm_H_take)  (a1 : Int32) (a2 : Int32) (a3 : Int32) (a4 : Int32) (σ : SP) {r : Int32} {σ' : SP} (hr : (jt x).sig.returnType = some .boolean) (E : jE x 0 0 (some (.int r)) ((wP ad cA σ') ++ wr)) (h : m_H_take a1 a2 a3 a4 σ = some (r, σ')) : jW x 5 0 0 0 [(0, .ref (ad 2)), (1, .int a1), (2, .int a2), (3, .int a3), (4, .int a4)] [] ((wP ad cA σ) ++ wr) := by
  unfold m_H_take at h
  refine j_aload_n C 0 d_H_take_0 rfl rfl rfl ?_
  refine j_iload_n C 1 d_H_take_1 rfl rfl rfl ?_
  refine j_iload_n C 2 d_H_take_2 rfl rfl rfl ?_
  refine j_iload_n C 3 d_H_take_3 rfl rfl rfl ?_
  obtain ⟨r1, h2, h⟩ := mb1_some h
  refine j_callV C hR (As := [.int a1, .int a2, .int a3]) (ct_H_isPossible (jl x) (jD x) (jT x) hT a1 a2 a3 σ h2) kf_H_isPossible (by decide) tw_185 tw_187 tw_4 2 rfl rfl (rest := []) rfl rfl (Nat.le_of_ble_eq_true rfl) (by decide) ⟨rfl, rfl⟩ d_H_take_4 rfl (st1 := [.int r1]) rfl ?_
  refine j_if_ne (tgt := 12) C d_H_take_7 (by decide) rfl h (fun h => ?_) (fun h => ?_)
  · refine j_aload_n C 0 d_H_take_12 rfl rfl rfl ?_
    refine j_iload_n C 1 d_H_take_13 rfl rfl rfl ?_
    refine j_iload_n C 2 d_H_take_14 rfl rfl rfl ?_
    refine j_iload_n C 3 d_H_take_15 rfl rfl rfl ?_
    refine j_iload C 4 d_H_take_16 rfl rfl ?_
    obtain ⟨σ3, h4, h⟩ := mb1_some h
    refine j_callV C hR (As := [.int a1, .int a2, .int a3, .int a4]) (ct_H_happen (jl x) (jD x) (jT x) hT a1 a2 a3 a4 σ h4) kf_H_happen (by decide) tw_205 tw_207 tw_9 2 rfl rfl (rest := []) rfl rfl (Nat.le_of_ble_eq_true rfl) (by decide) ⟨rfl, rfl⟩ d_H_take_18 rfl (st1 := []) rfl ?_
    refine j_iconst (v := 1) C d_H_take_21 rfl (by decide) ?_
    cases h
    exact j_zret C E hr rfl d_H_take_22
  · refine j_iconst (v := 0) C d_H_take_10 rfl (by decide) ?_
    cases h
    exact j_zret C E hr rfl d_H_take_11
theorem ct_H_take (l : Launch) (D : va_G) (tys : List (ClassId × FieldType)) {ad : Nat → Nat} {cA : ClassId} {wr : va_W} (hT : tys[0]? = some (cA, .int)) (a1 : Int32) (a2 : Int32) (a3 : Int32) (a4 : Int32) (σ : SP) {r : Int32} {σ' : SP} (h : m_H_take a1 a2 a3 a4 σ = some (r, σ')) : jM l y_H_take ws_H_take rm_H_take D tys [.ref (ad 2), .int a1, .int a2, .int a3, .int a4] ((wP ad cA σ) ++ wr) (some (.int r)) ((wP ad cA σ') ++ wr) :=
  j_of (by decide +kernel) rfl (Nat.le_of_ble_eq_true rfl) rfl (fun x _ _ hT' hR C hr _ E => w_H_take C (by rw [hT']; exact hT) hR a1 a2 a3 a4 σ hr E h)
def rm_H_unitsAt : Room := { frames := 1, cells := 0, slots := 0, locals := 21 }
def b_H_unitsAt_5 (c1 : Int32) (c2 : Int32) (σ : SP) (v3 : Int32) (v4 : Int32) : Option ((Int32 × Int32) ⊕ (Int32 × Int32)) :=
  (if (20 : Int32) ≤ v4 then some (.inr (v3, v4)) else (mb1 (m_H_isInside v4 σ) fun r1 => (if r1 = 0 then some (.inl (v3, (v4 + 1))) else (mrd 20 (g_pl σ) v4 fun r3 => (mb1 (m_H_isAsked r3 c1) fun r4 => (if r4 = 0 then some (.inl (v3, (v4 + 1))) else (mrd 20 (g_gd σ) v4 fun r6 => (mb1 (m_H_isAsked r6 c2) fun r7 => (if r7 = 0 then some (.inl (v3, (v4 + 1))) else some (.inl ((v3 + 1), (v4 + 1))))))))))))
def m_H_unitsAt (a1 : Int32) (a2 : Int32) (σ : SP) : Option (Int32) :=
  (mb2 (lp (fun s => b_H_unitsAt_5 a1 a2 σ s.1 s.2) FU ((0 : Int32), (0 : Int32))) fun w9 w10 => some w9)
set_option maxHeartbeats 4000000 in
set_option maxRecDepth 100000 in
theorem wb_H_unitsAt_5 {x : JX} {ad : Nat → Nat} {cA : ClassId} {wr : va_W} (C : jC x cc_H_unitsAt 5 "PlainWarehouse$House") (hT : (jT x)[0]? = some (cA, .int)) (hR : jR x = rm_H_unitsAt)  (c1 : Int32) (c2 : Int32) (σ : SP) (v3 : Int32) (v4 : Int32) {o : (Int32 × Int32) ⊕ (Int32 × Int32)} (h : b_H_unitsAt_5 c1 c2 σ v3 v4 = some o) (kc : ∀ (u3 : Int32) (u4 : Int32), o = .inl (u3, u4) → jW x 5 0 0 5 [(0, .ref (ad 2)), (1, .int c1), (2, .int c2), (3, .int u3), (4, .int u4)] [] ((wP ad cA σ) ++ wr)) (ke : ∀ (u3 : Int32) (u4 : Int32), o = .inr (u3, u4) → jW x 5 0 0 58 [(0, .ref (ad 2)), (1, .int c1), (2, .int c2), (3, .int u3), (4, .int u4)] [] ((wP ad cA σ) ++ wr)) : jW x 5 0 0 5 [(0, .ref (ad 2)), (1, .int c1), (2, .int c2), (3, .int v3), (4, .int v4)] [] ((wP ad cA σ) ++ wr) := by
  unfold b_H_unitsAt_5 at h
  refine j_iload C 4 d_H_unitsAt_5 rfl rfl ?_
  refine j_bipush (v := 20) C d_H_unitsAt_7 rfl (by decide) ?_
  refine j_icmp_ge (tgt := 58) C d_H_unitsAt_9 (by decide) rfl h (fun h => ?_) (fun h => ?_)
  · cases h
    refine j_sub [0, 1, 2, 3, 4] rfl (ke _ _ rfl)
  · refine j_aload_n C 0 d_H_unitsAt_12 rfl rfl rfl ?_
    refine j_iload C 4 d_H_unitsAt_13 rfl rfl ?_
    obtain ⟨r1, h2, h⟩ := mb1_some h
    refine j_callV C hR (As := [.int v4]) (ct_H_isInside (jl x) (jD x) (jT x) hT v4 σ h2) kf_H_isInside (by decide) tw_189 tw_191 tw_5 2 rfl rfl (rest := []) rfl rfl (Nat.le_of_ble_eq_true rfl) (by decide) ⟨rfl, rfl⟩ d_H_unitsAt_15 rfl (st1 := [.int r1]) rfl ?_
    refine j_if_eq (tgt := 52) C d_H_unitsAt_18 (by decide) rfl h (fun h => ?_) (fun h => ?_)
    · refine j_iinc (v' := (v4 + 1)) (lv' := [(4, .int (v4 + 1)), (0, .ref (ad 2)), (1, .int c1), (2, .int c2), (3, .int v3)]) C 4 d_H_unitsAt_52 rfl rfl rfl (by decide) rfl ?_
      refine j_goto (tgt := 5) C d_H_unitsAt_55 (by decide) ?_
      cases h
      refine j_sub [1, 2, 3, 4, 0] rfl (kc _ _ rfl)
    · refine j_aload_n C 0 d_H_unitsAt_21 rfl rfl rfl ?_
      refine j_get C in_H 2 rfl rfl 0 (by decide) tw_77 rfl (v := .ref (ad 3)) rfl d_H_unitsAt_22 rfl ?_
      refine j_iload C 4 d_H_unitsAt_25 rfl rfl ?_
      refine j_iald C 3 0 rfl hT d_H_unitsAt_27 rfl h (fun r3 h => ?_)
      refine j_iload_n C 1 d_H_unitsAt_28 rfl rfl rfl ?_
      obtain ⟨r4, h5, h⟩ := mb1_some h
      refine j_callS C hR (As := [.int r3, .int c1]) (ct_H_isAsked (jl x) (jD x) (jT x) r3 c1 h5) kf_H_isAsked (by decide) tw_224 tw_225 (rest := []) rfl rfl (Nat.le_of_ble_eq_true rfl) (by decide) ⟨rfl, rfl⟩ d_H_unitsAt_29 rfl (st1 := [.int r4]) rfl ?_
      refine j_if_eq (tgt := 52) C d_H_unitsAt_32 (by decide) rfl h (fun h => ?_) (fun h => ?_)
      · refine j_iinc (v' := (v4 + 1)) (lv' := [(4, .int (v4 + 1)), (0, .ref (ad 2)), (1, .int c1), (2, .int c2), (3, .int v3)]) C 4 d_H_unitsAt_52 rfl rfl rfl (by decide) rfl ?_
        refine j_goto (tgt := 5) C d_H_unitsAt_55 (by decide) ?_
        cases h
        refine j_sub [1, 2, 3, 4, 0] rfl (kc _ _ rfl)
      · refine j_aload_n C 0 d_H_unitsAt_35 rfl rfl rfl ?_
        refine j_get C in_H 2 rfl rfl 1 (by decide) tw_79 rfl (v := .ref (ad 4)) rfl d_H_unitsAt_36 rfl ?_
        refine j_iload C 4 d_H_unitsAt_39 rfl rfl ?_
        refine j_iald C 4 0 rfl hT d_H_unitsAt_41 rfl h (fun r6 h => ?_)
        refine j_iload_n C 2 d_H_unitsAt_42 rfl rfl rfl ?_
        obtain ⟨r7, h8, h⟩ := mb1_some h
        refine j_callS C hR (As := [.int r6, .int c2]) (ct_H_isAsked (jl x) (jD x) (jT x) r6 c2 h8) kf_H_isAsked (by decide) tw_224 tw_225 (rest := []) rfl rfl (Nat.le_of_ble_eq_true rfl) (by decide) ⟨rfl, rfl⟩ d_H_unitsAt_43 rfl (st1 := [.int r7]) rfl ?_
        refine j_if_eq (tgt := 52) C d_H_unitsAt_46 (by decide) rfl h (fun h => ?_) (fun h => ?_)
        · refine j_iinc (v' := (v4 + 1)) (lv' := [(4, .int (v4 + 1)), (0, .ref (ad 2)), (1, .int c1), (2, .int c2), (3, .int v3)]) C 4 d_H_unitsAt_52 rfl rfl rfl (by decide) rfl ?_
          refine j_goto (tgt := 5) C d_H_unitsAt_55 (by decide) ?_
          cases h
          refine j_sub [1, 2, 3, 4, 0] rfl (kc _ _ rfl)
        · refine j_iinc (v' := (v3 + 1)) (lv' := [(3, .int (v3 + 1)), (0, .ref (ad 2)), (1, .int c1), (2, .int c2), (4, .int v4)]) C 3 d_H_unitsAt_49 rfl rfl rfl (by decide) rfl ?_
          refine j_iinc (v' := (v4 + 1)) (lv' := [(4, .int (v4 + 1)), (3, .int (v3 + 1)), (0, .ref (ad 2)), (1, .int c1), (2, .int c2)]) C 4 d_H_unitsAt_52 rfl rfl rfl (by decide) rfl ?_
          refine j_goto (tgt := 5) C d_H_unitsAt_55 (by decide) ?_
          cases h
          refine j_sub [2, 3, 4, 1, 0] rfl (kc _ _ rfl)
set_option maxRecDepth 100000 in
theorem wl_H_unitsAt_5 {x : JX} {ad : Nat → Nat} {cA : ClassId} {wr : va_W} (C : jC x cc_H_unitsAt 5 "PlainWarehouse$House") (hT : (jT x)[0]? = some (cA, .int)) (hR : jR x = rm_H_unitsAt)  (c1 : Int32) (c2 : Int32) (σ : SP) (v3 : Int32) (v4 : Int32) {u3 : Int32} {u4 : Int32} (n : Nat) (h : lp (fun s => b_H_unitsAt_5 c1 c2 σ s.1 s.2) n (v3, v4) = some (u3, u4)) (K : jW x 5 0 0 58 [(0, .ref (ad 2)), (1, .int c1), (2, .int c2), (3, .int u3), (4, .int u4)] [] ((wP ad cA σ) ++ wr)) : jW x 5 0 0 5 [(0, .ref (ad 2)), (1, .int c1), (2, .int c2), (3, .int v3), (4, .int v4)] [] ((wP ad cA σ) ++ wr) :=
  j_lp (Pr := fun s => jW x 5 0 0 5 [(0, .ref (ad 2)), (1, .int c1), (2, .int c2), (3, .int s.1), (4, .int s.2)] [] ((wP ad cA σ) ++ wr)) (K := fun s => jW x 5 0 0 58 [(0, .ref (ad 2)), (1, .int c1), (2, .int c2), (3, .int s.1), (4, .int s.2)] [] ((wP ad cA σ) ++ wr)) (fun s o h kc ke => wb_H_unitsAt_5 C hT hR c1 c2 σ s.1 s.2 h (fun u3 u4 e => kc _ e) (fun u3 u4 e => ke _ e)) n _ _ h K
set_option maxHeartbeats 4000000 in
set_option maxRecDepth 100000 in
theorem w_H_unitsAt {x : JX} {ad : Nat → Nat} {cA : ClassId} {wr : va_W} (C : jC x cc_H_unitsAt 5 "PlainWarehouse$House") (hT : (jT x)[0]? = some (cA, .int)) (hR : jR x = rm_H_unitsAt)  (a1 : Int32) (a2 : Int32) (σ : SP) {r : Int32} (hr : (jt x).sig.returnType = some .int) (E : jE x 0 0 (some (.int r)) ((wP ad cA σ) ++ wr)) (h : m_H_unitsAt a1 a2 σ = some r) : jW x 5 0 0 0 [(0, .ref (ad 2)), (1, .int a1), (2, .int a2)] [] ((wP ad cA σ) ++ wr) := by
  unfold m_H_unitsAt at h
  refine j_iconst (v := 0) C d_H_unitsAt_0 rfl (by decide) ?_
  refine j_istore_n (lv' := [(3, .int (0 : Int32)), (0, .ref (ad 2)), (1, .int a1), (2, .int a2)]) C d_H_unitsAt_1 rfl rfl (by decide) rfl ?_
  refine j_iconst (v := 0) C d_H_unitsAt_2 rfl (by decide) ?_
  refine j_istore (lv' := [(4, .int (0 : Int32)), (3, .int (0 : Int32)), (0, .ref (ad 2)), (1, .int a1), (2, .int a2)]) C d_H_unitsAt_3 rfl (by decide) rfl ?_
  obtain ⟨w9, w10, h11, h⟩ := mb2_some h
  refine j_sub [2, 3, 4, 1, 0] rfl (wl_H_unitsAt_5 C hT hR a1 a2 σ (0 : Int32) (0 : Int32) FU h11 ?_)
  refine j_iload_n C 3 d_H_unitsAt_58 rfl rfl rfl ?_
  cases h
  exact j_iret C E hr d_H_unitsAt_59
theorem ct_H_unitsAt (l : Launch) (D : va_G) (tys : List (ClassId × FieldType)) {ad : Nat → Nat} {cA : ClassId} {wr : va_W} (hT : tys[0]? = some (cA, .int)) (a1 : Int32) (a2 : Int32) (σ : SP) {r : Int32} (h : m_H_unitsAt a1 a2 σ = some r) : jM l y_H_unitsAt ws_H_unitsAt rm_H_unitsAt D tys [.ref (ad 2), .int a1, .int a2] ((wP ad cA σ) ++ wr) (some (.int r)) ((wP ad cA σ) ++ wr) :=
  j_of (by decide +kernel) rfl (Nat.le_of_ble_eq_true rfl) rfl (fun x _ _ hT' hR C hr _ E => w_H_unitsAt C (by rw [hT']; exact hT) hR a1 a2 σ hr E h)
def rm_H_freeUnits : Room := { frames := 2, cells := 0, slots := 0, locals := 42 }
def b_H_freeUnits_4 (c1 : Int32) (σ : SP) (v2 : Int32) (v3 : Int32) : Option ((Int32 × Int32) ⊕ (Int32 × Int32)) :=
  (if (20 : Int32) ≤ v3 then some (.inr (v2, v3)) else (mb1 (m_H_isFree v3 σ) fun r1 => (if r1 = 0 then some (.inl (v2, (v3 + 1))) else (mrd 20 (g_gd σ) v3 fun r3 => (if r3 = c1 then some (.inl ((v2 + 1), (v3 + 1))) else some (.inl (v2, (v3 + 1))))))))
def m_H_freeUnits (a1 : Int32) (σ : SP) : Option (Int32) :=
  (mb2 (lp (fun s => b_H_freeUnits_4 a1 σ s.1 s.2) FU ((0 : Int32), (0 : Int32))) fun w4 w5 => some w4)
set_option maxHeartbeats 4000000 in
set_option maxRecDepth 100000 in
theorem wb_H_freeUnits_4 {x : JX} {ad : Nat → Nat} {cA : ClassId} {wr : va_W} (C : jC x cc_H_freeUnits 4 "PlainWarehouse$House") (hT : (jT x)[0]? = some (cA, .int)) (hR : jR x = rm_H_freeUnits)  (c1 : Int32) (σ : SP) (v2 : Int32) (v3 : Int32) {o : (Int32 × Int32) ⊕ (Int32 × Int32)} (h : b_H_freeUnits_4 c1 σ v2 v3 = some o) (kc : ∀ (u2 : Int32) (u3 : Int32), o = .inl (u2, u3) → jW x 4 0 0 4 [(0, .ref (ad 2)), (1, .int c1), (2, .int u2), (3, .int u3)] [] ((wP ad cA σ) ++ wr)) (ke : ∀ (u2 : Int32) (u3 : Int32), o = .inr (u2, u3) → jW x 4 0 0 37 [(0, .ref (ad 2)), (1, .int c1), (2, .int u2), (3, .int u3)] [] ((wP ad cA σ) ++ wr)) : jW x 4 0 0 4 [(0, .ref (ad 2)), (1, .int c1), (2, .int v2), (3, .int v3)] [] ((wP ad cA σ) ++ wr) := by
  unfold b_H_freeUnits_4 at h
  refine j_iload_n C 3 d_H_freeUnits_4 rfl rfl rfl ?_
  refine j_bipush (v := 20) C d_H_freeUnits_5 rfl (by decide) ?_
  refine j_icmp_ge (tgt := 37) C d_H_freeUnits_7 (by decide) rfl h (fun h => ?_) (fun h => ?_)
  · cases h
    refine j_sub [0, 1, 2, 3] rfl (ke _ _ rfl)
  · refine j_aload_n C 0 d_H_freeUnits_10 rfl rfl rfl ?_
    refine j_iload_n C 3 d_H_freeUnits_11 rfl rfl rfl ?_
    obtain ⟨r1, h2, h⟩ := mb1_some h
    refine j_callV C hR (As := [.int v3]) (ct_H_isFree (jl x) (jD x) (jT x) hT v3 σ h2) kf_H_isFree (by decide) tw_201 tw_203 tw_8 2 rfl rfl (rest := []) rfl rfl (Nat.le_of_ble_eq_true rfl) (by decide) ⟨rfl, rfl⟩ d_H_freeUnits_12 rfl (st1 := [.int r1]) rfl ?_
    refine j_if_eq (tgt := 31) C d_H_freeUnits_15 (by decide) rfl h (fun h => ?_) (fun h => ?_)
    · refine j_iinc (v' := (v3 + 1)) (lv' := [(3, .int (v3 + 1)), (0, .ref (ad 2)), (1, .int c1), (2, .int v2)]) C 3 d_H_freeUnits_31 rfl rfl rfl (by decide) rfl ?_
      refine j_goto (tgt := 4) C d_H_freeUnits_34 (by decide) ?_
      cases h
      refine j_sub [1, 2, 3, 0] rfl (kc _ _ rfl)
    · refine j_aload_n C 0 d_H_freeUnits_18 rfl rfl rfl ?_
      refine j_get C in_H 2 rfl rfl 1 (by decide) tw_79 rfl (v := .ref (ad 4)) rfl d_H_freeUnits_19 rfl ?_
      refine j_iload_n C 3 d_H_freeUnits_22 rfl rfl rfl ?_
      refine j_iald C 4 0 rfl hT d_H_freeUnits_23 rfl h (fun r3 h => ?_)
      refine j_iload_n C 1 d_H_freeUnits_24 rfl rfl rfl ?_
      refine j_icmp_ne (tgt := 31) C d_H_freeUnits_25 (by decide) rfl h (fun h => ?_) (fun h => ?_)
      · refine j_iinc (v' := (v3 + 1)) (lv' := [(3, .int (v3 + 1)), (0, .ref (ad 2)), (1, .int c1), (2, .int v2)]) C 3 d_H_freeUnits_31 rfl rfl rfl (by decide) rfl ?_
        refine j_goto (tgt := 4) C d_H_freeUnits_34 (by decide) ?_
        cases h
        refine j_sub [1, 2, 3, 0] rfl (kc _ _ rfl)
      · refine j_iinc (v' := (v2 + 1)) (lv' := [(2, .int (v2 + 1)), (0, .ref (ad 2)), (1, .int c1), (3, .int v3)]) C 2 d_H_freeUnits_28 rfl rfl rfl (by decide) rfl ?_
        refine j_iinc (v' := (v3 + 1)) (lv' := [(3, .int (v3 + 1)), (2, .int (v2 + 1)), (0, .ref (ad 2)), (1, .int c1)]) C 3 d_H_freeUnits_31 rfl rfl rfl (by decide) rfl ?_
        refine j_goto (tgt := 4) C d_H_freeUnits_34 (by decide) ?_
        cases h
        refine j_sub [2, 3, 1, 0] rfl (kc _ _ rfl)
set_option maxRecDepth 100000 in
theorem wl_H_freeUnits_4 {x : JX} {ad : Nat → Nat} {cA : ClassId} {wr : va_W} (C : jC x cc_H_freeUnits 4 "PlainWarehouse$House") (hT : (jT x)[0]? = some (cA, .int)) (hR : jR x = rm_H_freeUnits)  (c1 : Int32) (σ : SP) (v2 : Int32) (v3 : Int32) {u2 : Int32} {u3 : Int32} (n : Nat) (h : lp (fun s => b_H_freeUnits_4 c1 σ s.1 s.2) n (v2, v3) = some (u2, u3)) (K : jW x 4 0 0 37 [(0, .ref (ad 2)), (1, .int c1), (2, .int u2), (3, .int u3)] [] ((wP ad cA σ) ++ wr)) : jW x 4 0 0 4 [(0, .ref (ad 2)), (1, .int c1), (2, .int v2), (3, .int v3)] [] ((wP ad cA σ) ++ wr) :=
  j_lp (Pr := fun s => jW x 4 0 0 4 [(0, .ref (ad 2)), (1, .int c1), (2, .int s.1), (3, .int s.2)] [] ((wP ad cA σ) ++ wr)) (K := fun s => jW x 4 0 0 37 [(0, .ref (ad 2)), (1, .int c1), (2, .int s.1), (3, .int s.2)] [] ((wP ad cA σ) ++ wr)) (fun s o h kc ke => wb_H_freeUnits_4 C hT hR c1 σ s.1 s.2 h (fun u2 u3 e => kc _ e) (fun u2 u3 e => ke _ e)) n _ _ h K
set_option maxHeartbeats 4000000 in
set_option maxRecDepth 100000 in
theorem w_H_freeUnits {x : JX} {ad : Nat → Nat} {cA : ClassId} {wr : va_W} (C : jC x cc_H_freeUnits 4 "PlainWarehouse$House") (hT : (jT x)[0]? = some (cA, .int)) (hR : jR x = rm_H_freeUnits)  (a1 : Int32) (σ : SP) {r : Int32} (hr : (jt x).sig.returnType = some .int) (E : jE x 0 0 (some (.int r)) ((wP ad cA σ) ++ wr)) (h : m_H_freeUnits a1 σ = some r) : jW x 4 0 0 0 [(0, .ref (ad 2)), (1, .int a1)] [] ((wP ad cA σ) ++ wr) := by
  unfold m_H_freeUnits at h
  refine j_iconst (v := 0) C d_H_freeUnits_0 rfl (by decide) ?_
  refine j_istore_n (lv' := [(2, .int (0 : Int32)), (0, .ref (ad 2)), (1, .int a1)]) C d_H_freeUnits_1 rfl rfl (by decide) rfl ?_
  refine j_iconst (v := 0) C d_H_freeUnits_2 rfl (by decide) ?_
  refine j_istore_n (lv' := [(3, .int (0 : Int32)), (2, .int (0 : Int32)), (0, .ref (ad 2)), (1, .int a1)]) C d_H_freeUnits_3 rfl rfl (by decide) rfl ?_
  obtain ⟨w4, w5, h6, h⟩ := mb2_some h
  refine j_sub [2, 3, 1, 0] rfl (wl_H_freeUnits_4 C hT hR a1 σ (0 : Int32) (0 : Int32) FU h6 ?_)
  refine j_iload_n C 2 d_H_freeUnits_37 rfl rfl rfl ?_
  cases h
  exact j_iret C E hr d_H_freeUnits_38
theorem ct_H_freeUnits (l : Launch) (D : va_G) (tys : List (ClassId × FieldType)) {ad : Nat → Nat} {cA : ClassId} {wr : va_W} (hT : tys[0]? = some (cA, .int)) (a1 : Int32) (σ : SP) {r : Int32} (h : m_H_freeUnits a1 σ = some r) : jM l y_H_freeUnits ws_H_freeUnits rm_H_freeUnits D tys [.ref (ad 2), .int a1] ((wP ad cA σ) ++ wr) (some (.int r)) ((wP ad cA σ) ++ wr) :=
  j_of (by decide +kernel) rfl (Nat.le_of_ble_eq_true rfl) rfl (fun x _ _ hT' hR C hr _ E => w_H_freeUnits C (by rw [hT']; exact hT) hR a1 σ hr E h)
def rm_H_placesOfUnitsGivenTo : Room := { frames := 1, cells := 0, slots := 0, locals := 21 }
def b_H_placesOfUnitsGivenTo_4 (c1 : Int32) (σ : SP) (v2 : Int32) (v3 : Int32) : Option ((Int32 × Int32) ⊕ (Int32 × Int32)) :=
  (if (20 : Int32) ≤ v3 then some (.inr (v2, v3)) else (mb1 (m_H_isInside v3 σ) fun r1 => (if r1 = 0 then some (.inl (v2, (v3 + 1))) else (mrd 20 (g_gv σ) v3 fun r3 => (if r3 = c1 then (mrd 20 (g_pl σ) v3 fun r4 => some (.inl ((v2 ||| ((1 : Int32) <<< (r4 &&& 31))), (v3 + 1)))) else some (.inl (v2, (v3 + 1))))))))
def m_H_placesOfUnitsGivenTo (a1 : Int32) (σ : SP) : Option (Int32) :=
  (mb2 (lp (fun s => b_H_placesOfUnitsGivenTo_4 a1 σ s.1 s.2) FU ((0 : Int32), (0 : Int32))) fun w5 w6 => some w5)
set_option maxHeartbeats 4000000 in
set_option maxRecDepth 100000 in
theorem wb_H_placesOfUnitsGivenTo_4 {x : JX} {ad : Nat → Nat} {cA : ClassId} {wr : va_W} (C : jC x cc_H_placesOfUnitsGivenTo 4 "PlainWarehouse$House") (hT : (jT x)[0]? = some (cA, .int)) (hR : jR x = rm_H_placesOfUnitsGivenTo)  (c1 : Int32) (σ : SP) (v2 : Int32) (v3 : Int32) {o : (Int32 × Int32) ⊕ (Int32 × Int32)} (h : b_H_placesOfUnitsGivenTo_4 c1 σ v2 v3 = some o) (kc : ∀ (u2 : Int32) (u3 : Int32), o = .inl (u2, u3) → jW x 4 0 0 4 [(0, .ref (ad 2)), (1, .int c1), (2, .int u2), (3, .int u3)] [] ((wP ad cA σ) ++ wr)) (ke : ∀ (u2 : Int32) (u3 : Int32), o = .inr (u2, u3) → jW x 4 0 0 45 [(0, .ref (ad 2)), (1, .int c1), (2, .int u2), (3, .int u3)] [] ((wP ad cA σ) ++ wr)) : jW x 4 0 0 4 [(0, .ref (ad 2)), (1, .int c1), (2, .int v2), (3, .int v3)] [] ((wP ad cA σ) ++ wr) := by
  unfold b_H_placesOfUnitsGivenTo_4 at h
  refine j_iload_n C 3 d_H_placesOfUnitsGivenTo_4 rfl rfl rfl ?_
  refine j_bipush (v := 20) C d_H_placesOfUnitsGivenTo_5 rfl (by decide) ?_
  refine j_icmp_ge (tgt := 45) C d_H_placesOfUnitsGivenTo_7 (by decide) rfl h (fun h => ?_) (fun h => ?_)
  · cases h
    refine j_sub [0, 1, 2, 3] rfl (ke _ _ rfl)
  · refine j_aload_n C 0 d_H_placesOfUnitsGivenTo_10 rfl rfl rfl ?_
    refine j_iload_n C 3 d_H_placesOfUnitsGivenTo_11 rfl rfl rfl ?_
    obtain ⟨r1, h2, h⟩ := mb1_some h
    refine j_callV C hR (As := [.int v3]) (ct_H_isInside (jl x) (jD x) (jT x) hT v3 σ h2) kf_H_isInside (by decide) tw_189 tw_191 tw_5 2 rfl rfl (rest := []) rfl rfl (Nat.le_of_ble_eq_true rfl) (by decide) ⟨rfl, rfl⟩ d_H_placesOfUnitsGivenTo_12 rfl (st1 := [.int r1]) rfl ?_
    refine j_if_eq (tgt := 39) C d_H_placesOfUnitsGivenTo_15 (by decide) rfl h (fun h => ?_) (fun h => ?_)
    · refine j_iinc (v' := (v3 + 1)) (lv' := [(3, .int (v3 + 1)), (0, .ref (ad 2)), (1, .int c1), (2, .int v2)]) C 3 d_H_placesOfUnitsGivenTo_39 rfl rfl rfl (by decide) rfl ?_
      refine j_goto (tgt := 4) C d_H_placesOfUnitsGivenTo_42 (by decide) ?_
      cases h
      refine j_sub [1, 2, 3, 0] rfl (kc _ _ rfl)
    · refine j_aload_n C 0 d_H_placesOfUnitsGivenTo_18 rfl rfl rfl ?_
      refine j_get C in_H 2 rfl rfl 2 (by decide) tw_80 rfl (v := .ref (ad 5)) rfl d_H_placesOfUnitsGivenTo_19 rfl ?_
      refine j_iload_n C 3 d_H_placesOfUnitsGivenTo_22 rfl rfl rfl ?_
      refine j_iald C 5 0 rfl hT d_H_placesOfUnitsGivenTo_23 rfl h (fun r3 h => ?_)
      refine j_iload_n C 1 d_H_placesOfUnitsGivenTo_24 rfl rfl rfl ?_
      refine j_icmp_ne (tgt := 39) C d_H_placesOfUnitsGivenTo_25 (by decide) rfl h (fun h => ?_) (fun h => ?_)
      · refine j_iinc (v' := (v3 + 1)) (lv' := [(3, .int (v3 + 1)), (0, .ref (ad 2)), (1, .int c1), (2, .int v2)]) C 3 d_H_placesOfUnitsGivenTo_39 rfl rfl rfl (by decide) rfl ?_
        refine j_goto (tgt := 4) C d_H_placesOfUnitsGivenTo_42 (by decide) ?_
        cases h
        refine j_sub [1, 2, 3, 0] rfl (kc _ _ rfl)
      · refine j_iload_n C 2 d_H_placesOfUnitsGivenTo_28 rfl rfl rfl ?_
        refine j_iconst (v := 1) C d_H_placesOfUnitsGivenTo_29 rfl (by decide) ?_
        refine j_aload_n C 0 d_H_placesOfUnitsGivenTo_30 rfl rfl rfl ?_
        refine j_get C in_H 2 rfl rfl 0 (by decide) tw_77 rfl (v := .ref (ad 3)) rfl d_H_placesOfUnitsGivenTo_31 rfl ?_
        refine j_iload_n C 3 d_H_placesOfUnitsGivenTo_34 rfl rfl rfl ?_
        refine j_iald C 3 0 rfl hT d_H_placesOfUnitsGivenTo_35 rfl h (fun r4 h => ?_)
        refine j_ishl C d_H_placesOfUnitsGivenTo_36 rfl ?_
        refine j_ior C d_H_placesOfUnitsGivenTo_37 rfl ?_
        refine j_istore_n (lv' := [(2, .int (v2 ||| ((1 : Int32) <<< (r4 &&& 31)))), (0, .ref (ad 2)), (1, .int c1), (3, .int v3)]) C d_H_placesOfUnitsGivenTo_38 rfl rfl (by decide) rfl ?_
        refine j_iinc (v' := (v3 + 1)) (lv' := [(3, .int (v3 + 1)), (2, .int (v2 ||| ((1 : Int32) <<< (r4 &&& 31)))), (0, .ref (ad 2)), (1, .int c1)]) C 3 d_H_placesOfUnitsGivenTo_39 rfl rfl rfl (by decide) rfl ?_
        refine j_goto (tgt := 4) C d_H_placesOfUnitsGivenTo_42 (by decide) ?_
        cases h
        refine j_sub [2, 3, 1, 0] rfl (kc _ _ rfl)
set_option maxRecDepth 100000 in
theorem wl_H_placesOfUnitsGivenTo_4 {x : JX} {ad : Nat → Nat} {cA : ClassId} {wr : va_W} (C : jC x cc_H_placesOfUnitsGivenTo 4 "PlainWarehouse$House") (hT : (jT x)[0]? = some (cA, .int)) (hR : jR x = rm_H_placesOfUnitsGivenTo)  (c1 : Int32) (σ : SP) (v2 : Int32) (v3 : Int32) {u2 : Int32} {u3 : Int32} (n : Nat) (h : lp (fun s => b_H_placesOfUnitsGivenTo_4 c1 σ s.1 s.2) n (v2, v3) = some (u2, u3)) (K : jW x 4 0 0 45 [(0, .ref (ad 2)), (1, .int c1), (2, .int u2), (3, .int u3)] [] ((wP ad cA σ) ++ wr)) : jW x 4 0 0 4 [(0, .ref (ad 2)), (1, .int c1), (2, .int v2), (3, .int v3)] [] ((wP ad cA σ) ++ wr) :=
  j_lp (Pr := fun s => jW x 4 0 0 4 [(0, .ref (ad 2)), (1, .int c1), (2, .int s.1), (3, .int s.2)] [] ((wP ad cA σ) ++ wr)) (K := fun s => jW x 4 0 0 45 [(0, .ref (ad 2)), (1, .int c1), (2, .int s.1), (3, .int s.2)] [] ((wP ad cA σ) ++ wr)) (fun s o h kc ke => wb_H_placesOfUnitsGivenTo_4 C hT hR c1 σ s.1 s.2 h (fun u2 u3 e => kc _ e) (fun u2 u3 e => ke _ e)) n _ _ h K
set_option maxHeartbeats 4000000 in
set_option maxRecDepth 100000 in
theorem w_H_placesOfUnitsGivenTo {x : JX} {ad : Nat → Nat} {cA : ClassId} {wr : va_W} (C : jC x cc_H_placesOfUnitsGivenTo 4 "PlainWarehouse$House") (hT : (jT x)[0]? = some (cA, .int)) (hR : jR x = rm_H_placesOfUnitsGivenTo)  (a1 : Int32) (σ : SP) {r : Int32} (hr : (jt x).sig.returnType = some .int) (E : jE x 0 0 (some (.int r)) ((wP ad cA σ) ++ wr)) (h : m_H_placesOfUnitsGivenTo a1 σ = some r) : jW x 4 0 0 0 [(0, .ref (ad 2)), (1, .int a1)] [] ((wP ad cA σ) ++ wr) := by
  unfold m_H_placesOfUnitsGivenTo at h
  refine j_iconst (v := 0) C d_H_placesOfUnitsGivenTo_0 rfl (by decide) ?_
  refine j_istore_n (lv' := [(2, .int (0 : Int32)), (0, .ref (ad 2)), (1, .int a1)]) C d_H_placesOfUnitsGivenTo_1 rfl rfl (by decide) rfl ?_
  refine j_iconst (v := 0) C d_H_placesOfUnitsGivenTo_2 rfl (by decide) ?_
  refine j_istore_n (lv' := [(3, .int (0 : Int32)), (2, .int (0 : Int32)), (0, .ref (ad 2)), (1, .int a1)]) C d_H_placesOfUnitsGivenTo_3 rfl rfl (by decide) rfl ?_
  obtain ⟨w5, w6, h7, h⟩ := mb2_some h
  refine j_sub [2, 3, 1, 0] rfl (wl_H_placesOfUnitsGivenTo_4 C hT hR a1 σ (0 : Int32) (0 : Int32) FU h7 ?_)
  refine j_iload_n C 2 d_H_placesOfUnitsGivenTo_45 rfl rfl rfl ?_
  cases h
  exact j_iret C E hr d_H_placesOfUnitsGivenTo_46
theorem ct_H_placesOfUnitsGivenTo (l : Launch) (D : va_G) (tys : List (ClassId × FieldType)) {ad : Nat → Nat} {cA : ClassId} {wr : va_W} (hT : tys[0]? = some (cA, .int)) (a1 : Int32) (σ : SP) {r : Int32} (h : m_H_placesOfUnitsGivenTo a1 σ = some r) : jM l y_H_placesOfUnitsGivenTo ws_H_placesOfUnitsGivenTo rm_H_placesOfUnitsGivenTo D tys [.ref (ad 2), .int a1] ((wP ad cA σ) ++ wr) (some (.int r)) ((wP ad cA σ) ++ wr) :=
  j_of (by decide +kernel) rfl (Nat.le_of_ble_eq_true rfl) rfl (fun x _ _ hT' hR C hr _ E => w_H_placesOfUnitsGivenTo C (by rw [hT']; exact hT) hR a1 σ hr E h)
def rm_H_toldOrders : Room := { frames := 1, cells := 0, slots := 0, locals := 21 }
def b_H_toldOrders_4 (σ : SP) (v1 : Int32) (v2 : Int32) : Option ((Int32 × Int32) ⊕ (Int32 × Int32)) :=
  (if (10 : Int32) ≤ v2 then some (.inr (v1, v2)) else (mb1 (m_H_isTold v2 σ) fun r1 => (if r1 = 0 then some (.inl (v1, (v2 + 1))) else some (.inl ((v1 + 1), (v2 + 1))))))
def m_H_toldOrders (σ : SP) : Option (Int32) :=
  (mb2 (lp (fun s => b_H_toldOrders_4 σ s.1 s.2) FU ((0 : Int32), (0 : Int32))) fun w3 w4 => some w3)
set_option maxHeartbeats 4000000 in
set_option maxRecDepth 100000 in
theorem wb_H_toldOrders_4 {x : JX} {ad : Nat → Nat} {cA : ClassId} {wr : va_W} (C : jC x cc_H_toldOrders 3 "PlainWarehouse$House") (hT : (jT x)[0]? = some (cA, .int)) (hR : jR x = rm_H_toldOrders)  (σ : SP) (v1 : Int32) (v2 : Int32) {o : (Int32 × Int32) ⊕ (Int32 × Int32)} (h : b_H_toldOrders_4 σ v1 v2 = some o) (kc : ∀ (u1 : Int32) (u2 : Int32), o = .inl (u1, u2) → jW x 3 0 0 4 [(0, .ref (ad 2)), (1, .int u1), (2, .int u2)] [] ((wP ad cA σ) ++ wr)) (ke : ∀ (u1 : Int32) (u2 : Int32), o = .inr (u1, u2) → jW x 3 0 0 27 [(0, .ref (ad 2)), (1, .int u1), (2, .int u2)] [] ((wP ad cA σ) ++ wr)) : jW x 3 0 0 4 [(0, .ref (ad 2)), (1, .int v1), (2, .int v2)] [] ((wP ad cA σ) ++ wr) := by
  unfold b_H_toldOrders_4 at h
  refine j_iload_n C 2 d_H_toldOrders_4 rfl rfl rfl ?_
  refine j_bipush (v := 10) C d_H_toldOrders_5 rfl (by decide) ?_
  refine j_icmp_ge (tgt := 27) C d_H_toldOrders_7 (by decide) rfl h (fun h => ?_) (fun h => ?_)
  · cases h
    refine j_sub [0, 1, 2] rfl (ke _ _ rfl)
  · refine j_aload_n C 0 d_H_toldOrders_10 rfl rfl rfl ?_
    refine j_iload_n C 2 d_H_toldOrders_11 rfl rfl rfl ?_
    obtain ⟨r1, h2, h⟩ := mb1_some h
    refine j_callV C hR (As := [.int v2]) (ct_H_isTold (jl x) (jD x) (jT x) hT v2 σ h2) kf_H_isTold (by decide) tw_197 tw_199 tw_7 2 rfl rfl (rest := []) rfl rfl (Nat.le_of_ble_eq_true rfl) (by decide) ⟨rfl, rfl⟩ d_H_toldOrders_12 rfl (st1 := [.int r1]) rfl ?_
    refine j_if_eq (tgt := 21) C d_H_toldOrders_15 (by decide) rfl h (fun h => ?_) (fun h => ?_)
    · refine j_iinc (v' := (v2 + 1)) (lv' := [(2, .int (v2 + 1)), (0, .ref (ad 2)), (1, .int v1)]) C 2 d_H_toldOrders_21 rfl rfl rfl (by decide) rfl ?_
      refine j_goto (tgt := 4) C d_H_toldOrders_24 (by decide) ?_
      cases h
      refine j_sub [1, 2, 0] rfl (kc _ _ rfl)
    · refine j_iinc (v' := (v1 + 1)) (lv' := [(1, .int (v1 + 1)), (0, .ref (ad 2)), (2, .int v2)]) C 1 d_H_toldOrders_18 rfl rfl rfl (by decide) rfl ?_
      refine j_iinc (v' := (v2 + 1)) (lv' := [(2, .int (v2 + 1)), (1, .int (v1 + 1)), (0, .ref (ad 2))]) C 2 d_H_toldOrders_21 rfl rfl rfl (by decide) rfl ?_
      refine j_goto (tgt := 4) C d_H_toldOrders_24 (by decide) ?_
      cases h
      refine j_sub [2, 1, 0] rfl (kc _ _ rfl)
set_option maxRecDepth 100000 in
theorem wl_H_toldOrders_4 {x : JX} {ad : Nat → Nat} {cA : ClassId} {wr : va_W} (C : jC x cc_H_toldOrders 3 "PlainWarehouse$House") (hT : (jT x)[0]? = some (cA, .int)) (hR : jR x = rm_H_toldOrders)  (σ : SP) (v1 : Int32) (v2 : Int32) {u1 : Int32} {u2 : Int32} (n : Nat) (h : lp (fun s => b_H_toldOrders_4 σ s.1 s.2) n (v1, v2) = some (u1, u2)) (K : jW x 3 0 0 27 [(0, .ref (ad 2)), (1, .int u1), (2, .int u2)] [] ((wP ad cA σ) ++ wr)) : jW x 3 0 0 4 [(0, .ref (ad 2)), (1, .int v1), (2, .int v2)] [] ((wP ad cA σ) ++ wr) :=
  j_lp (Pr := fun s => jW x 3 0 0 4 [(0, .ref (ad 2)), (1, .int s.1), (2, .int s.2)] [] ((wP ad cA σ) ++ wr)) (K := fun s => jW x 3 0 0 27 [(0, .ref (ad 2)), (1, .int s.1), (2, .int s.2)] [] ((wP ad cA σ) ++ wr)) (fun s o h kc ke => wb_H_toldOrders_4 C hT hR  σ s.1 s.2 h (fun u1 u2 e => kc _ e) (fun u1 u2 e => ke _ e)) n _ _ h K
set_option maxHeartbeats 4000000 in
set_option maxRecDepth 100000 in
theorem w_H_toldOrders {x : JX} {ad : Nat → Nat} {cA : ClassId} {wr : va_W} (C : jC x cc_H_toldOrders 3 "PlainWarehouse$House") (hT : (jT x)[0]? = some (cA, .int)) (hR : jR x = rm_H_toldOrders)  (σ : SP) {r : Int32} (hr : (jt x).sig.returnType = some .int) (E : jE x 0 0 (some (.int r)) ((wP ad cA σ) ++ wr)) (h : m_H_toldOrders σ = some r) : jW x 3 0 0 0 [(0, .ref (ad 2))] [] ((wP ad cA σ) ++ wr) := by
  unfold m_H_toldOrders at h
  refine j_iconst (v := 0) C d_H_toldOrders_0 rfl (by decide) ?_
  refine j_istore_n (lv' := [(1, .int (0 : Int32)), (0, .ref (ad 2))]) C d_H_toldOrders_1 rfl rfl (by decide) rfl ?_
  refine j_iconst (v := 0) C d_H_toldOrders_2 rfl (by decide) ?_
  refine j_istore_n (lv' := [(2, .int (0 : Int32)), (1, .int (0 : Int32)), (0, .ref (ad 2))]) C d_H_toldOrders_3 rfl rfl (by decide) rfl ?_
  obtain ⟨w3, w4, h5, h⟩ := mb2_some h
  refine j_sub [2, 1, 0] rfl (wl_H_toldOrders_4 C hT hR  σ (0 : Int32) (0 : Int32) FU h5 ?_)
  refine j_iload_n C 1 d_H_toldOrders_27 rfl rfl rfl ?_
  cases h
  exact j_iret C E hr d_H_toldOrders_28
theorem ct_H_toldOrders (l : Launch) (D : va_G) (tys : List (ClassId × FieldType)) {ad : Nat → Nat} {cA : ClassId} {wr : va_W} (hT : tys[0]? = some (cA, .int)) (σ : SP) {r : Int32} (h : m_H_toldOrders σ = some r) : jM l y_H_toldOrders ws_H_toldOrders rm_H_toldOrders D tys [.ref (ad 2)] ((wP ad cA σ) ++ wr) (some (.int r)) ((wP ad cA σ) ++ wr) :=
  j_of (by decide +kernel) rfl (Nat.le_of_ble_eq_true rfl) rfl (fun x _ _ hT' hR C hr _ E => w_H_toldOrders C (by rw [hT']; exact hT) hR σ hr E h)
def rm_H_fullOrders : Room := { frames := 2, cells := 0, slots := 0, locals := 42 }
def b_H_fullOrders_4 (σ : SP) (v1 : Int32) (v2 : Int32) : Option ((Int32 × Int32) ⊕ (Int32 × Int32)) :=
  (if (10 : Int32) ≤ v2 then some (.inr (v1, v2)) else (mb1 (m_H_isFull v2 σ) fun r1 => (if r1 = 0 then some (.inl (v1, (v2 + 1))) else some (.inl ((v1 + 1), (v2 + 1))))))
def m_H_fullOrders (σ : SP) : Option (Int32) :=
  (mb2 (lp (fun s => b_H_fullOrders_4 σ s.1 s.2) FU ((0 : Int32), (0 : Int32))) fun w3 w4 => some w3)
set_option maxHeartbeats 4000000 in
set_option maxRecDepth 100000 in
theorem wb_H_fullOrders_4 {x : JX} {ad : Nat → Nat} {cA : ClassId} {wr : va_W} (C : jC x cc_H_fullOrders 3 "PlainWarehouse$House") (hT : (jT x)[0]? = some (cA, .int)) (hR : jR x = rm_H_fullOrders)  (σ : SP) (v1 : Int32) (v2 : Int32) {o : (Int32 × Int32) ⊕ (Int32 × Int32)} (h : b_H_fullOrders_4 σ v1 v2 = some o) (kc : ∀ (u1 : Int32) (u2 : Int32), o = .inl (u1, u2) → jW x 3 0 0 4 [(0, .ref (ad 2)), (1, .int u1), (2, .int u2)] [] ((wP ad cA σ) ++ wr)) (ke : ∀ (u1 : Int32) (u2 : Int32), o = .inr (u1, u2) → jW x 3 0 0 27 [(0, .ref (ad 2)), (1, .int u1), (2, .int u2)] [] ((wP ad cA σ) ++ wr)) : jW x 3 0 0 4 [(0, .ref (ad 2)), (1, .int v1), (2, .int v2)] [] ((wP ad cA σ) ++ wr) := by
  unfold b_H_fullOrders_4 at h
  refine j_iload_n C 2 d_H_fullOrders_4 rfl rfl rfl ?_
  refine j_bipush (v := 10) C d_H_fullOrders_5 rfl (by decide) ?_
  refine j_icmp_ge (tgt := 27) C d_H_fullOrders_7 (by decide) rfl h (fun h => ?_) (fun h => ?_)
  · cases h
    refine j_sub [0, 1, 2] rfl (ke _ _ rfl)
  · refine j_aload_n C 0 d_H_fullOrders_10 rfl rfl rfl ?_
    refine j_iload_n C 2 d_H_fullOrders_11 rfl rfl rfl ?_
    obtain ⟨r1, h2, h⟩ := mb1_some h
    refine j_callV C hR (As := [.int v2]) (ct_H_isFull (jl x) (jD x) (jT x) hT v2 σ h2) kf_H_isFull (by decide) tw_235 tw_237 tw_15 2 rfl rfl (rest := []) rfl rfl (Nat.le_of_ble_eq_true rfl) (by decide) ⟨rfl, rfl⟩ d_H_fullOrders_12 rfl (st1 := [.int r1]) rfl ?_
    refine j_if_eq (tgt := 21) C d_H_fullOrders_15 (by decide) rfl h (fun h => ?_) (fun h => ?_)
    · refine j_iinc (v' := (v2 + 1)) (lv' := [(2, .int (v2 + 1)), (0, .ref (ad 2)), (1, .int v1)]) C 2 d_H_fullOrders_21 rfl rfl rfl (by decide) rfl ?_
      refine j_goto (tgt := 4) C d_H_fullOrders_24 (by decide) ?_
      cases h
      refine j_sub [1, 2, 0] rfl (kc _ _ rfl)
    · refine j_iinc (v' := (v1 + 1)) (lv' := [(1, .int (v1 + 1)), (0, .ref (ad 2)), (2, .int v2)]) C 1 d_H_fullOrders_18 rfl rfl rfl (by decide) rfl ?_
      refine j_iinc (v' := (v2 + 1)) (lv' := [(2, .int (v2 + 1)), (1, .int (v1 + 1)), (0, .ref (ad 2))]) C 2 d_H_fullOrders_21 rfl rfl rfl (by decide) rfl ?_
      refine j_goto (tgt := 4) C d_H_fullOrders_24 (by decide) ?_
      cases h
      refine j_sub [2, 1, 0] rfl (kc _ _ rfl)
set_option maxRecDepth 100000 in
theorem wl_H_fullOrders_4 {x : JX} {ad : Nat → Nat} {cA : ClassId} {wr : va_W} (C : jC x cc_H_fullOrders 3 "PlainWarehouse$House") (hT : (jT x)[0]? = some (cA, .int)) (hR : jR x = rm_H_fullOrders)  (σ : SP) (v1 : Int32) (v2 : Int32) {u1 : Int32} {u2 : Int32} (n : Nat) (h : lp (fun s => b_H_fullOrders_4 σ s.1 s.2) n (v1, v2) = some (u1, u2)) (K : jW x 3 0 0 27 [(0, .ref (ad 2)), (1, .int u1), (2, .int u2)] [] ((wP ad cA σ) ++ wr)) : jW x 3 0 0 4 [(0, .ref (ad 2)), (1, .int v1), (2, .int v2)] [] ((wP ad cA σ) ++ wr) :=
  j_lp (Pr := fun s => jW x 3 0 0 4 [(0, .ref (ad 2)), (1, .int s.1), (2, .int s.2)] [] ((wP ad cA σ) ++ wr)) (K := fun s => jW x 3 0 0 27 [(0, .ref (ad 2)), (1, .int s.1), (2, .int s.2)] [] ((wP ad cA σ) ++ wr)) (fun s o h kc ke => wb_H_fullOrders_4 C hT hR  σ s.1 s.2 h (fun u1 u2 e => kc _ e) (fun u1 u2 e => ke _ e)) n _ _ h K
set_option maxHeartbeats 4000000 in
set_option maxRecDepth 100000 in
theorem w_H_fullOrders {x : JX} {ad : Nat → Nat} {cA : ClassId} {wr : va_W} (C : jC x cc_H_fullOrders 3 "PlainWarehouse$House") (hT : (jT x)[0]? = some (cA, .int)) (hR : jR x = rm_H_fullOrders)  (σ : SP) {r : Int32} (hr : (jt x).sig.returnType = some .int) (E : jE x 0 0 (some (.int r)) ((wP ad cA σ) ++ wr)) (h : m_H_fullOrders σ = some r) : jW x 3 0 0 0 [(0, .ref (ad 2))] [] ((wP ad cA σ) ++ wr) := by
  unfold m_H_fullOrders at h
  refine j_iconst (v := 0) C d_H_fullOrders_0 rfl (by decide) ?_
  refine j_istore_n (lv' := [(1, .int (0 : Int32)), (0, .ref (ad 2))]) C d_H_fullOrders_1 rfl rfl (by decide) rfl ?_
  refine j_iconst (v := 0) C d_H_fullOrders_2 rfl (by decide) ?_
  refine j_istore_n (lv' := [(2, .int (0 : Int32)), (1, .int (0 : Int32)), (0, .ref (ad 2))]) C d_H_fullOrders_3 rfl rfl (by decide) rfl ?_
  obtain ⟨w3, w4, h5, h⟩ := mb2_some h
  refine j_sub [2, 1, 0] rfl (wl_H_fullOrders_4 C hT hR  σ (0 : Int32) (0 : Int32) FU h5 ?_)
  refine j_iload_n C 1 d_H_fullOrders_27 rfl rfl rfl ?_
  cases h
  exact j_iret C E hr d_H_fullOrders_28
theorem ct_H_fullOrders (l : Launch) (D : va_G) (tys : List (ClassId × FieldType)) {ad : Nat → Nat} {cA : ClassId} {wr : va_W} (hT : tys[0]? = some (cA, .int)) (σ : SP) {r : Int32} (h : m_H_fullOrders σ = some r) : jM l y_H_fullOrders ws_H_fullOrders rm_H_fullOrders D tys [.ref (ad 2)] ((wP ad cA σ) ++ wr) (some (.int r)) ((wP ad cA σ) ++ wr) :=
  j_of (by decide +kernel) rfl (Nat.le_of_ble_eq_true rfl) rfl (fun x _ _ hT' hR C hr _ E => w_H_fullOrders C (by rw [hT']; exact hT) hR σ hr E h)
def rm_H_linkedPairs : Room := { frames := 1, cells := 0, slots := 0, locals := 21 }
def b_H_linkedPairs_14 (c2 : Int32) (σ : SP) (v1 : Int32) (v3 : Int32) : Option ((Int32 × Int32) ⊕ (Int32 × Int32)) :=
  (if (10 : Int32) ≤ v3 then some (.inr (v1, v3)) else (mb1 (m_P_pair c2 v3) fun r1 => (mrd 100 (g_lk σ) r1 fun r3 => (if r3 ≤ 0 then some (.inl (v1, (v3 + 1))) else some (.inl ((v1 + 1), (v3 + 1)))))))
def b_H_linkedPairs_4 (σ : SP) (v1 : Int32) (v2 : Int32) : Option ((Int32 × Int32) ⊕ (Int32 × Int32)) :=
  (if (10 : Int32) ≤ v2 then some (.inr (v1, v2)) else (mb2 (lp (fun s => b_H_linkedPairs_14 v2 σ s.1 s.2) FU (v1, (v2 + (1 : Int32)))) fun w4 w5 => some (.inl (w4, (v2 + 1)))))
def m_H_linkedPairs (σ : SP) : Option (Int32) :=
  (mb2 (lp (fun s => b_H_linkedPairs_4 σ s.1 s.2) FU ((0 : Int32), (0 : Int32))) fun w7 w8 => some w7)
set_option maxHeartbeats 4000000 in
set_option maxRecDepth 100000 in
theorem wb_H_linkedPairs_14 {x : JX} {ad : Nat → Nat} {cA : ClassId} {wr : va_W} (C : jC x cc_H_linkedPairs 4 "PlainWarehouse$House") (hT : (jT x)[0]? = some (cA, .int)) (hR : jR x = rm_H_linkedPairs)  (c2 : Int32) (σ : SP) (v1 : Int32) (v3 : Int32) {o : (Int32 × Int32) ⊕ (Int32 × Int32)} (h : b_H_linkedPairs_14 c2 σ v1 v3 = some o) (kc : ∀ (u1 : Int32) (u3 : Int32), o = .inl (u1, u3) → jW x 4 0 0 14 [(0, .ref (ad 2)), (1, .int u1), (2, .int c2), (3, .int u3)] [] ((wP ad cA σ) ++ wr)) (ke : ∀ (u1 : Int32) (u3 : Int32), o = .inr (u1, u3) → jW x 4 0 0 42 [(0, .ref (ad 2)), (1, .int u1), (2, .int c2), (3, .int u3)] [] ((wP ad cA σ) ++ wr)) : jW x 4 0 0 14 [(0, .ref (ad 2)), (1, .int v1), (2, .int c2), (3, .int v3)] [] ((wP ad cA σ) ++ wr) := by
  unfold b_H_linkedPairs_14 at h
  refine j_iload_n C 3 d_H_linkedPairs_14 rfl rfl rfl ?_
  refine j_bipush (v := 10) C d_H_linkedPairs_15 rfl (by decide) ?_
  refine j_icmp_ge (tgt := 42) C d_H_linkedPairs_17 (by decide) rfl h (fun h => ?_) (fun h => ?_)
  · cases h
    refine j_sub [0, 1, 2, 3] rfl (ke _ _ rfl)
  · refine j_aload_n C 0 d_H_linkedPairs_20 rfl rfl rfl ?_
    refine j_get C in_H 2 rfl rfl 7 (by decide) tw_91 rfl (v := .ref (ad 10)) rfl d_H_linkedPairs_21 rfl ?_
    refine j_iload_n C 2 d_H_linkedPairs_24 rfl rfl rfl ?_
    refine j_iload_n C 3 d_H_linkedPairs_25 rfl rfl rfl ?_
    obtain ⟨r1, h2, h⟩ := mb1_some h
    refine j_callSN C hR (As := [.int c2, .int v3]) (ct_P_pair (jl x) (jD x) (jT x) c2 v3 h2) kf_P_pair (by decide) tw_217 tw_218 (rest := [.ref (ad 10)]) rfl rfl (Nat.le_of_ble_eq_true rfl) (by decide) ⟨rfl, rfl⟩ d_H_linkedPairs_26 rfl (st1 := [.int r1, .ref (ad 10)]) rfl ?_
    refine j_iald C 10 0 rfl hT d_H_linkedPairs_29 rfl h (fun r3 h => ?_)
    refine j_if_le (tgt := 36) C d_H_linkedPairs_30 (by decide) rfl h (fun h => ?_) (fun h => ?_)
    · refine j_iinc (v' := (v3 + 1)) (lv' := [(3, .int (v3 + 1)), (0, .ref (ad 2)), (1, .int v1), (2, .int c2)]) C 3 d_H_linkedPairs_36 rfl rfl rfl (by decide) rfl ?_
      refine j_goto (tgt := 14) C d_H_linkedPairs_39 (by decide) ?_
      cases h
      refine j_sub [1, 2, 3, 0] rfl (kc _ _ rfl)
    · refine j_iinc (v' := (v1 + 1)) (lv' := [(1, .int (v1 + 1)), (0, .ref (ad 2)), (2, .int c2), (3, .int v3)]) C 1 d_H_linkedPairs_33 rfl rfl rfl (by decide) rfl ?_
      refine j_iinc (v' := (v3 + 1)) (lv' := [(3, .int (v3 + 1)), (1, .int (v1 + 1)), (0, .ref (ad 2)), (2, .int c2)]) C 3 d_H_linkedPairs_36 rfl rfl rfl (by decide) rfl ?_
      refine j_goto (tgt := 14) C d_H_linkedPairs_39 (by decide) ?_
      cases h
      refine j_sub [2, 1, 3, 0] rfl (kc _ _ rfl)
set_option maxRecDepth 100000 in
theorem wl_H_linkedPairs_14 {x : JX} {ad : Nat → Nat} {cA : ClassId} {wr : va_W} (C : jC x cc_H_linkedPairs 4 "PlainWarehouse$House") (hT : (jT x)[0]? = some (cA, .int)) (hR : jR x = rm_H_linkedPairs)  (c2 : Int32) (σ : SP) (v1 : Int32) (v3 : Int32) {u1 : Int32} {u3 : Int32} (n : Nat) (h : lp (fun s => b_H_linkedPairs_14 c2 σ s.1 s.2) n (v1, v3) = some (u1, u3)) (K : jW x 4 0 0 42 [(0, .ref (ad 2)), (1, .int u1), (2, .int c2), (3, .int u3)] [] ((wP ad cA σ) ++ wr)) : jW x 4 0 0 14 [(0, .ref (ad 2)), (1, .int v1), (2, .int c2), (3, .int v3)] [] ((wP ad cA σ) ++ wr) :=
  j_lp (Pr := fun s => jW x 4 0 0 14 [(0, .ref (ad 2)), (1, .int s.1), (2, .int c2), (3, .int s.2)] [] ((wP ad cA σ) ++ wr)) (K := fun s => jW x 4 0 0 42 [(0, .ref (ad 2)), (1, .int s.1), (2, .int c2), (3, .int s.2)] [] ((wP ad cA σ) ++ wr)) (fun s o h kc ke => wb_H_linkedPairs_14 C hT hR c2 σ s.1 s.2 h (fun u1 u3 e => kc _ e) (fun u1 u3 e => ke _ e)) n _ _ h K
set_option maxHeartbeats 4000000 in
set_option maxRecDepth 100000 in
theorem wb_H_linkedPairs_4 {x : JX} {ad : Nat → Nat} {cA : ClassId} {wr : va_W} (C : jC x cc_H_linkedPairs 4 "PlainWarehouse$House") (hT : (jT x)[0]? = some (cA, .int)) (hR : jR x = rm_H_linkedPairs)  (σ : SP) (v1 : Int32) (v2 : Int32) {o : (Int32 × Int32) ⊕ (Int32 × Int32)} (h : b_H_linkedPairs_4 σ v1 v2 = some o) (kc : ∀ (u1 : Int32) (u2 : Int32), o = .inl (u1, u2) → jW x 4 0 0 4 [(0, .ref (ad 2)), (1, .int u1), (2, .int u2)] [] ((wP ad cA σ) ++ wr)) (ke : ∀ (u1 : Int32) (u2 : Int32), o = .inr (u1, u2) → jW x 4 0 0 48 [(0, .ref (ad 2)), (1, .int u1), (2, .int u2)] [] ((wP ad cA σ) ++ wr)) : jW x 4 0 0 4 [(0, .ref (ad 2)), (1, .int v1), (2, .int v2)] [] ((wP ad cA σ) ++ wr) := by
  unfold b_H_linkedPairs_4 at h
  refine j_iload_n C 2 d_H_linkedPairs_4 rfl rfl rfl ?_
  refine j_bipush (v := 10) C d_H_linkedPairs_5 rfl (by decide) ?_
  refine j_icmp_ge (tgt := 48) C d_H_linkedPairs_7 (by decide) rfl h (fun h => ?_) (fun h => ?_)
  · cases h
    refine j_sub [0, 1, 2] rfl (ke _ _ rfl)
  · refine j_iload_n C 2 d_H_linkedPairs_10 rfl rfl rfl ?_
    refine j_iconst (v := 1) C d_H_linkedPairs_11 rfl (by decide) ?_
    refine j_iadd C d_H_linkedPairs_12 rfl ?_
    refine j_istore_n (lv' := [(3, .int (v2 + (1 : Int32))), (0, .ref (ad 2)), (1, .int v1), (2, .int v2)]) C d_H_linkedPairs_13 rfl rfl (by decide) rfl ?_
    obtain ⟨w4, w5, h6, h⟩ := mb2_some h
    refine j_sub [1, 2, 3, 0] rfl (wl_H_linkedPairs_14 C hT hR v2 σ v1 (v2 + (1 : Int32)) FU h6 ?_)
    refine j_iinc (v' := (v2 + 1)) (lv' := [(2, .int (v2 + 1)), (0, .ref (ad 2)), (1, .int w4), (3, .int w5)]) C 2 d_H_linkedPairs_42 rfl rfl rfl (by decide) rfl ?_
    refine j_goto (tgt := 4) C d_H_linkedPairs_45 (by decide) ?_
    cases h
    refine j_sub [1, 2, 0] rfl (kc _ _ rfl)
set_option maxRecDepth 100000 in
theorem wl_H_linkedPairs_4 {x : JX} {ad : Nat → Nat} {cA : ClassId} {wr : va_W} (C : jC x cc_H_linkedPairs 4 "PlainWarehouse$House") (hT : (jT x)[0]? = some (cA, .int)) (hR : jR x = rm_H_linkedPairs)  (σ : SP) (v1 : Int32) (v2 : Int32) {u1 : Int32} {u2 : Int32} (n : Nat) (h : lp (fun s => b_H_linkedPairs_4 σ s.1 s.2) n (v1, v2) = some (u1, u2)) (K : jW x 4 0 0 48 [(0, .ref (ad 2)), (1, .int u1), (2, .int u2)] [] ((wP ad cA σ) ++ wr)) : jW x 4 0 0 4 [(0, .ref (ad 2)), (1, .int v1), (2, .int v2)] [] ((wP ad cA σ) ++ wr) :=
  j_lp (Pr := fun s => jW x 4 0 0 4 [(0, .ref (ad 2)), (1, .int s.1), (2, .int s.2)] [] ((wP ad cA σ) ++ wr)) (K := fun s => jW x 4 0 0 48 [(0, .ref (ad 2)), (1, .int s.1), (2, .int s.2)] [] ((wP ad cA σ) ++ wr)) (fun s o h kc ke => wb_H_linkedPairs_4 C hT hR  σ s.1 s.2 h (fun u1 u2 e => kc _ e) (fun u1 u2 e => ke _ e)) n _ _ h K
set_option maxHeartbeats 4000000 in
set_option maxRecDepth 100000 in
theorem w_H_linkedPairs {x : JX} {ad : Nat → Nat} {cA : ClassId} {wr : va_W} (C : jC x cc_H_linkedPairs 4 "PlainWarehouse$House") (hT : (jT x)[0]? = some (cA, .int)) (hR : jR x = rm_H_linkedPairs)  (σ : SP) {r : Int32} (hr : (jt x).sig.returnType = some .int) (E : jE x 0 0 (some (.int r)) ((wP ad cA σ) ++ wr)) (h : m_H_linkedPairs σ = some r) : jW x 4 0 0 0 [(0, .ref (ad 2))] [] ((wP ad cA σ) ++ wr) := by
  unfold m_H_linkedPairs at h
  refine j_iconst (v := 0) C d_H_linkedPairs_0 rfl (by decide) ?_
  refine j_istore_n (lv' := [(1, .int (0 : Int32)), (0, .ref (ad 2))]) C d_H_linkedPairs_1 rfl rfl (by decide) rfl ?_
  refine j_iconst (v := 0) C d_H_linkedPairs_2 rfl (by decide) ?_
  refine j_istore_n (lv' := [(2, .int (0 : Int32)), (1, .int (0 : Int32)), (0, .ref (ad 2))]) C d_H_linkedPairs_3 rfl rfl (by decide) rfl ?_
  obtain ⟨w7, w8, h9, h⟩ := mb2_some h
  refine j_sub [2, 1, 0] rfl (wl_H_linkedPairs_4 C hT hR  σ (0 : Int32) (0 : Int32) FU h9 ?_)
  refine j_iload_n C 1 d_H_linkedPairs_48 rfl rfl rfl ?_
  cases h
  exact j_iret C E hr d_H_linkedPairs_49
theorem ct_H_linkedPairs (l : Launch) (D : va_G) (tys : List (ClassId × FieldType)) {ad : Nat → Nat} {cA : ClassId} {wr : va_W} (hT : tys[0]? = some (cA, .int)) (σ : SP) {r : Int32} (h : m_H_linkedPairs σ = some r) : jM l y_H_linkedPairs ws_H_linkedPairs rm_H_linkedPairs D tys [.ref (ad 2)] ((wP ad cA σ) ++ wr) (some (.int r)) ((wP ad cA σ) ++ wr) :=
  j_of (by decide +kernel) rfl (Nat.le_of_ble_eq_true rfl) rfl (fun x _ _ hT' hR C hr _ E => w_H_linkedPairs C (by rw [hT']; exact hT) hR σ hr E h)
def rm_H_empty : Room := { frames := 1, cells := 0, slots := 0, locals := 23 }
def m_H_empty (σ : SP) : Option (SP) :=
  (mlet (u_pl σ (fil 20 (-1 : Int32) (g_pl σ))) fun σ1 => (mlet (u_gv σ1 (fil 20 (-1 : Int32) (g_gv σ1))) fun σ2 => (mlet (u_wa σ2 (fil 10 (0 : Int32) (g_wa σ2))) fun σ3 => (mlet (u_gt σ3 (fil 10 (0 : Int32) (g_gt σ3))) fun σ4 => (mlet (u_ce σ4 (fil 4 (0 : Int32) (g_ce σ4))) fun σ5 => (mlet (u_lk σ5 (fil 100 (0 : Int32) (g_lk σ5))) fun σ6 => some σ6))))))
set_option maxHeartbeats 4000000 in
set_option maxRecDepth 100000 in
theorem w_H_empty {x : JX} {ad : Nat → Nat} {cA : ClassId} {wr : va_W} (C : jC x cc_H_empty 1 "PlainWarehouse$House") (hT : (jT x)[0]? = some (cA, .int)) (hR : jR x = rm_H_empty)  (σ : SP) {σ' : SP} (hr : (jt x).sig.returnType = none) (E : jE x 0 0 none ((wP ad cA σ') ++ wr)) (h : m_H_empty σ = some σ') : jW x 1 0 0 0 [(0, .ref (ad 2))] [] ((wP ad cA σ) ++ wr) := by
  unfold m_H_empty at h
  refine j_aload_n C 0 d_H_empty_0 rfl rfl rfl ?_
  refine j_get C in_H 2 rfl rfl 0 (by decide) tw_77 rfl (v := .ref (ad 3)) rfl d_H_empty_1 rfl ?_
  refine j_iconst (v := (-1)) C d_H_empty_4 rfl (by decide) ?_
  refine j_fill C hR tw_174 tw_175 3 rfl (by decide) hT (by decide) (Nat.le_of_ble_eq_true rfl) (by decide) d_H_empty_5 rfl (fun t => (wP ad cA t) ++ wr) h rfl (fun σ1 h => ?_)
  refine j_aload_n C 0 d_H_empty_8 rfl rfl rfl ?_
  refine j_get C in_H 2 rfl rfl 2 (by decide) tw_80 rfl (v := .ref (ad 5)) rfl d_H_empty_9 rfl ?_
  refine j_iconst (v := (-1)) C d_H_empty_12 rfl (by decide) ?_
  refine j_fill C hR tw_174 tw_175 5 rfl (by decide) hT (by decide) (Nat.le_of_ble_eq_true rfl) (by decide) d_H_empty_13 rfl (fun t => (wP ad cA t) ++ wr) h rfl (fun σ2 h => ?_)
  refine j_aload_n C 0 d_H_empty_16 rfl rfl rfl ?_
  refine j_get C in_H 2 rfl rfl 3 (by decide) tw_81 rfl (v := .ref (ad 6)) rfl d_H_empty_17 rfl ?_
  refine j_iconst (v := 0) C d_H_empty_20 rfl (by decide) ?_
  refine j_fill C hR tw_174 tw_175 6 rfl (by decide) hT (by decide) (Nat.le_of_ble_eq_true rfl) (by decide) d_H_empty_21 rfl (fun t => (wP ad cA t) ++ wr) h rfl (fun σ3 h => ?_)
  refine j_aload_n C 0 d_H_empty_24 rfl rfl rfl ?_
  refine j_get C in_H 2 rfl rfl 5 (by decide) tw_86 rfl (v := .ref (ad 8)) rfl d_H_empty_25 rfl ?_
  refine j_iconst (v := 0) C d_H_empty_28 rfl (by decide) ?_
  refine j_fill C hR tw_174 tw_175 8 rfl (by decide) hT (by decide) (Nat.le_of_ble_eq_true rfl) (by decide) d_H_empty_29 rfl (fun t => (wP ad cA t) ++ wr) h rfl (fun σ4 h => ?_)
  refine j_aload_n C 0 d_H_empty_32 rfl rfl rfl ?_
  refine j_get C in_H 2 rfl rfl 6 (by decide) tw_89 rfl (v := .ref (ad 9)) rfl d_H_empty_33 rfl ?_
  refine j_iconst (v := 0) C d_H_empty_36 rfl (by decide) ?_
  refine j_fill C hR tw_174 tw_175 9 rfl (by decide) hT (by decide) (Nat.le_of_ble_eq_true rfl) (by decide) d_H_empty_37 rfl (fun t => (wP ad cA t) ++ wr) h rfl (fun σ5 h => ?_)
  refine j_aload_n C 0 d_H_empty_40 rfl rfl rfl ?_
  refine j_get C in_H 2 rfl rfl 7 (by decide) tw_91 rfl (v := .ref (ad 10)) rfl d_H_empty_41 rfl ?_
  refine j_iconst (v := 0) C d_H_empty_44 rfl (by decide) ?_
  refine j_fill C hR tw_174 tw_175 10 rfl (by decide) hT (by decide) (Nat.le_of_ble_eq_true rfl) (by decide) d_H_empty_45 rfl (fun t => (wP ad cA t) ++ wr) h rfl (fun σ6 h => ?_)
  cases h
  exact j_vret C E hr d_H_empty_48
theorem ct_H_empty (l : Launch) (D : va_G) (tys : List (ClassId × FieldType)) {ad : Nat → Nat} {cA : ClassId} {wr : va_W} (hT : tys[0]? = some (cA, .int)) (σ : SP) {σ' : SP} (h : m_H_empty σ = some σ') : jM l y_H_empty ws_H_empty rm_H_empty D tys [.ref (ad 2)] ((wP ad cA σ) ++ wr) none ((wP ad cA σ') ++ wr) :=
  j_of (by decide +kernel) rfl (Nat.le_of_ble_eq_true rfl) rfl (fun x _ _ hT' hR C hr _ E => w_H_empty C (by rw [hT']; exact hT) hR σ hr E h)
