set_option maxRecDepth 100000 in
theorem tw_255 : Cond.methodLink "PlainWarehouse" (91 : Nat) ({ cls := "PlainWarehouse", name := "isUnit", desc := "(I)Z" } : MethodName) ∈ WS := ws_in 255 rfl rfl
set_option maxRecDepth 100000 in
theorem tw_256 : Cond.static ({ cls := "PlainWarehouse", name := "isUnit", desc := "(I)Z" } : MethodName) ∈ WS := ws_in 256 rfl rfl
set_option maxRecDepth 100000 in
theorem tw_258 : Cond.methodLink "PlainWarehouse" (165 : Nat) ({ cls := "PlainWarehouse", name := "isWithin", desc := "(III)Z" } : MethodName) ∈ WS := ws_in 258 rfl rfl
set_option maxRecDepth 100000 in
theorem tw_259 : Cond.static ({ cls := "PlainWarehouse", name := "isWithin", desc := "(III)Z" } : MethodName) ∈ WS := ws_in 259 rfl rfl
set_option maxRecDepth 100000 in
theorem tw_261 : Cond.methodLink "PlainWarehouse" (74 : Nat) ({ cls := "PlainWarehouse", name := "isGood", desc := "(I)Z" } : MethodName) ∈ WS := ws_in 261 rfl rfl
set_option maxRecDepth 100000 in
theorem tw_262 : Cond.static ({ cls := "PlainWarehouse", name := "isGood", desc := "(I)Z" } : MethodName) ∈ WS := ws_in 262 rfl rfl
set_option maxRecDepth 100000 in
theorem tw_264 : Cond.methodLink "PlainWarehouse" (68 : Nat) ({ cls := "PlainWarehouse", name := "isPlace", desc := "(I)Z" } : MethodName) ∈ WS := ws_in 264 rfl rfl
set_option maxRecDepth 100000 in
theorem tw_265 : Cond.static ({ cls := "PlainWarehouse", name := "isPlace", desc := "(I)Z" } : MethodName) ∈ WS := ws_in 265 rfl rfl
set_option maxRecDepth 100000 in
theorem tw_267 : Cond.methodLink "PlainWarehouse" (193 : Nat) ({ cls := "PlainWarehouse", name := "isOrder", desc := "(I)Z" } : MethodName) ∈ WS := ws_in 267 rfl rfl
set_option maxRecDepth 100000 in
theorem tw_268 : Cond.static ({ cls := "PlainWarehouse", name := "isOrder", desc := "(I)Z" } : MethodName) ∈ WS := ws_in 268 rfl rfl
set_option maxRecDepth 100000 in
theorem tw_270 : Cond.methodLink "PlainWarehouse" (149 : Nat) ({ cls := "PlainWarehouse", name := "isOwner", desc := "(I)Z" } : MethodName) ∈ WS := ws_in 270 rfl rfl
set_option maxRecDepth 100000 in
theorem tw_271 : Cond.static ({ cls := "PlainWarehouse", name := "isOwner", desc := "(I)Z" } : MethodName) ∈ WS := ws_in 271 rfl rfl
set_option maxRecDepth 100000 in
theorem tw_433 : Cond.constant "java/lang/Integer" (265 : Nat) (1431655765 : Int32) ∈ WS := ws_in 433 rfl rfl
set_option maxRecDepth 100000 in
theorem tw_434 : Cond.constant "java/lang/Integer" (266 : Nat) (858993459 : Int32) ∈ WS := ws_in 434 rfl rfl
set_option maxRecDepth 100000 in
theorem tw_435 : Cond.constant "java/lang/Integer" (267 : Nat) (252645135 : Int32) ∈ WS := ws_in 435 rfl rfl
set_option maxRecDepth 100000 in
theorem tw_490 : Cond.constant "PlainWarehouse" (196 : Nat) (1000000 : Int32) ∈ WS := ws_in 490 rfl rfl
def rm_JA_fill : Room := { frames := 0, cells := 0, slots := 0, locals := 0 }
set_option maxHeartbeats 4000000 in
set_option maxRecDepth 100000 in
theorem wl_JA_fill {x : JX} {w : va_W} {a n q0 : Nat} {cA : ClassId} {f : Nat → Int32} {v : Int32} (C : jC x cc_JA_fill 4 "java/util/Arrays") (hT : (jT x)[0]? = some (cA, .int)) (hr : (jt x).sig.returnType = none) (hq : q0 < w.length) (hn : n < 2 ^ 31)
    (E : jE x 0 0 none (w.set q0 (a, .inl (cA, n, .inl (fil n v f))))) : ∀ k i : Nat, i + k = n → jW x 4 0 0 5 [(0, .ref a), (1, .int v), (2, .int (nI i)), (3, .int (nI n))] [] (w.set q0 (a, .inl (cA, n, .inl (fil i v f)))) := by
  intro k
  induction k with
  | zero =>
    intro i hi
    have hi : i = n := by omega
    subst hi
    refine j_iload_n C 2 d_JA_fill_5 rfl rfl rfl ?_
    refine j_iload_n C 3 d_JA_fill_6 rfl rfl rfl ?_
    refine j_icmp_ge (tgt := 20) (MA := some ()) (MB := none) (res := ()) C d_JA_fill_7 (by decide) rfl (by rw [if_pos (nI_le (Nat.le_refl _) hn)]) (fun _ => ?_) (fun h => by cases h)
    exact j_vret C E hr d_JA_fill_20
  | succ k ih =>
    intro i hi
    have hlt : i < n := by omega
    refine j_iload_n C 2 d_JA_fill_5 rfl rfl rfl ?_
    refine j_iload_n C 3 d_JA_fill_6 rfl rfl rfl ?_
    refine j_icmp_ge (tgt := 20) (MA := none) (MB := some ()) (res := ()) C d_JA_fill_7 (by decide) rfl (by rw [if_neg (nI_ge hlt hn)]) (fun h => by cases h) (fun _ => ?_)
    refine j_aload_n C 0 d_JA_fill_10 rfl rfl rfl ?_
    refine j_iload_n C 2 d_JA_fill_11 rfl rfl rfl ?_
    refine j_iload_n C 1 d_JA_fill_12 rfl rfl rfl ?_
    refine j_iast (τ := Unit) (t0 := ()) (B := fun _ => some ()) (res := ()) C (fun _ => w.set q0 (a, .inl (cA, n, .inl (fil (i + 1) v f)))) q0 0 (List.getElem?_set_self hq) hT d_JA_fill_13 rfl (by unfold mck mlet; rw [if_pos]; rw [nI_toInt (by omega)]; constructor <;> omega) (by rw [List.set_set, fil_s (by omega)]) (fun _ _ => ?_)
    refine j_iinc (v' := nI (i + 1)) (lv' := [(2, .int (nI (i + 1))), (0, .ref a), (1, .int v), (3, .int (nI n))]) C 2 d_JA_fill_14 rfl rfl (nI_1 i) (by decide) rfl ?_
    refine j_goto (tgt := 5) C d_JA_fill_17 (by decide) ?_
    exact j_sub [1, 2, 0, 3] rfl (ih (i + 1) (by omega))
set_option maxHeartbeats 4000000 in
set_option maxRecDepth 100000 in
theorem ct_JA_fill (l : Launch) (D : va_G) (tys : List (ClassId × FieldType)) {w : va_W} {a n : Nat} (q0 : Nat) {cA : ClassId} {f : Nat → Int32} (v : Int32) (hT : tys[0]? = some (cA, .int)) (hq : w[q0]? = some (a, .inl (cA, n, .inl f))) (hn : n < 2 ^ 31) : jM l y_JA_fill ws_JA_fill rm_JA_fill D tys [.ref a, .int v] w none (w.set q0 (a, .inl (cA, n, .inl (fil n v f)))) := by
  have hlt : q0 < w.length := (List.getElem?_eq_some_iff.mp hq).1
  refine j_of (lv := [(0, .ref a), (1, .int v)]) (by decide +kernel) rfl (Nat.le_of_ble_eq_true rfl) rfl (fun x _ _ hT' hR C hr _ E => ?_)
  have hT2 : (jT x)[0]? = some (cA, .int) := by rw [hT']; exact hT
  refine j_iconst (v := 0) C d_JA_fill_0 rfl (by decide) ?_
  refine j_istore_n (lv' := [(2, .int 0), (0, .ref a), (1, .int v)]) C d_JA_fill_1 rfl rfl (by decide) rfl ?_
  refine j_aload_n C 1 d_JA_fill_2 rfl rfl rfl ?_
  refine j_alen (v := nI n) C q0 0 hq hT2 rfl d_JA_fill_3 rfl ?_
  refine j_istore_n (lv' := [(3, .int (nI n)), (2, .int 0), (0, .ref a), (1, .int v)]) C d_JA_fill_4 rfl rfl (by decide) rfl ?_
  have hw : w = w.set q0 (a, .inl (cA, n, .inl (fil 0 v f))) := by
    rw [fil_0]
    obtain ⟨h1, h2⟩ := List.getElem?_eq_some_iff.mp hq
    rw [← h2, List.set_getElem_self]
  rw [hw]
  have K := wl_JA_fill (v := v) (f := f) C hT2 hr hlt hn E n 0 (by omega)
  exact j_sub [2, 3, 1, 0] rfl K
theorem j_fill {x : JX} {cc : ByteArray} {nL kc ks : Nat} {own : String} {pc pc' : Nat} {lv : List (Nat × Value)} {st : List Value} {w : va_W} (C : jC x cc nL own) {rm0 : Room} (hR : jR x = rm0) {index : Nat} (hlk : Cond.methodLink own index y_JA_fill ∈ WS) (hs : Cond.static y_JA_fill ∈ WS) {a n : Nat} {cA : ClassId} {f : Nat → Int32} {v : Int32} (q0 : Nat) (ha : w[q0]? = some (a, .inl (cA, n, .inl f))) (hn : n < 2 ^ 31) (hT : (jT x)[0]? = some (cA, .int)) (hrm : rm_JA_fill.frames + 1 ≤ rm0.frames ∧ 8 + (4 + 11) + rm_JA_fill.locals ≤ rm0.locals) (hW : (st.map fun v => v.category).sum ≤ 8) (hf : kc ≤ rm0.cells ∧ ks ≤ rm0.slots) (hd : decode cc pc = .ok (.invokestatic index, 3)) (hp : pc + 3 = pc') {α τ : Type} {res : α} {B : τ → Option α} {t0 : τ} (wf : τ → va_W) (h : mlet t0 B = some res) (hw : w.set q0 (a, .inl (cA, n, .inl (fil n v f))) = wf t0) (K : ∀ t : τ, B t = some res → jW x nL kc ks pc' lv st (wf t)) : jW x nL kc ks pc lv (.int v :: .ref a :: st) w :=
  j_callS C hR (As := [.ref a, .int v]) (ct_JA_fill (jl x) (jD x) (jT x) q0 v hT ha hn) kf_JA_fill hrm hlk hs (rest := st) rfl rfl hW hf ⟨rfl, rfl⟩ hd hp (st1 := st) rfl (by rw [hw]; exact K t0 h)

def rm_P_isWithin : Room := { frames := 0, cells := 0, slots := 0, locals := 0 }
def m_P_isWithin (a0 : Int32) (a1 : Int32) (a2 : Int32) : Option (Int32) :=
  (if a0 < a1 then some (0 : Int32) else (if a2 < a0 then some (0 : Int32) else some (1 : Int32)))
set_option maxHeartbeats 4000000 in
set_option maxRecDepth 100000 in
theorem w_P_isWithin {x : JX} {w : va_W} (C : jC x cc_P_isWithin 3 "PlainWarehouse") (hR : jR x = rm_P_isWithin)  (a0 : Int32) (a1 : Int32) (a2 : Int32) {r : Int32} (hr : (jt x).sig.returnType = some .boolean) (E : jE x 0 0 (some (.int r)) (w)) (h : m_P_isWithin a0 a1 a2 = some r) : jW x 3 0 0 0 [(0, .int a0), (1, .int a1), (2, .int a2)] [] (w) := by
  unfold m_P_isWithin at h
  refine j_iload_n C 0 d_P_isWithin_0 rfl rfl rfl ?_
  refine j_iload_n C 1 d_P_isWithin_1 rfl rfl rfl ?_
  refine j_icmp_lt (tgt := 14) C d_P_isWithin_2 (by decide) rfl h (fun h => ?_) (fun h => ?_)
  · refine j_iconst (v := 0) C d_P_isWithin_14 rfl (by decide) ?_
    cases h
    exact j_zret C E hr rfl d_P_isWithin_15
  · refine j_iload_n C 0 d_P_isWithin_5 rfl rfl rfl ?_
    refine j_iload_n C 2 d_P_isWithin_6 rfl rfl rfl ?_
    refine j_icmp_gt (tgt := 14) C d_P_isWithin_7 (by decide) rfl h (fun h => ?_) (fun h => ?_)
    · refine j_iconst (v := 0) C d_P_isWithin_14 rfl (by decide) ?_
      cases h
      exact j_zret C E hr rfl d_P_isWithin_15
    · refine j_iconst (v := 1) C d_P_isWithin_10 rfl (by decide) ?_
      refine j_goto (tgt := 15) C d_P_isWithin_11 (by decide) ?_
      cases h
      exact j_zret C E hr rfl d_P_isWithin_15
theorem ct_P_isWithin (l : Launch) (D : va_G) (tys : List (ClassId × FieldType)) {w : va_W} (a0 : Int32) (a1 : Int32) (a2 : Int32) {r : Int32} (h : m_P_isWithin a0 a1 a2 = some r) : jM l y_P_isWithin ws_P_isWithin rm_P_isWithin D tys [.int a0, .int a1, .int a2] (w) (some (.int r)) (w) :=
  j_of (by decide +kernel) rfl (Nat.le_of_ble_eq_true rfl) rfl (fun x _ _ _ hR C hr _ E => w_P_isWithin C hR a0 a1 a2 hr E h)
def rm_P_isUnit : Room := { frames := 1, cells := 0, slots := 0, locals := 22 }
def m_P_isUnit (a0 : Int32) : Option (Int32) :=
  (mb1 (m_P_isWithin a0 (0 : Int32) (19 : Int32)) fun r1 => (mzr r1 (some r1)))
set_option maxHeartbeats 4000000 in
set_option maxRecDepth 100000 in
theorem w_P_isUnit {x : JX} {w : va_W} (C : jC x cc_P_isUnit 1 "PlainWarehouse") (hR : jR x = rm_P_isUnit)  (a0 : Int32) {r : Int32} (hr : (jt x).sig.returnType = some .boolean) (E : jE x 0 0 (some (.int r)) (w)) (h : m_P_isUnit a0 = some r) : jW x 1 0 0 0 [(0, .int a0)] [] (w) := by
  unfold m_P_isUnit at h
  refine j_iload_n C 0 d_P_isUnit_0 rfl rfl rfl ?_
  refine j_iconst (v := 0) C d_P_isUnit_1 rfl (by decide) ?_
  refine j_bipush (v := 19) C d_P_isUnit_2 rfl (by decide) ?_
  obtain ⟨r1, h2, h⟩ := mb1_some h
  refine j_callS C hR (As := [.int a0, .int (0 : Int32), .int (19 : Int32)]) (ct_P_isWithin (jl x) (jD x) (jT x) a0 (0 : Int32) (19 : Int32) h2) kf_P_isWithin (by decide) tw_258 tw_259 (rest := []) rfl rfl (Nat.le_of_ble_eq_true rfl) (by decide) ⟨rfl, rfl⟩ d_P_isUnit_4 rfl (st1 := [.int r1]) rfl ?_
  obtain ⟨hz, h⟩ := mzr_some h
  cases h
  exact j_zret C E hr hz d_P_isUnit_7
theorem ct_P_isUnit (l : Launch) (D : va_G) (tys : List (ClassId × FieldType)) {w : va_W} (a0 : Int32) {r : Int32} (h : m_P_isUnit a0 = some r) : jM l y_P_isUnit ws_P_isUnit rm_P_isUnit D tys [.int a0] (w) (some (.int r)) (w) :=
  j_of (by decide +kernel) rfl (Nat.le_of_ble_eq_true rfl) rfl (fun x _ _ _ hR C hr _ E => w_P_isUnit C hR a0 hr E h)
def rm_P_isGood : Room := { frames := 1, cells := 0, slots := 0, locals := 22 }
def m_P_isGood (a0 : Int32) : Option (Int32) :=
  (mb1 (m_P_isWithin a0 (0 : Int32) (5 : Int32)) fun r1 => (mzr r1 (some r1)))
set_option maxHeartbeats 4000000 in
set_option maxRecDepth 100000 in
theorem w_P_isGood {x : JX} {w : va_W} (C : jC x cc_P_isGood 1 "PlainWarehouse") (hR : jR x = rm_P_isGood)  (a0 : Int32) {r : Int32} (hr : (jt x).sig.returnType = some .boolean) (E : jE x 0 0 (some (.int r)) (w)) (h : m_P_isGood a0 = some r) : jW x 1 0 0 0 [(0, .int a0)] [] (w) := by
  unfold m_P_isGood at h
  refine j_iload_n C 0 d_P_isGood_0 rfl rfl rfl ?_
  refine j_iconst (v := 0) C d_P_isGood_1 rfl (by decide) ?_
  refine j_iconst (v := 5) C d_P_isGood_2 rfl (by decide) ?_
  obtain ⟨r1, h2, h⟩ := mb1_some h
  refine j_callS C hR (As := [.int a0, .int (0 : Int32), .int (5 : Int32)]) (ct_P_isWithin (jl x) (jD x) (jT x) a0 (0 : Int32) (5 : Int32) h2) kf_P_isWithin (by decide) tw_258 tw_259 (rest := []) rfl rfl (Nat.le_of_ble_eq_true rfl) (by decide) ⟨rfl, rfl⟩ d_P_isGood_3 rfl (st1 := [.int r1]) rfl ?_
  obtain ⟨hz, h⟩ := mzr_some h
  cases h
  exact j_zret C E hr hz d_P_isGood_6
theorem ct_P_isGood (l : Launch) (D : va_G) (tys : List (ClassId × FieldType)) {w : va_W} (a0 : Int32) {r : Int32} (h : m_P_isGood a0 = some r) : jM l y_P_isGood ws_P_isGood rm_P_isGood D tys [.int a0] (w) (some (.int r)) (w) :=
  j_of (by decide +kernel) rfl (Nat.le_of_ble_eq_true rfl) rfl (fun x _ _ _ hR C hr _ E => w_P_isGood C hR a0 hr E h)
def rm_P_isPlace : Room := { frames := 1, cells := 0, slots := 0, locals := 22 }
def m_P_isPlace (a0 : Int32) : Option (Int32) :=
  (mb1 (m_P_isWithin a0 (0 : Int32) (9 : Int32)) fun r1 => (mzr r1 (some r1)))
set_option maxHeartbeats 4000000 in
set_option maxRecDepth 100000 in
theorem w_P_isPlace {x : JX} {w : va_W} (C : jC x cc_P_isPlace 1 "PlainWarehouse") (hR : jR x = rm_P_isPlace)  (a0 : Int32) {r : Int32} (hr : (jt x).sig.returnType = some .boolean) (E : jE x 0 0 (some (.int r)) (w)) (h : m_P_isPlace a0 = some r) : jW x 1 0 0 0 [(0, .int a0)] [] (w) := by
  unfold m_P_isPlace at h
  refine j_iload_n C 0 d_P_isPlace_0 rfl rfl rfl ?_
  refine j_iconst (v := 0) C d_P_isPlace_1 rfl (by decide) ?_
  refine j_bipush (v := 9) C d_P_isPlace_2 rfl (by decide) ?_
  obtain ⟨r1, h2, h⟩ := mb1_some h
  refine j_callS C hR (As := [.int a0, .int (0 : Int32), .int (9 : Int32)]) (ct_P_isWithin (jl x) (jD x) (jT x) a0 (0 : Int32) (9 : Int32) h2) kf_P_isWithin (by decide) tw_258 tw_259 (rest := []) rfl rfl (Nat.le_of_ble_eq_true rfl) (by decide) ⟨rfl, rfl⟩ d_P_isPlace_4 rfl (st1 := [.int r1]) rfl ?_
  obtain ⟨hz, h⟩ := mzr_some h
  cases h
  exact j_zret C E hr hz d_P_isPlace_7
theorem ct_P_isPlace (l : Launch) (D : va_G) (tys : List (ClassId × FieldType)) {w : va_W} (a0 : Int32) {r : Int32} (h : m_P_isPlace a0 = some r) : jM l y_P_isPlace ws_P_isPlace rm_P_isPlace D tys [.int a0] (w) (some (.int r)) (w) :=
  j_of (by decide +kernel) rfl (Nat.le_of_ble_eq_true rfl) rfl (fun x _ _ _ hR C hr _ E => w_P_isPlace C hR a0 hr E h)
def rm_P_isOrder : Room := { frames := 1, cells := 0, slots := 0, locals := 22 }
def m_P_isOrder (a0 : Int32) : Option (Int32) :=
  (mb1 (m_P_isWithin a0 (0 : Int32) (9 : Int32)) fun r1 => (mzr r1 (some r1)))
set_option maxHeartbeats 4000000 in
set_option maxRecDepth 100000 in
theorem w_P_isOrder {x : JX} {w : va_W} (C : jC x cc_P_isOrder 1 "PlainWarehouse") (hR : jR x = rm_P_isOrder)  (a0 : Int32) {r : Int32} (hr : (jt x).sig.returnType = some .boolean) (E : jE x 0 0 (some (.int r)) (w)) (h : m_P_isOrder a0 = some r) : jW x 1 0 0 0 [(0, .int a0)] [] (w) := by
  unfold m_P_isOrder at h
  refine j_iload_n C 0 d_P_isOrder_0 rfl rfl rfl ?_
  refine j_iconst (v := 0) C d_P_isOrder_1 rfl (by decide) ?_
  refine j_bipush (v := 9) C d_P_isOrder_2 rfl (by decide) ?_
  obtain ⟨r1, h2, h⟩ := mb1_some h
  refine j_callS C hR (As := [.int a0, .int (0 : Int32), .int (9 : Int32)]) (ct_P_isWithin (jl x) (jD x) (jT x) a0 (0 : Int32) (9 : Int32) h2) kf_P_isWithin (by decide) tw_258 tw_259 (rest := []) rfl rfl (Nat.le_of_ble_eq_true rfl) (by decide) ⟨rfl, rfl⟩ d_P_isOrder_4 rfl (st1 := [.int r1]) rfl ?_
  obtain ⟨hz, h⟩ := mzr_some h
  cases h
  exact j_zret C E hr hz d_P_isOrder_7
theorem ct_P_isOrder (l : Launch) (D : va_G) (tys : List (ClassId × FieldType)) {w : va_W} (a0 : Int32) {r : Int32} (h : m_P_isOrder a0 = some r) : jM l y_P_isOrder ws_P_isOrder rm_P_isOrder D tys [.int a0] (w) (some (.int r)) (w) :=
  j_of (by decide +kernel) rfl (Nat.le_of_ble_eq_true rfl) rfl (fun x _ _ _ hR C hr _ E => w_P_isOrder C hR a0 hr E h)
def rm_P_isOwner : Room := { frames := 1, cells := 0, slots := 0, locals := 22 }
def m_P_isOwner (a0 : Int32) : Option (Int32) :=
  (mb1 (m_P_isWithin a0 (0 : Int32) (3 : Int32)) fun r1 => (mzr r1 (some r1)))
set_option maxHeartbeats 4000000 in
set_option maxRecDepth 100000 in
theorem w_P_isOwner {x : JX} {w : va_W} (C : jC x cc_P_isOwner 1 "PlainWarehouse") (hR : jR x = rm_P_isOwner)  (a0 : Int32) {r : Int32} (hr : (jt x).sig.returnType = some .boolean) (E : jE x 0 0 (some (.int r)) (w)) (h : m_P_isOwner a0 = some r) : jW x 1 0 0 0 [(0, .int a0)] [] (w) := by
  unfold m_P_isOwner at h
  refine j_iload_n C 0 d_P_isOwner_0 rfl rfl rfl ?_
  refine j_iconst (v := 0) C d_P_isOwner_1 rfl (by decide) ?_
  refine j_iconst (v := 3) C d_P_isOwner_2 rfl (by decide) ?_
  obtain ⟨r1, h2, h⟩ := mb1_some h
  refine j_callS C hR (As := [.int a0, .int (0 : Int32), .int (3 : Int32)]) (ct_P_isWithin (jl x) (jD x) (jT x) a0 (0 : Int32) (3 : Int32) h2) kf_P_isWithin (by decide) tw_258 tw_259 (rest := []) rfl rfl (Nat.le_of_ble_eq_true rfl) (by decide) ⟨rfl, rfl⟩ d_P_isOwner_3 rfl (st1 := [.int r1]) rfl ?_
  obtain ⟨hz, h⟩ := mzr_some h
  cases h
  exact j_zret C E hr hz d_P_isOwner_6
theorem ct_P_isOwner (l : Launch) (D : va_G) (tys : List (ClassId × FieldType)) {w : va_W} (a0 : Int32) {r : Int32} (h : m_P_isOwner a0 = some r) : jM l y_P_isOwner ws_P_isOwner rm_P_isOwner D tys [.int a0] (w) (some (.int r)) (w) :=
  j_of (by decide +kernel) rfl (Nat.le_of_ble_eq_true rfl) rfl (fun x _ _ _ hR C hr _ E => w_P_isOwner C hR a0 hr E h)
def rm_P_isInSet : Room := { frames := 0, cells := 0, slots := 0, locals := 0 }
def m_P_isInSet (a0 : Int32) (a1 : Int32) : Option (Int32) :=
  (if ((((a1).toUInt32 >>> ((a0).toUInt32 &&& Int32.toUInt32 31)).toInt32) &&& (1 : Int32)) = (1 : Int32) then some (1 : Int32) else some (0 : Int32))
set_option maxHeartbeats 4000000 in
set_option maxRecDepth 100000 in
theorem w_P_isInSet {x : JX} {w : va_W} (C : jC x cc_P_isInSet 2 "PlainWarehouse") (hR : jR x = rm_P_isInSet)  (a0 : Int32) (a1 : Int32) {r : Int32} (hr : (jt x).sig.returnType = some .boolean) (E : jE x 0 0 (some (.int r)) (w)) (h : m_P_isInSet a0 a1 = some r) : jW x 2 0 0 0 [(0, .int a0), (1, .int a1)] [] (w) := by
  unfold m_P_isInSet at h
  refine j_iload_n C 1 d_P_isInSet_0 rfl rfl rfl ?_
  refine j_iload_n C 0 d_P_isInSet_1 rfl rfl rfl ?_
  refine j_iushr C d_P_isInSet_2 rfl ?_
  refine j_iconst (v := 1) C d_P_isInSet_3 rfl (by decide) ?_
  refine j_iand C d_P_isInSet_4 rfl ?_
  refine j_iconst (v := 1) C d_P_isInSet_5 rfl (by decide) ?_
  refine j_icmp_ne (tgt := 13) C d_P_isInSet_6 (by decide) rfl h (fun h => ?_) (fun h => ?_)
  · refine j_iconst (v := 0) C d_P_isInSet_13 rfl (by decide) ?_
    cases h
    exact j_zret C E hr rfl d_P_isInSet_14
  · refine j_iconst (v := 1) C d_P_isInSet_9 rfl (by decide) ?_
    refine j_goto (tgt := 14) C d_P_isInSet_10 (by decide) ?_
    cases h
    exact j_zret C E hr rfl d_P_isInSet_14
theorem ct_P_isInSet (l : Launch) (D : va_G) (tys : List (ClassId × FieldType)) {w : va_W} (a0 : Int32) (a1 : Int32) {r : Int32} (h : m_P_isInSet a0 a1 = some r) : jM l y_P_isInSet ws_P_isInSet rm_P_isInSet D tys [.int a0, .int a1] (w) (some (.int r)) (w) :=
  j_of (by decide +kernel) rfl (Nat.le_of_ble_eq_true rfl) rfl (fun x _ _ _ hR C hr _ E => w_P_isInSet C hR a0 a1 hr E h)
def rm_P_pair : Room := { frames := 0, cells := 0, slots := 0, locals := 0 }
def m_P_pair (a0 : Int32) (a1 : Int32) : Option (Int32) :=
  some ((a0 * (10 : Int32)) + a1)
set_option maxHeartbeats 4000000 in
set_option maxRecDepth 100000 in
theorem w_P_pair {x : JX} {w : va_W} (C : jC x cc_P_pair 2 "PlainWarehouse") (hR : jR x = rm_P_pair)  (a0 : Int32) (a1 : Int32) {r : Int32} (hr : (jt x).sig.returnType = some .int) (E : jE x 0 0 (some (.int r)) (w)) (h : m_P_pair a0 a1 = some r) : jW x 2 0 0 0 [(0, .int a0), (1, .int a1)] [] (w) := by
  unfold m_P_pair at h
  refine j_iload_n C 0 d_P_pair_0 rfl rfl rfl ?_
  refine j_bipush (v := 10) C d_P_pair_1 rfl (by decide) ?_
  refine j_imul C d_P_pair_3 rfl ?_
  refine j_iload_n C 1 d_P_pair_4 rfl rfl rfl ?_
  refine j_iadd C d_P_pair_5 rfl ?_
  cases h
  exact j_iret C E hr d_P_pair_6
theorem ct_P_pair (l : Launch) (D : va_G) (tys : List (ClassId × FieldType)) {w : va_W} (a0 : Int32) (a1 : Int32) {r : Int32} (h : m_P_pair a0 a1 = some r) : jM l y_P_pair ws_P_pair rm_P_pair D tys [.int a0, .int a1] (w) (some (.int r)) (w) :=
  j_of (by decide +kernel) rfl (Nat.le_of_ble_eq_true rfl) rfl (fun x _ _ _ hR C hr _ E => w_P_pair C hR a0 a1 hr E h)
def rm_P_orNone : Room := { frames := 0, cells := 0, slots := 0, locals := 0 }
def m_P_orNone (a0 : Int32) : Option (Int32) :=
  (if a0 < (1000000 : Int32) then some a0 else some (-1 : Int32))
set_option maxHeartbeats 4000000 in
set_option maxRecDepth 100000 in
theorem w_P_orNone {x : JX} {w : va_W} (C : jC x cc_P_orNone 1 "PlainWarehouse") (hR : jR x = rm_P_orNone)  (a0 : Int32) {r : Int32} (hr : (jt x).sig.returnType = some .int) (E : jE x 0 0 (some (.int r)) (w)) (h : m_P_orNone a0 = some r) : jW x 1 0 0 0 [(0, .int a0)] [] (w) := by
  unfold m_P_orNone at h
  refine j_iload_n C 0 d_P_orNone_0 rfl rfl rfl ?_
  refine j_ldc (v := 1000000) C d_P_orNone_1 rfl tw_490 ?_
  refine j_icmp_lt (tgt := 10) C d_P_orNone_3 (by decide) rfl h (fun h => ?_) (fun h => ?_)
  · refine j_iload_n C 0 d_P_orNone_10 rfl rfl rfl ?_
    cases h
    exact j_iret C E hr d_P_orNone_11
  · refine j_iconst (v := (-1)) C d_P_orNone_6 rfl (by decide) ?_
    refine j_goto (tgt := 11) C d_P_orNone_7 (by decide) ?_
    cases h
    exact j_iret C E hr d_P_orNone_11
theorem ct_P_orNone (l : Launch) (D : va_G) (tys : List (ClassId × FieldType)) {w : va_W} (a0 : Int32) {r : Int32} (h : m_P_orNone a0 = some r) : jM l y_P_orNone ws_P_orNone rm_P_orNone D tys [.int a0] (w) (some (.int r)) (w) :=
  j_of (by decide +kernel) rfl (Nat.le_of_ble_eq_true rfl) rfl (fun x _ _ _ hR C hr _ E => w_P_orNone C hR a0 hr E h)
def rm_P_isInRange : Room := { frames := 2, cells := 0, slots := 0, locals := 42 }
def m_P_isInRange (a0 : Int32) (a1 : Int32) (a2 : Int32) (a3 : Int32) : Option (Int32) :=
  (if a0 = 0 then (mb1 (m_P_isUnit a1) fun r1 => (if r1 = 0 then some (0 : Int32) else (mb1 (m_P_isGood a2) fun r3 => (if r3 = 0 then some (0 : Int32) else (mb1 (m_P_isPlace a3) fun r5 => (if r5 = 0 then some (0 : Int32) else some (1 : Int32))))))) else (if a0 = 1 then (mb1 (m_P_isUnit a1) fun r7 => (if r7 = 0 then some (0 : Int32) else (mb1 (m_P_isPlace a2) fun r9 => (if r9 = 0 then some (0 : Int32) else (if a3 = 0 then some (1 : Int32) else some (0 : Int32)))))) else (if a0 = 2 then (mb1 (m_P_isUnit a1) fun r11 => (if r11 = 0 then some (0 : Int32) else (if a2 = 0 then (if a3 = 0 then some (1 : Int32) else some (0 : Int32)) else some (0 : Int32)))) else (if a0 = 3 then (mb1 (m_P_isOrder a1) fun r13 => (if r13 = 0 then some (0 : Int32) else (mb1 (m_P_isWithin a2 (1 : Int32) (9 : Int32)) fun r15 => (if r15 = 0 then some (0 : Int32) else (mb1 (m_P_isGood a3) fun r17 => (if r17 = 0 then some (0 : Int32) else some (1 : Int32))))))) else (if a0 = 4 then (mb1 (m_P_isUnit a1) fun r19 => (if r19 = 0 then some (0 : Int32) else (mb1 (m_P_isOrder a2) fun r21 => (if r21 = 0 then some (0 : Int32) else (if a3 = 0 then some (1 : Int32) else some (0 : Int32)))))) else (if a0 = 5 then (mb1 (m_P_isOwner a1) fun r23 => (if r23 = 0 then some (0 : Int32) else (if a2 = 0 then some (0 : Int32) else (mb1 (m_P_isWithin a2 (-10000 : Int32) (10000 : Int32)) fun r25 => (if r25 = 0 then some (0 : Int32) else (if a3 = 0 then some (1 : Int32) else some (0 : Int32))))))) else (if a0 = 6 then (mb1 (m_P_isPlace a1) fun r27 => (if r27 = 0 then some (0 : Int32) else (mb1 (m_P_isPlace a2) fun r29 => (if r29 = 0 then some (0 : Int32) else (mb1 (m_P_isWithin a3 (1 : Int32) (99 : Int32)) fun r31 => (if r31 = 0 then some (0 : Int32) else some (1 : Int32))))))) else some (0 : Int32))))))))
set_option maxHeartbeats 4000000 in
set_option maxRecDepth 100000 in
theorem w_P_isInRange {x : JX} {w : va_W} (C : jC x cc_P_isInRange 4 "PlainWarehouse") (hR : jR x = rm_P_isInRange)  (a0 : Int32) (a1 : Int32) (a2 : Int32) (a3 : Int32) {r : Int32} (hr : (jt x).sig.returnType = some .boolean) (E : jE x 0 0 (some (.int r)) (w)) (h : m_P_isInRange a0 a1 a2 a3 = some r) : jW x 4 0 0 0 [(0, .int a0), (1, .int a1), (2, .int a2), (3, .int a3)] [] (w) := by
  unfold m_P_isInRange at h
  refine j_iload_n C 0 d_P_isInRange_0 rfl rfl rfl ?_
  refine j_tsw (k := 0) (tgt := 44) C d_P_isInRange_1 (by decide) (by decide) rfl (by decide) h (fun h => ?_) (fun n0 h => ?_)
  · refine j_iload_n C 1 d_P_isInRange_44 rfl rfl rfl ?_
    obtain ⟨r1, h2, h⟩ := mb1_some h
    refine j_callS C hR (As := [.int a1]) (ct_P_isUnit (jl x) (jD x) (jT x) a1 h2) kf_P_isUnit (by decide) tw_255 tw_256 (rest := []) rfl rfl (Nat.le_of_ble_eq_true rfl) (by decide) ⟨rfl, rfl⟩ d_P_isInRange_45 rfl (st1 := [.int r1]) rfl ?_
    refine j_if_eq (tgt := 69) C d_P_isInRange_48 (by decide) rfl h (fun h => ?_) (fun h => ?_)
    · refine j_iconst (v := 0) C d_P_isInRange_69 rfl (by decide) ?_
      cases h
      exact j_zret C E hr rfl d_P_isInRange_70
    · refine j_iload_n C 2 d_P_isInRange_51 rfl rfl rfl ?_
      obtain ⟨r3, h4, h⟩ := mb1_some h
      refine j_callS C hR (As := [.int a2]) (ct_P_isGood (jl x) (jD x) (jT x) a2 h4) kf_P_isGood (by decide) tw_261 tw_262 (rest := []) rfl rfl (Nat.le_of_ble_eq_true rfl) (by decide) ⟨rfl, rfl⟩ d_P_isInRange_52 rfl (st1 := [.int r3]) rfl ?_
      refine j_if_eq (tgt := 69) C d_P_isInRange_55 (by decide) rfl h (fun h => ?_) (fun h => ?_)
      · refine j_iconst (v := 0) C d_P_isInRange_69 rfl (by decide) ?_
        cases h
        exact j_zret C E hr rfl d_P_isInRange_70
      · refine j_iload_n C 3 d_P_isInRange_58 rfl rfl rfl ?_
        obtain ⟨r5, h6, h⟩ := mb1_some h
        refine j_callS C hR (As := [.int a3]) (ct_P_isPlace (jl x) (jD x) (jT x) a3 h6) kf_P_isPlace (by decide) tw_264 tw_265 (rest := []) rfl rfl (Nat.le_of_ble_eq_true rfl) (by decide) ⟨rfl, rfl⟩ d_P_isInRange_59 rfl (st1 := [.int r5]) rfl ?_
        refine j_if_eq (tgt := 69) C d_P_isInRange_62 (by decide) rfl h (fun h => ?_) (fun h => ?_)
        · refine j_iconst (v := 0) C d_P_isInRange_69 rfl (by decide) ?_
          cases h
          exact j_zret C E hr rfl d_P_isInRange_70
        · refine j_iconst (v := 1) C d_P_isInRange_65 rfl (by decide) ?_
          refine j_goto (tgt := 70) C d_P_isInRange_66 (by decide) ?_
          cases h
          exact j_zret C E hr rfl d_P_isInRange_70
  refine j_tsw (k := 1) (tgt := 71) C d_P_isInRange_1 (by decide) (by decide) rfl (by decide) h (fun h => ?_) (fun n1 h => ?_)
  · refine j_iload_n C 1 d_P_isInRange_71 rfl rfl rfl ?_
    obtain ⟨r7, h8, h⟩ := mb1_some h
    refine j_callS C hR (As := [.int a1]) (ct_P_isUnit (jl x) (jD x) (jT x) a1 h8) kf_P_isUnit (by decide) tw_255 tw_256 (rest := []) rfl rfl (Nat.le_of_ble_eq_true rfl) (by decide) ⟨rfl, rfl⟩ d_P_isInRange_72 rfl (st1 := [.int r7]) rfl ?_
    refine j_if_eq (tgt := 93) C d_P_isInRange_75 (by decide) rfl h (fun h => ?_) (fun h => ?_)
    · refine j_iconst (v := 0) C d_P_isInRange_93 rfl (by decide) ?_
      cases h
      exact j_zret C E hr rfl d_P_isInRange_94
    · refine j_iload_n C 2 d_P_isInRange_78 rfl rfl rfl ?_
      obtain ⟨r9, h10, h⟩ := mb1_some h
      refine j_callS C hR (As := [.int a2]) (ct_P_isPlace (jl x) (jD x) (jT x) a2 h10) kf_P_isPlace (by decide) tw_264 tw_265 (rest := []) rfl rfl (Nat.le_of_ble_eq_true rfl) (by decide) ⟨rfl, rfl⟩ d_P_isInRange_79 rfl (st1 := [.int r9]) rfl ?_
      refine j_if_eq (tgt := 93) C d_P_isInRange_82 (by decide) rfl h (fun h => ?_) (fun h => ?_)
      · refine j_iconst (v := 0) C d_P_isInRange_93 rfl (by decide) ?_
        cases h
        exact j_zret C E hr rfl d_P_isInRange_94
      · refine j_iload_n C 3 d_P_isInRange_85 rfl rfl rfl ?_
        refine j_if_ne (tgt := 93) C d_P_isInRange_86 (by decide) rfl h (fun h => ?_) (fun h => ?_)
        · refine j_iconst (v := 0) C d_P_isInRange_93 rfl (by decide) ?_
          cases h
          exact j_zret C E hr rfl d_P_isInRange_94
        · refine j_iconst (v := 1) C d_P_isInRange_89 rfl (by decide) ?_
          refine j_goto (tgt := 94) C d_P_isInRange_90 (by decide) ?_
          cases h
          exact j_zret C E hr rfl d_P_isInRange_94
  refine j_tsw (k := 2) (tgt := 95) C d_P_isInRange_1 (by decide) (by decide) rfl (by decide) h (fun h => ?_) (fun n2 h => ?_)
  · refine j_iload_n C 1 d_P_isInRange_95 rfl rfl rfl ?_
    obtain ⟨r11, h12, h⟩ := mb1_some h
    refine j_callS C hR (As := [.int a1]) (ct_P_isUnit (jl x) (jD x) (jT x) a1 h12) kf_P_isUnit (by decide) tw_255 tw_256 (rest := []) rfl rfl (Nat.le_of_ble_eq_true rfl) (by decide) ⟨rfl, rfl⟩ d_P_isInRange_96 rfl (st1 := [.int r11]) rfl ?_
    refine j_if_eq (tgt := 114) C d_P_isInRange_99 (by decide) rfl h (fun h => ?_) (fun h => ?_)
    · refine j_iconst (v := 0) C d_P_isInRange_114 rfl (by decide) ?_
      cases h
      exact j_zret C E hr rfl d_P_isInRange_115
    · refine j_iload_n C 2 d_P_isInRange_102 rfl rfl rfl ?_
      refine j_if_ne (tgt := 114) C d_P_isInRange_103 (by decide) rfl h (fun h => ?_) (fun h => ?_)
      · refine j_iconst (v := 0) C d_P_isInRange_114 rfl (by decide) ?_
        cases h
        exact j_zret C E hr rfl d_P_isInRange_115
      · refine j_iload_n C 3 d_P_isInRange_106 rfl rfl rfl ?_
        refine j_if_ne (tgt := 114) C d_P_isInRange_107 (by decide) rfl h (fun h => ?_) (fun h => ?_)
        · refine j_iconst (v := 0) C d_P_isInRange_114 rfl (by decide) ?_
          cases h
          exact j_zret C E hr rfl d_P_isInRange_115
        · refine j_iconst (v := 1) C d_P_isInRange_110 rfl (by decide) ?_
          refine j_goto (tgt := 115) C d_P_isInRange_111 (by decide) ?_
          cases h
          exact j_zret C E hr rfl d_P_isInRange_115
  refine j_tsw (k := 3) (tgt := 116) C d_P_isInRange_1 (by decide) (by decide) rfl (by decide) h (fun h => ?_) (fun n3 h => ?_)
  · refine j_iload_n C 1 d_P_isInRange_116 rfl rfl rfl ?_
    obtain ⟨r13, h14, h⟩ := mb1_some h
    refine j_callS C hR (As := [.int a1]) (ct_P_isOrder (jl x) (jD x) (jT x) a1 h14) kf_P_isOrder (by decide) tw_267 tw_268 (rest := []) rfl rfl (Nat.le_of_ble_eq_true rfl) (by decide) ⟨rfl, rfl⟩ d_P_isInRange_117 rfl (st1 := [.int r13]) rfl ?_
    refine j_if_eq (tgt := 144) C d_P_isInRange_120 (by decide) rfl h (fun h => ?_) (fun h => ?_)
    · refine j_iconst (v := 0) C d_P_isInRange_144 rfl (by decide) ?_
      cases h
      exact j_zret C E hr rfl d_P_isInRange_145
    · refine j_iload_n C 2 d_P_isInRange_123 rfl rfl rfl ?_
      refine j_iconst (v := 1) C d_P_isInRange_124 rfl (by decide) ?_
      refine j_bipush (v := 9) C d_P_isInRange_125 rfl (by decide) ?_
      obtain ⟨r15, h16, h⟩ := mb1_some h
      refine j_callS C hR (As := [.int a2, .int (1 : Int32), .int (9 : Int32)]) (ct_P_isWithin (jl x) (jD x) (jT x) a2 (1 : Int32) (9 : Int32) h16) kf_P_isWithin (by decide) tw_258 tw_259 (rest := []) rfl rfl (Nat.le_of_ble_eq_true rfl) (by decide) ⟨rfl, rfl⟩ d_P_isInRange_127 rfl (st1 := [.int r15]) rfl ?_
      refine j_if_eq (tgt := 144) C d_P_isInRange_130 (by decide) rfl h (fun h => ?_) (fun h => ?_)
      · refine j_iconst (v := 0) C d_P_isInRange_144 rfl (by decide) ?_
        cases h
        exact j_zret C E hr rfl d_P_isInRange_145
      · refine j_iload_n C 3 d_P_isInRange_133 rfl rfl rfl ?_
        obtain ⟨r17, h18, h⟩ := mb1_some h
        refine j_callS C hR (As := [.int a3]) (ct_P_isGood (jl x) (jD x) (jT x) a3 h18) kf_P_isGood (by decide) tw_261 tw_262 (rest := []) rfl rfl (Nat.le_of_ble_eq_true rfl) (by decide) ⟨rfl, rfl⟩ d_P_isInRange_134 rfl (st1 := [.int r17]) rfl ?_
        refine j_if_eq (tgt := 144) C d_P_isInRange_137 (by decide) rfl h (fun h => ?_) (fun h => ?_)
        · refine j_iconst (v := 0) C d_P_isInRange_144 rfl (by decide) ?_
          cases h
          exact j_zret C E hr rfl d_P_isInRange_145
        · refine j_iconst (v := 1) C d_P_isInRange_140 rfl (by decide) ?_
          refine j_goto (tgt := 145) C d_P_isInRange_141 (by decide) ?_
          cases h
          exact j_zret C E hr rfl d_P_isInRange_145
  refine j_tsw (k := 4) (tgt := 146) C d_P_isInRange_1 (by decide) (by decide) rfl (by decide) h (fun h => ?_) (fun n4 h => ?_)
  · refine j_iload_n C 1 d_P_isInRange_146 rfl rfl rfl ?_
    obtain ⟨r19, h20, h⟩ := mb1_some h
    refine j_callS C hR (As := [.int a1]) (ct_P_isUnit (jl x) (jD x) (jT x) a1 h20) kf_P_isUnit (by decide) tw_255 tw_256 (rest := []) rfl rfl (Nat.le_of_ble_eq_true rfl) (by decide) ⟨rfl, rfl⟩ d_P_isInRange_147 rfl (st1 := [.int r19]) rfl ?_
    refine j_if_eq (tgt := 168) C d_P_isInRange_150 (by decide) rfl h (fun h => ?_) (fun h => ?_)
    · refine j_iconst (v := 0) C d_P_isInRange_168 rfl (by decide) ?_
      cases h
      exact j_zret C E hr rfl d_P_isInRange_169
    · refine j_iload_n C 2 d_P_isInRange_153 rfl rfl rfl ?_
      obtain ⟨r21, h22, h⟩ := mb1_some h
      refine j_callS C hR (As := [.int a2]) (ct_P_isOrder (jl x) (jD x) (jT x) a2 h22) kf_P_isOrder (by decide) tw_267 tw_268 (rest := []) rfl rfl (Nat.le_of_ble_eq_true rfl) (by decide) ⟨rfl, rfl⟩ d_P_isInRange_154 rfl (st1 := [.int r21]) rfl ?_
      refine j_if_eq (tgt := 168) C d_P_isInRange_157 (by decide) rfl h (fun h => ?_) (fun h => ?_)
      · refine j_iconst (v := 0) C d_P_isInRange_168 rfl (by decide) ?_
        cases h
        exact j_zret C E hr rfl d_P_isInRange_169
      · refine j_iload_n C 3 d_P_isInRange_160 rfl rfl rfl ?_
        refine j_if_ne (tgt := 168) C d_P_isInRange_161 (by decide) rfl h (fun h => ?_) (fun h => ?_)
        · refine j_iconst (v := 0) C d_P_isInRange_168 rfl (by decide) ?_
          cases h
          exact j_zret C E hr rfl d_P_isInRange_169
        · refine j_iconst (v := 1) C d_P_isInRange_164 rfl (by decide) ?_
          refine j_goto (tgt := 169) C d_P_isInRange_165 (by decide) ?_
          cases h
          exact j_zret C E hr rfl d_P_isInRange_169
  refine j_tsw (k := 5) (tgt := 170) C d_P_isInRange_1 (by decide) (by decide) rfl (by decide) h (fun h => ?_) (fun n5 h => ?_)
  · refine j_iload_n C 1 d_P_isInRange_170 rfl rfl rfl ?_
    obtain ⟨r23, h24, h⟩ := mb1_some h
    refine j_callS C hR (As := [.int a1]) (ct_P_isOwner (jl x) (jD x) (jT x) a1 h24) kf_P_isOwner (by decide) tw_270 tw_271 (rest := []) rfl rfl (Nat.le_of_ble_eq_true rfl) (by decide) ⟨rfl, rfl⟩ d_P_isInRange_171 rfl (st1 := [.int r23]) rfl ?_
    refine j_if_eq (tgt := 202) C d_P_isInRange_174 (by decide) rfl h (fun h => ?_) (fun h => ?_)
    · refine j_iconst (v := 0) C d_P_isInRange_202 rfl (by decide) ?_
      cases h
      exact j_zret C E hr rfl d_P_isInRange_203
    · refine j_iload_n C 2 d_P_isInRange_177 rfl rfl rfl ?_
      refine j_if_eq (tgt := 202) C d_P_isInRange_178 (by decide) rfl h (fun h => ?_) (fun h => ?_)
      · refine j_iconst (v := 0) C d_P_isInRange_202 rfl (by decide) ?_
        cases h
        exact j_zret C E hr rfl d_P_isInRange_203
      · refine j_iload_n C 2 d_P_isInRange_181 rfl rfl rfl ?_
        refine j_sipush (v := (-10000)) C d_P_isInRange_182 rfl (by decide) ?_
        refine j_sipush (v := 10000) C d_P_isInRange_185 rfl (by decide) ?_
        obtain ⟨r25, h26, h⟩ := mb1_some h
        refine j_callS C hR (As := [.int a2, .int (-10000 : Int32), .int (10000 : Int32)]) (ct_P_isWithin (jl x) (jD x) (jT x) a2 (-10000 : Int32) (10000 : Int32) h26) kf_P_isWithin (by decide) tw_258 tw_259 (rest := []) rfl rfl (Nat.le_of_ble_eq_true rfl) (by decide) ⟨rfl, rfl⟩ d_P_isInRange_188 rfl (st1 := [.int r25]) rfl ?_
        refine j_if_eq (tgt := 202) C d_P_isInRange_191 (by decide) rfl h (fun h => ?_) (fun h => ?_)
        · refine j_iconst (v := 0) C d_P_isInRange_202 rfl (by decide) ?_
          cases h
          exact j_zret C E hr rfl d_P_isInRange_203
        · refine j_iload_n C 3 d_P_isInRange_194 rfl rfl rfl ?_
          refine j_if_ne (tgt := 202) C d_P_isInRange_195 (by decide) rfl h (fun h => ?_) (fun h => ?_)
          · refine j_iconst (v := 0) C d_P_isInRange_202 rfl (by decide) ?_
            cases h
            exact j_zret C E hr rfl d_P_isInRange_203
          · refine j_iconst (v := 1) C d_P_isInRange_198 rfl (by decide) ?_
            refine j_goto (tgt := 203) C d_P_isInRange_199 (by decide) ?_
            cases h
            exact j_zret C E hr rfl d_P_isInRange_203
  refine j_tsw (k := 6) (tgt := 204) C d_P_isInRange_1 (by decide) (by decide) rfl (by decide) h (fun h => ?_) (fun n6 h => ?_)
  · refine j_iload_n C 1 d_P_isInRange_204 rfl rfl rfl ?_
    obtain ⟨r27, h28, h⟩ := mb1_some h
    refine j_callS C hR (As := [.int a1]) (ct_P_isPlace (jl x) (jD x) (jT x) a1 h28) kf_P_isPlace (by decide) tw_264 tw_265 (rest := []) rfl rfl (Nat.le_of_ble_eq_true rfl) (by decide) ⟨rfl, rfl⟩ d_P_isInRange_205 rfl (st1 := [.int r27]) rfl ?_
    refine j_if_eq (tgt := 232) C d_P_isInRange_208 (by decide) rfl h (fun h => ?_) (fun h => ?_)
    · refine j_iconst (v := 0) C d_P_isInRange_232 rfl (by decide) ?_
      cases h
      exact j_zret C E hr rfl d_P_isInRange_233
    · refine j_iload_n C 2 d_P_isInRange_211 rfl rfl rfl ?_
      obtain ⟨r29, h30, h⟩ := mb1_some h
      refine j_callS C hR (As := [.int a2]) (ct_P_isPlace (jl x) (jD x) (jT x) a2 h30) kf_P_isPlace (by decide) tw_264 tw_265 (rest := []) rfl rfl (Nat.le_of_ble_eq_true rfl) (by decide) ⟨rfl, rfl⟩ d_P_isInRange_212 rfl (st1 := [.int r29]) rfl ?_
      refine j_if_eq (tgt := 232) C d_P_isInRange_215 (by decide) rfl h (fun h => ?_) (fun h => ?_)
      · refine j_iconst (v := 0) C d_P_isInRange_232 rfl (by decide) ?_
        cases h
        exact j_zret C E hr rfl d_P_isInRange_233
      · refine j_iload_n C 3 d_P_isInRange_218 rfl rfl rfl ?_
        refine j_iconst (v := 1) C d_P_isInRange_219 rfl (by decide) ?_
        refine j_bipush (v := 99) C d_P_isInRange_220 rfl (by decide) ?_
        obtain ⟨r31, h32, h⟩ := mb1_some h
        refine j_callS C hR (As := [.int a3, .int (1 : Int32), .int (99 : Int32)]) (ct_P_isWithin (jl x) (jD x) (jT x) a3 (1 : Int32) (99 : Int32) h32) kf_P_isWithin (by decide) tw_258 tw_259 (rest := []) rfl rfl (Nat.le_of_ble_eq_true rfl) (by decide) ⟨rfl, rfl⟩ d_P_isInRange_222 rfl (st1 := [.int r31]) rfl ?_
        refine j_if_eq (tgt := 232) C d_P_isInRange_225 (by decide) rfl h (fun h => ?_) (fun h => ?_)
        · refine j_iconst (v := 0) C d_P_isInRange_232 rfl (by decide) ?_
          cases h
          exact j_zret C E hr rfl d_P_isInRange_233
        · refine j_iconst (v := 1) C d_P_isInRange_228 rfl (by decide) ?_
          refine j_goto (tgt := 233) C d_P_isInRange_229 (by decide) ?_
          cases h
          exact j_zret C E hr rfl d_P_isInRange_233
  refine j_tswD (tgt := 234) C d_P_isInRange_1 (by have q0 := tiNe (z := 0) (by decide) n0; have q1 := tiNe (z := 1) (by decide) n1; have q2 := tiNe (z := 2) (by decide) n2; have q3 := tiNe (z := 3) (by decide) n3; have q4 := tiNe (z := 4) (by decide) n4; have q5 := tiNe (z := 5) (by decide) n5; have q6 := tiNe (z := 6) (by decide) n6; omega) (by decide) ?_
  refine j_iconst (v := 0) C d_P_isInRange_234 rfl (by decide) ?_
  cases h
  exact j_zret C E hr rfl d_P_isInRange_235
theorem ct_P_isInRange (l : Launch) (D : va_G) (tys : List (ClassId × FieldType)) {w : va_W} (a0 : Int32) (a1 : Int32) (a2 : Int32) (a3 : Int32) {r : Int32} (h : m_P_isInRange a0 a1 a2 a3 = some r) : jM l y_P_isInRange ws_P_isInRange rm_P_isInRange D tys [.int a0, .int a1, .int a2, .int a3] (w) (some (.int r)) (w) :=
  j_of (by decide +kernel) rfl (Nat.le_of_ble_eq_true rfl) rfl (fun x _ _ _ hR C hr _ E => w_P_isInRange C hR a0 a1 a2 a3 hr E h)
def rm_H_isAsked : Room := { frames := 0, cells := 0, slots := 0, locals := 0 }
def m_H_isAsked (a0 : Int32) (a1 : Int32) : Option (Int32) :=
  (if a1 = (-1 : Int32) then some (1 : Int32) else (if a1 = a0 then some (1 : Int32) else some (0 : Int32)))
set_option maxHeartbeats 4000000 in
set_option maxRecDepth 100000 in
theorem w_H_isAsked {x : JX} {w : va_W} (C : jC x cc_H_isAsked 2 "PlainWarehouse$House") (hR : jR x = rm_H_isAsked)  (a0 : Int32) (a1 : Int32) {r : Int32} (hr : (jt x).sig.returnType = some .boolean) (E : jE x 0 0 (some (.int r)) (w)) (h : m_H_isAsked a0 a1 = some r) : jW x 2 0 0 0 [(0, .int a0), (1, .int a1)] [] (w) := by
  unfold m_H_isAsked at h
  refine j_iload_n C 1 d_H_isAsked_0 rfl rfl rfl ?_
  refine j_iconst (v := (-1)) C d_H_isAsked_1 rfl (by decide) ?_
  refine j_icmp_eq (tgt := 10) C d_H_isAsked_2 (by decide) rfl h (fun h => ?_) (fun h => ?_)
  · refine j_iconst (v := 1) C d_H_isAsked_10 rfl (by decide) ?_
    refine j_goto (tgt := 15) C d_H_isAsked_11 (by decide) ?_
    cases h
    exact j_zret C E hr rfl d_H_isAsked_15
  · refine j_iload_n C 1 d_H_isAsked_5 rfl rfl rfl ?_
    refine j_iload_n C 0 d_H_isAsked_6 rfl rfl rfl ?_
    refine j_icmp_ne (tgt := 14) C d_H_isAsked_7 (by decide) rfl h (fun h => ?_) (fun h => ?_)
    · refine j_iconst (v := 0) C d_H_isAsked_14 rfl (by decide) ?_
      cases h
      exact j_zret C E hr rfl d_H_isAsked_15
    · refine j_iconst (v := 1) C d_H_isAsked_10 rfl (by decide) ?_
      refine j_goto (tgt := 15) C d_H_isAsked_11 (by decide) ?_
      cases h
      exact j_zret C E hr rfl d_H_isAsked_15
theorem ct_H_isAsked (l : Launch) (D : va_G) (tys : List (ClassId × FieldType)) {w : va_W} (a0 : Int32) (a1 : Int32) {r : Int32} (h : m_H_isAsked a0 a1 = some r) : jM l y_H_isAsked ws_H_isAsked rm_H_isAsked D tys [.int a0, .int a1] (w) (some (.int r)) (w) :=
  j_of (by decide +kernel) rfl (Nat.le_of_ble_eq_true rfl) rfl (fun x _ _ _ hR C hr _ E => w_H_isAsked C hR a0 a1 hr E h)
def rm_JI_bitCount : Room := { frames := 0, cells := 0, slots := 0, locals := 0 }
def m_JI_bitCount (a0 : Int32) : Option (Int32) :=
  some ((((((((a0 - ((((a0).toUInt32 >>> (((1 : Int32)).toUInt32 &&& Int32.toUInt32 31)).toInt32) &&& (1431655765 : Int32))) &&& (858993459 : Int32)) + (((((a0 - ((((a0).toUInt32 >>> (((1 : Int32)).toUInt32 &&& Int32.toUInt32 31)).toInt32) &&& (1431655765 : Int32)))).toUInt32 >>> (((2 : Int32)).toUInt32 &&& Int32.toUInt32 31)).toInt32) &&& (858993459 : Int32))) + ((((((a0 - ((((a0).toUInt32 >>> (((1 : Int32)).toUInt32 &&& Int32.toUInt32 31)).toInt32) &&& (1431655765 : Int32))) &&& (858993459 : Int32)) + (((((a0 - ((((a0).toUInt32 >>> (((1 : Int32)).toUInt32 &&& Int32.toUInt32 31)).toInt32) &&& (1431655765 : Int32)))).toUInt32 >>> (((2 : Int32)).toUInt32 &&& Int32.toUInt32 31)).toInt32) &&& (858993459 : Int32)))).toUInt32 >>> (((4 : Int32)).toUInt32 &&& Int32.toUInt32 31)).toInt32)) &&& (252645135 : Int32)) + ((((((((a0 - ((((a0).toUInt32 >>> (((1 : Int32)).toUInt32 &&& Int32.toUInt32 31)).toInt32) &&& (1431655765 : Int32))) &&& (858993459 : Int32)) + (((((a0 - ((((a0).toUInt32 >>> (((1 : Int32)).toUInt32 &&& Int32.toUInt32 31)).toInt32) &&& (1431655765 : Int32)))).toUInt32 >>> (((2 : Int32)).toUInt32 &&& Int32.toUInt32 31)).toInt32) &&& (858993459 : Int32))) + ((((((a0 - ((((a0).toUInt32 >>> (((1 : Int32)).toUInt32 &&& Int32.toUInt32 31)).toInt32) &&& (1431655765 : Int32))) &&& (858993459 : Int32)) + (((((a0 - ((((a0).toUInt32 >>> (((1 : Int32)).toUInt32 &&& Int32.toUInt32 31)).toInt32) &&& (1431655765 : Int32)))).toUInt32 >>> (((2 : Int32)).toUInt32 &&& Int32.toUInt32 31)).toInt32) &&& (858993459 : Int32)))).toUInt32 >>> (((4 : Int32)).toUInt32 &&& Int32.toUInt32 31)).toInt32)) &&& (252645135 : Int32))).toUInt32 >>> (((8 : Int32)).toUInt32 &&& Int32.toUInt32 31)).toInt32)) + (((((((((a0 - ((((a0).toUInt32 >>> (((1 : Int32)).toUInt32 &&& Int32.toUInt32 31)).toInt32) &&& (1431655765 : Int32))) &&& (858993459 : Int32)) + (((((a0 - ((((a0).toUInt32 >>> (((1 : Int32)).toUInt32 &&& Int32.toUInt32 31)).toInt32) &&& (1431655765 : Int32)))).toUInt32 >>> (((2 : Int32)).toUInt32 &&& Int32.toUInt32 31)).toInt32) &&& (858993459 : Int32))) + ((((((a0 - ((((a0).toUInt32 >>> (((1 : Int32)).toUInt32 &&& Int32.toUInt32 31)).toInt32) &&& (1431655765 : Int32))) &&& (858993459 : Int32)) + (((((a0 - ((((a0).toUInt32 >>> (((1 : Int32)).toUInt32 &&& Int32.toUInt32 31)).toInt32) &&& (1431655765 : Int32)))).toUInt32 >>> (((2 : Int32)).toUInt32 &&& Int32.toUInt32 31)).toInt32) &&& (858993459 : Int32)))).toUInt32 >>> (((4 : Int32)).toUInt32 &&& Int32.toUInt32 31)).toInt32)) &&& (252645135 : Int32)) + ((((((((a0 - ((((a0).toUInt32 >>> (((1 : Int32)).toUInt32 &&& Int32.toUInt32 31)).toInt32) &&& (1431655765 : Int32))) &&& (858993459 : Int32)) + (((((a0 - ((((a0).toUInt32 >>> (((1 : Int32)).toUInt32 &&& Int32.toUInt32 31)).toInt32) &&& (1431655765 : Int32)))).toUInt32 >>> (((2 : Int32)).toUInt32 &&& Int32.toUInt32 31)).toInt32) &&& (858993459 : Int32))) + ((((((a0 - ((((a0).toUInt32 >>> (((1 : Int32)).toUInt32 &&& Int32.toUInt32 31)).toInt32) &&& (1431655765 : Int32))) &&& (858993459 : Int32)) + (((((a0 - ((((a0).toUInt32 >>> (((1 : Int32)).toUInt32 &&& Int32.toUInt32 31)).toInt32) &&& (1431655765 : Int32)))).toUInt32 >>> (((2 : Int32)).toUInt32 &&& Int32.toUInt32 31)).toInt32) &&& (858993459 : Int32)))).toUInt32 >>> (((4 : Int32)).toUInt32 &&& Int32.toUInt32 31)).toInt32)) &&& (252645135 : Int32))).toUInt32 >>> (((8 : Int32)).toUInt32 &&& Int32.toUInt32 31)).toInt32))).toUInt32 >>> (((16 : Int32)).toUInt32 &&& Int32.toUInt32 31)).toInt32)) &&& (63 : Int32))
set_option maxHeartbeats 4000000 in
set_option maxRecDepth 100000 in
theorem w_JI_bitCount {x : JX} {w : va_W} (C : jC x cc_JI_bitCount 1 "java/lang/Integer") (hR : jR x = rm_JI_bitCount)  (a0 : Int32) {r : Int32} (hr : (jt x).sig.returnType = some .int) (E : jE x 0 0 (some (.int r)) (w)) (h : m_JI_bitCount a0 = some r) : jW x 1 0 0 0 [(0, .int a0)] [] (w) := by
  unfold m_JI_bitCount at h
  refine j_iload_n C 0 d_JI_bitCount_0 rfl rfl rfl ?_
  refine j_iload_n C 0 d_JI_bitCount_1 rfl rfl rfl ?_
  refine j_iconst (v := 1) C d_JI_bitCount_2 rfl (by decide) ?_
  refine j_iushr C d_JI_bitCount_3 rfl ?_
  refine j_ldc_w (v := 1431655765) C d_JI_bitCount_4 rfl tw_433 ?_
  refine j_iand C d_JI_bitCount_7 rfl ?_
  refine j_isub C d_JI_bitCount_8 rfl ?_
  refine j_istore_n (lv' := [(0, .int (a0 - ((((a0).toUInt32 >>> (((1 : Int32)).toUInt32 &&& Int32.toUInt32 31)).toInt32) &&& (1431655765 : Int32))))]) C d_JI_bitCount_9 rfl rfl (by decide) rfl ?_
  refine j_iload_n C 0 d_JI_bitCount_10 rfl rfl rfl ?_
  refine j_ldc_w (v := 858993459) C d_JI_bitCount_11 rfl tw_434 ?_
  refine j_iand C d_JI_bitCount_14 rfl ?_
  refine j_iload_n C 0 d_JI_bitCount_15 rfl rfl rfl ?_
  refine j_iconst (v := 2) C d_JI_bitCount_16 rfl (by decide) ?_
  refine j_iushr C d_JI_bitCount_17 rfl ?_
  refine j_ldc_w (v := 858993459) C d_JI_bitCount_18 rfl tw_434 ?_
  refine j_iand C d_JI_bitCount_21 rfl ?_
  refine j_iadd C d_JI_bitCount_22 rfl ?_
  refine j_istore_n (lv' := [(0, .int (((a0 - ((((a0).toUInt32 >>> (((1 : Int32)).toUInt32 &&& Int32.toUInt32 31)).toInt32) &&& (1431655765 : Int32))) &&& (858993459 : Int32)) + (((((a0 - ((((a0).toUInt32 >>> (((1 : Int32)).toUInt32 &&& Int32.toUInt32 31)).toInt32) &&& (1431655765 : Int32)))).toUInt32 >>> (((2 : Int32)).toUInt32 &&& Int32.toUInt32 31)).toInt32) &&& (858993459 : Int32))))]) C d_JI_bitCount_23 rfl rfl (by decide) rfl ?_
  refine j_iload_n C 0 d_JI_bitCount_24 rfl rfl rfl ?_
  refine j_iload_n C 0 d_JI_bitCount_25 rfl rfl rfl ?_
  refine j_iconst (v := 4) C d_JI_bitCount_26 rfl (by decide) ?_
  refine j_iushr C d_JI_bitCount_27 rfl ?_
  refine j_iadd C d_JI_bitCount_28 rfl ?_
  refine j_ldc_w (v := 252645135) C d_JI_bitCount_29 rfl tw_435 ?_
  refine j_iand C d_JI_bitCount_32 rfl ?_
  refine j_istore_n (lv' := [(0, .int (((((a0 - ((((a0).toUInt32 >>> (((1 : Int32)).toUInt32 &&& Int32.toUInt32 31)).toInt32) &&& (1431655765 : Int32))) &&& (858993459 : Int32)) + (((((a0 - ((((a0).toUInt32 >>> (((1 : Int32)).toUInt32 &&& Int32.toUInt32 31)).toInt32) &&& (1431655765 : Int32)))).toUInt32 >>> (((2 : Int32)).toUInt32 &&& Int32.toUInt32 31)).toInt32) &&& (858993459 : Int32))) + ((((((a0 - ((((a0).toUInt32 >>> (((1 : Int32)).toUInt32 &&& Int32.toUInt32 31)).toInt32) &&& (1431655765 : Int32))) &&& (858993459 : Int32)) + (((((a0 - ((((a0).toUInt32 >>> (((1 : Int32)).toUInt32 &&& Int32.toUInt32 31)).toInt32) &&& (1431655765 : Int32)))).toUInt32 >>> (((2 : Int32)).toUInt32 &&& Int32.toUInt32 31)).toInt32) &&& (858993459 : Int32)))).toUInt32 >>> (((4 : Int32)).toUInt32 &&& Int32.toUInt32 31)).toInt32)) &&& (252645135 : Int32)))]) C d_JI_bitCount_33 rfl rfl (by decide) rfl ?_
  refine j_iload_n C 0 d_JI_bitCount_34 rfl rfl rfl ?_
  refine j_iload_n C 0 d_JI_bitCount_35 rfl rfl rfl ?_
  refine j_bipush (v := 8) C d_JI_bitCount_36 rfl (by decide) ?_
  refine j_iushr C d_JI_bitCount_38 rfl ?_
  refine j_iadd C d_JI_bitCount_39 rfl ?_
  refine j_istore_n (lv' := [(0, .int ((((((a0 - ((((a0).toUInt32 >>> (((1 : Int32)).toUInt32 &&& Int32.toUInt32 31)).toInt32) &&& (1431655765 : Int32))) &&& (858993459 : Int32)) + (((((a0 - ((((a0).toUInt32 >>> (((1 : Int32)).toUInt32 &&& Int32.toUInt32 31)).toInt32) &&& (1431655765 : Int32)))).toUInt32 >>> (((2 : Int32)).toUInt32 &&& Int32.toUInt32 31)).toInt32) &&& (858993459 : Int32))) + ((((((a0 - ((((a0).toUInt32 >>> (((1 : Int32)).toUInt32 &&& Int32.toUInt32 31)).toInt32) &&& (1431655765 : Int32))) &&& (858993459 : Int32)) + (((((a0 - ((((a0).toUInt32 >>> (((1 : Int32)).toUInt32 &&& Int32.toUInt32 31)).toInt32) &&& (1431655765 : Int32)))).toUInt32 >>> (((2 : Int32)).toUInt32 &&& Int32.toUInt32 31)).toInt32) &&& (858993459 : Int32)))).toUInt32 >>> (((4 : Int32)).toUInt32 &&& Int32.toUInt32 31)).toInt32)) &&& (252645135 : Int32)) + ((((((((a0 - ((((a0).toUInt32 >>> (((1 : Int32)).toUInt32 &&& Int32.toUInt32 31)).toInt32) &&& (1431655765 : Int32))) &&& (858993459 : Int32)) + (((((a0 - ((((a0).toUInt32 >>> (((1 : Int32)).toUInt32 &&& Int32.toUInt32 31)).toInt32) &&& (1431655765 : Int32)))).toUInt32 >>> (((2 : Int32)).toUInt32 &&& Int32.toUInt32 31)).toInt32) &&& (858993459 : Int32))) + ((((((a0 - ((((a0).toUInt32 >>> (((1 : Int32)).toUInt32 &&& Int32.toUInt32 31)).toInt32) &&& (1431655765 : Int32))) &&& (858993459 : Int32)) + (((((a0 - ((((a0).toUInt32 >>> (((1 : Int32)).toUInt32 &&& Int32.toUInt32 31)).toInt32) &&& (1431655765 : Int32)))).toUInt32 >>> (((2 : Int32)).toUInt32 &&& Int32.toUInt32 31)).toInt32) &&& (858993459 : Int32)))).toUInt32 >>> (((4 : Int32)).toUInt32 &&& Int32.toUInt32 31)).toInt32)) &&& (252645135 : Int32))).toUInt32 >>> (((8 : Int32)).toUInt32 &&& Int32.toUInt32 31)).toInt32)))]) C d_JI_bitCount_40 rfl rfl (by decide) rfl ?_
  refine j_iload_n C 0 d_JI_bitCount_41 rfl rfl rfl ?_
  refine j_iload_n C 0 d_JI_bitCount_42 rfl rfl rfl ?_
  refine j_bipush (v := 16) C d_JI_bitCount_43 rfl (by decide) ?_
  refine j_iushr C d_JI_bitCount_45 rfl ?_
  refine j_iadd C d_JI_bitCount_46 rfl ?_
  refine j_istore_n (lv' := [(0, .int (((((((a0 - ((((a0).toUInt32 >>> (((1 : Int32)).toUInt32 &&& Int32.toUInt32 31)).toInt32) &&& (1431655765 : Int32))) &&& (858993459 : Int32)) + (((((a0 - ((((a0).toUInt32 >>> (((1 : Int32)).toUInt32 &&& Int32.toUInt32 31)).toInt32) &&& (1431655765 : Int32)))).toUInt32 >>> (((2 : Int32)).toUInt32 &&& Int32.toUInt32 31)).toInt32) &&& (858993459 : Int32))) + ((((((a0 - ((((a0).toUInt32 >>> (((1 : Int32)).toUInt32 &&& Int32.toUInt32 31)).toInt32) &&& (1431655765 : Int32))) &&& (858993459 : Int32)) + (((((a0 - ((((a0).toUInt32 >>> (((1 : Int32)).toUInt32 &&& Int32.toUInt32 31)).toInt32) &&& (1431655765 : Int32)))).toUInt32 >>> (((2 : Int32)).toUInt32 &&& Int32.toUInt32 31)).toInt32) &&& (858993459 : Int32)))).toUInt32 >>> (((4 : Int32)).toUInt32 &&& Int32.toUInt32 31)).toInt32)) &&& (252645135 : Int32)) + ((((((((a0 - ((((a0).toUInt32 >>> (((1 : Int32)).toUInt32 &&& Int32.toUInt32 31)).toInt32) &&& (1431655765 : Int32))) &&& (858993459 : Int32)) + (((((a0 - ((((a0).toUInt32 >>> (((1 : Int32)).toUInt32 &&& Int32.toUInt32 31)).toInt32) &&& (1431655765 : Int32)))).toUInt32 >>> (((2 : Int32)).toUInt32 &&& Int32.toUInt32 31)).toInt32) &&& (858993459 : Int32))) + ((((((a0 - ((((a0).toUInt32 >>> (((1 : Int32)).toUInt32 &&& Int32.toUInt32 31)).toInt32) &&& (1431655765 : Int32))) &&& (858993459 : Int32)) + (((((a0 - ((((a0).toUInt32 >>> (((1 : Int32)).toUInt32 &&& Int32.toUInt32 31)).toInt32) &&& (1431655765 : Int32)))).toUInt32 >>> (((2 : Int32)).toUInt32 &&& Int32.toUInt32 31)).toInt32) &&& (858993459 : Int32)))).toUInt32 >>> (((4 : Int32)).toUInt32 &&& Int32.toUInt32 31)).toInt32)) &&& (252645135 : Int32))).toUInt32 >>> (((8 : Int32)).toUInt32 &&& Int32.toUInt32 31)).toInt32)) + (((((((((a0 - ((((a0).toUInt32 >>> (((1 : Int32)).toUInt32 &&& Int32.toUInt32 31)).toInt32) &&& (1431655765 : Int32))) &&& (858993459 : Int32)) + (((((a0 - ((((a0).toUInt32 >>> (((1 : Int32)).toUInt32 &&& Int32.toUInt32 31)).toInt32) &&& (1431655765 : Int32)))).toUInt32 >>> (((2 : Int32)).toUInt32 &&& Int32.toUInt32 31)).toInt32) &&& (858993459 : Int32))) + ((((((a0 - ((((a0).toUInt32 >>> (((1 : Int32)).toUInt32 &&& Int32.toUInt32 31)).toInt32) &&& (1431655765 : Int32))) &&& (858993459 : Int32)) + (((((a0 - ((((a0).toUInt32 >>> (((1 : Int32)).toUInt32 &&& Int32.toUInt32 31)).toInt32) &&& (1431655765 : Int32)))).toUInt32 >>> (((2 : Int32)).toUInt32 &&& Int32.toUInt32 31)).toInt32) &&& (858993459 : Int32)))).toUInt32 >>> (((4 : Int32)).toUInt32 &&& Int32.toUInt32 31)).toInt32)) &&& (252645135 : Int32)) + ((((((((a0 - ((((a0).toUInt32 >>> (((1 : Int32)).toUInt32 &&& Int32.toUInt32 31)).toInt32) &&& (1431655765 : Int32))) &&& (858993459 : Int32)) + (((((a0 - ((((a0).toUInt32 >>> (((1 : Int32)).toUInt32 &&& Int32.toUInt32 31)).toInt32) &&& (1431655765 : Int32)))).toUInt32 >>> (((2 : Int32)).toUInt32 &&& Int32.toUInt32 31)).toInt32) &&& (858993459 : Int32))) + ((((((a0 - ((((a0).toUInt32 >>> (((1 : Int32)).toUInt32 &&& Int32.toUInt32 31)).toInt32) &&& (1431655765 : Int32))) &&& (858993459 : Int32)) + (((((a0 - ((((a0).toUInt32 >>> (((1 : Int32)).toUInt32 &&& Int32.toUInt32 31)).toInt32) &&& (1431655765 : Int32)))).toUInt32 >>> (((2 : Int32)).toUInt32 &&& Int32.toUInt32 31)).toInt32) &&& (858993459 : Int32)))).toUInt32 >>> (((4 : Int32)).toUInt32 &&& Int32.toUInt32 31)).toInt32)) &&& (252645135 : Int32))).toUInt32 >>> (((8 : Int32)).toUInt32 &&& Int32.toUInt32 31)).toInt32))).toUInt32 >>> (((16 : Int32)).toUInt32 &&& Int32.toUInt32 31)).toInt32)))]) C d_JI_bitCount_47 rfl rfl (by decide) rfl ?_
  refine j_iload_n C 0 d_JI_bitCount_48 rfl rfl rfl ?_
  refine j_bipush (v := 63) C d_JI_bitCount_49 rfl (by decide) ?_
  refine j_iand C d_JI_bitCount_51 rfl ?_
  cases h
  exact j_iret C E hr d_JI_bitCount_52
theorem ct_JI_bitCount (l : Launch) (D : va_G) (tys : List (ClassId × FieldType)) {w : va_W} (a0 : Int32) {r : Int32} (h : m_JI_bitCount a0 = some r) : jM l y_JI_bitCount ws_JI_bitCount rm_JI_bitCount D tys [.int a0] (w) (some (.int r)) (w) :=
  j_of (by decide +kernel) rfl (Nat.le_of_ble_eq_true rfl) rfl (fun x _ _ _ hR C hr _ E => w_JI_bitCount C hR a0 hr E h)
