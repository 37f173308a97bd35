set_option maxRecDepth 100000 in
theorem tw_52 : Cond.initialized "java/lang/Throwable" ∈ WS := ws_in 52 rfl rfl
set_option maxRecDepth 100000 in
theorem tw_63 : Cond.classLink "PlainWarehouseLaw" (8 : Nat) "PlainWarehouse" ∈ WS := ws_in 63 rfl rfl
set_option maxRecDepth 100000 in
theorem tw_64 : Cond.instantiable "PlainWarehouse" (6 : Nat) ∈ WS := ws_in 64 rfl rfl
set_option maxRecDepth 100000 in
theorem tw_65 : Cond.methodLink "PlainWarehouseLaw" (56 : Nat) ({ cls := "PlainWarehouse", name := "<init>", desc := "()V" } : MethodName) ∈ WS := ws_in 65 rfl rfl
set_option maxRecDepth 100000 in
theorem tw_66 : Cond.instanceMethod ({ cls := "PlainWarehouse", name := "<init>", desc := "()V" } : MethodName) ∈ WS := ws_in 66 rfl rfl
set_option maxRecDepth 100000 in
theorem tw_569 : Cond.classLink "PlainWarehouseLaw" (57 : Nat) "PlainWarehouseModel" ∈ WS := ws_in 569 rfl rfl
set_option maxRecDepth 100000 in
theorem tw_570 : Cond.instantiable "PlainWarehouseModel" (18 : Nat) ∈ WS := ws_in 570 rfl rfl
set_option maxRecDepth 100000 in
theorem tw_571 : Cond.methodLink "PlainWarehouseLaw" (59 : Nat) ({ cls := "PlainWarehouseModel", name := "<init>", desc := "()V" } : MethodName) ∈ WS := ws_in 571 rfl rfl
set_option maxRecDepth 100000 in
theorem tw_572 : Cond.instanceMethod ({ cls := "PlainWarehouseModel", name := "<init>", desc := "()V" } : MethodName) ∈ WS := ws_in 572 rfl rfl
set_option maxRecDepth 100000 in
theorem tw_751 : Cond.arrayClass FieldType.long ∈ WS := ws_in 751 rfl rfl
/-! THE CLAIM OUT OF ONE WALK OF THE LAW'S BODY. Your part is whole_start (and what it stands on); all else here is the same for every law, but numbers. -/
def R_law : String := "PlainWarehouseLaw"
def lw_P (b : Addr) (xs : List Int32) (args : Array Value) (s : State) : Prop := args = #[.ref b] ∧ s.IntsAt b xs ∧ xs.length ≤ 2560 ∧ (Jvm.Cond.and given_1 narrow_1).before args s = true
def lw_Q (_ : Array Value) (s : State) (o : Outcome) (t : State) : Prop := o = .returned (some (.int 1)) ∧ Framed s o t [] 601024 7293034
def lw_Z (below : List Frame) (a : Array Value) (s : State) : State → Prop := fun t => ∃ o, t.status = .running ∧ Ended t below o ∧ lw_Q a s o t
/-- the law's own end, with 1 on the stack, nothing written that was there before, its room as the claim has it -/
theorem lw_ret {p : Program} {l : Launch} {e : Env} {s : State} {m : MethodId} {below : List Frame} {meth : Method} {c : Code} {b : Nat} (hx : p.tables.exec = Jvm.exec) (hb : c.code = code) (hr : meth.sig.returnType = ret) (hlocks : meth.locks = false) {pc : Nat} {H : Heap} {ls : Array Slot} (hdg : decode code pc = .ok (.ireturn, 1)) : W p l e room_1 s m #[Value.ref b] below meth c H [] 601024 7293034 (lw_Z below #[Value.ref b] s) (F0 m pc ls [.int 1]) := by
  intro T hT X
  obtain ⟨fs, hret, hrun, hended, hW, hframe⟩ := X.leave (v := some (.int 1)) (hlocks := hlocks) (fun h => by rw [hr] at h; cases h)
  have hmeth' : T.vm.method? m = some meth := X.method'
  refine ⟨T.setFrames fs, ?_, .returned (some (.int 1)), hrun, hended, rfl, ⟨_, rfl⟩, hW, hframe⟩
  jvm_step X.here [X.here.top, hx, hb, hdg, hmeth', hr, ret, narrow_b1]
  (try refine ⟨rfl, ?_⟩); (try refine ⟨rfl, ?_⟩)
  first | (intro acts; rw [hret _ acts rfl rfl rfl]) | rw [hret _ _ rfl rfl rfl]
  exact Steps.refl _
/-- what holds at the law's entry: the machine, the code, the tables' words (any of lw_tbl by 'hts w (by decide +kernel)'), the script of L ints xs at the cell b, what the Statement gives of the start (any of its parts by flat_of_before) -/
def lw_At (p : Program) (s : State) (m : MethodId) (meth : Method) (c : Code) (b L : Nat) (xs : Nat → Int32) : Prop :=
  p.tables.exec = Jvm.exec ∧ c.code = code ∧ meth.sig.returnType = ret ∧ c.maxLocals = 7 ∧ s.vm.findClass R_law = some m.cls ∧ (∀ w ∈ lw_tbl, w.before #[Value.ref b] s = true) ∧ va_X b L xs s s.heap ∧ b < s.heap.size ∧ meth.locks = false ∧ (Jvm.Cond.and given_1 narrow_1).before #[Value.ref b] s = true

theorem j_newaL {x : JX} {cc : ByteArray} {nL kc ks : Nat} {own : String} {pc pc' : Nat} {lv : List (Nat × Value)} {st : List Value} {w : va_W} (C : jC x cc nL own) {rm0 : Room} (hR : jR x = rm0) {cL : ClassId} (hT : (jT x)[1]? = some (cL, .long)) (harr : Cond.arrayClass .long ∈ WS) {n : Int32} {N : Nat} (hn : ¬ n < 0) (hN : n.toNatClampNeg = N) (hb : N * componentBytes .long ≤ 536870912) (hc : kc + 1 ≤ rm0.cells) (hs : ks + N ≤ rm0.slots) (hd : decode cc pc = .ok (.newarray .long, 2)) (hp : pc + 2 = pc')
    (K : ∀ q : Nat, jW x nL (kc + 1) (ks + N) pc' lv (.ref q :: st) (w ++ [(q, .inl (cL, N, .inr (.inl (fun _ => 0))))])) : jW x nL kc ks pc lv (.int n :: st) w := by
  intro H locs ls hP hD hS hl
  refine va_newa (atype := .long) (ty := .long) (a0 := (N, .inr (.inl (fun _ => 0)))) C.1.1 C.1.2.1 (C.1.2.2.2.2 _ harr) rfl C.2.1 hP hD hS C.2.2.1 (fun _ => rfl) hn hN hb (by rw [hR]; exact hc) (by rw [hR]; exact hs) hd ?_
  intro q cA' H1 hK' hP1 hD1 hS1
  have h1 : va_RA (js x) cA' .long := (hK'.2 (jT x).length (cA', .long) (by simp)).2
  have h2 : va_RA (js x) cL .long := (C.2.1.2 1 (cL, .long) hT).2
  have e : cA' = cL := Option.some.inj (Eq.trans (Eq.symm h1) h2)
  subst e
  subst hp
  exact K q H1 locs ls hP1 hD1 hS1 hl
theorem inl_P : ∀ w ∈ u_ws R_P T_P 6, w ∈ lw_tbl := fun w h => (List.mem_filter.mp (in_P w h)).1
theorem inl_H : ∀ w ∈ u_ws R_H T_H 8, w ∈ lw_tbl := fun w h => (List.mem_filter.mp (in_H w h)).1
theorem inl_F : ∀ w ∈ u_ws R_F T_F 5, w ∈ lw_tbl := fun w h => (List.mem_filter.mp (in_F w h)).1
theorem inl_Y : ∀ w ∈ u_ws R_Y T_Y 1, w ∈ lw_tbl := fun w h => (List.mem_filter.mp (in_Y w h)).1
theorem inl_M : ∀ w ∈ u_ws R_M T_M 18, w ∈ lw_tbl := fun w h => (List.mem_filter.mp (in_M w h)).1
set_option maxHeartbeats 8000000 in
set_option maxRecDepth 100000 in
theorem whole_start {p : Program} {e : Env} {s : State} {m : MethodId} {below : List Frame} {meth : Method} {c : Code} (l : Launch) (hst : l.stackTraces = false) {b L : Nat} {xs : Nat → Int32} (hL : L ≤ 2560) (C0 : lw_At p s m meth c b L xs) : W p l e room_1 s m #[Value.ref b] below meth c s.heap [] 0 0 (lw_Z below #[Value.ref b] s) (entryFrame m ([Value.ref b] : List Value).toArray 7) := by
  obtain ⟨hx, hb, hr, hml, hown, hts, hX, hbl, hlocks, hgv⟩ := id C0
  have hfl := flat_of_before _ hgv
  have hbA : ¬ (fun q : Nat => s.heap.size ≤ q) b := Nat.not_le.mpr hbl
  have htW : ∀ w ∈ WS, w.before #[Value.ref b] s = true := fun w h => hts w (List.mem_filter.mp h).1
  obtain ⟨c0, iS0, hKn0⟩ := u_known (C := R_P) (T := T_P) (N := 6) (n := 6) hts inl_P (htW _ tw_64)
  obtain ⟨c1, iS1, hKn1⟩ := u_known (C := R_H) (T := T_H) (N := 8) (n := 8) hts inl_H (htW _ tw_72)
  obtain ⟨c2, iS2, hKn2⟩ := u_known (C := R_F) (T := T_F) (N := 5) (n := 5) hts inl_F (htW _ tw_112)
  obtain ⟨c3, iS3, hKn3⟩ := u_known (C := R_Y) (T := T_Y) (N := 1) (n := 1) hts inl_Y (htW _ tw_134)
  obtain ⟨c4, iS4, hKn4⟩ := u_known (C := R_M) (T := T_M) (N := 18) (n := 18) hts inl_M (htW _ tw_570)
  obtain ⟨D, hKc⟩ : ∃ D : va_G, ∀ (k : Nat) (q : vw_C), vwCl[k]? = some q → u_Kn s q.1 q.2.1 q.2.2 (D.1 k) (D.2 k) := by
    refine ⟨(fun k => if k = 0 then c0 else if k = 1 then c1 else if k = 2 then c2 else if k = 3 then c3 else c4, fun k => if k = 0 then iS0 else if k = 1 then iS1 else if k = 2 then iS2 else if k = 3 then iS3 else iS4), ?_⟩
    intro k q hq
    match k, hq with
    | 0, hq => cases hq; exact hKn0
    | 1, hq => cases hq; exact hKn1
    | 2, hq => cases hq; exact hKn2
    | 3, hq => cases hq; exact hKn3
    | 4, hq => cases hq; exact hKn4
    | k + 5, hq => simp [vwCl] at hq
  obtain ⟨cA, kA, compA, hfA, hkA, hkdA⟩ := Cond.arrayClass_spec (htW _ tw_110)
  obtain ⟨cL, kL, compL, hfL, hkL, hkdL⟩ := Cond.arrayClass_spec (htW _ tw_751)
  have hK : va_K D vwCl [(cA, .int), (cL, .long)] s := by
    refine ⟨hKc, fun k q h => ?_⟩
    match k, h with
    | 0, h => cases h; exact ⟨fun n z => ⟨fun k h => (by cases h), kA, hkA, compA, hkdA⟩, hfA⟩
    | 1, h => cases h; exact ⟨fun n z => ⟨fun k h => (by cases h), kL, hkL, compL, hkdL⟩, hfL⟩
    | k + 2, h => simp at h
  have hN : jN s := fun w h => va_Nw.of (nest_on h) (hts w (List.mem_filter.mp h).1)
  have hnA : ∀ a : Nat, a < s.heap.size → ¬ (fun q : Nat => s.heap.size ≤ q) a := fun a h => Nat.not_le.mpr h
  have hZ : jZs (fun q : Nat => s.heap.size ≤ q) s := ⟨vx_Zqof (hts _ (List.mem_of_getElem? (i := 300) rfl)) (htW _ tw_52) (hfl _ (by decide +kernel)) hnA, vx_Zqof (hts _ (List.mem_of_getElem? (i := 302) rfl)) (htW _ tw_52) (hfl _ (by decide +kernel)) hnA⟩
  have hStr : jStr s := by
    have key : ∀ q ∈ STRS, (Cond.stringRef "PlainWarehouse" q.1 q.2 ∈ lw_tbl) ∧ (Cond.exactly (.string "PlainWarehouse" q.1) "java/lang/String") ∈ flatC (Jvm.Cond.and given_1 narrow_1) := by decide +kernel
    intro q hq
    obtain ⟨h1, h2⟩ := key q hq
    obtain ⟨a, cB, cellB, kB, he, -⟩ := Cond.exactly_spec (hfl _ h2)
    exact ⟨a, vk_R.of (hts _ h1) he⟩
  have hNc : jNC s := by
    have key : ∀ q ∈ NCP, (Cond.not (.castable q.1 q.2)) ∈ flatC (Jvm.Cond.and given_1 narrow_1) := by decide +kernel
    exact fun q hq => va_Nc.of (hfl _ (key q hq))
  obtain ⟨x, hxe⟩ : ∃ x : JX, x = ((p, l, e, room_1, s), (m, #[Value.ref b], below, meth, c), (D, [(cA, .int), (cL, .long)], (fun q : Nat => s.heap.size ≤ q), lw_Z below #[Value.ref b] s)) := ⟨_, rfl⟩
  have C : jC x code 7 "PlainWarehouseLaw" := by rw [hxe]; exact ⟨⟨hx, hb, hml, hown, htW⟩, hK, fun _ h => h, hlocks, hN⟩
  have hT : (jT x)[0]? = some (cA, .int) := by rw [hxe]; rfl
  have hTL : (jT x)[1]? = some (cL, .long) := by rw [hxe]; rfl
  have hR : jR x = room_1 := by rw [hxe]
  have Y : jYL x := by rw [hxe]; exact ⟨hst, hZ, hStr, hNc⟩
  have hX2 : va_X b L xs (js x) (js x).heap := by rw [hxe]; exact hX
  have hbl2 : b < (js x).heap.size := by rw [hxe]; exact hbl
  have hbA2 : ¬ jA x b := by rw [hxe]; exact hbA
  have hend : ∀ (ad bd : Nat → Nat) (qo kc ks : Nat) (v4 : Int32) (w : va_W), kc ≤ 601024 → ks ≤ 7293034 → jW x 7 kc ks 895 [(0, .ref b), (1, .ref (ad 0)), (2, .ref (bd 0)), (3, .ref qo), (4, .int v4)] [] w := by
    intro ad bd qo kc ks v4 w hkc hks
    refine j_iconst (v := 1) C d_L_law_895 rfl (by decide) ?_
    intro H locs ls hP hD hS hl
    rw [hxe] at hS ⊢
    refine va_forget (fun q h => hS.2.2 q h) ?_
    refine W.widen hkc hks ?_
    exact lw_ret hx hb hr hlocks d_L_law_896
  have hl := lv_entry ([.ref b]) (n := 7) (Nat.le_of_ble_eq_true rfl)
  rw [lg_entry_eq]
  have K : jW x 7 0 0 0 [(0, .ref b)] [] [] := by
    refine j_new C hR (ci := 0) (fs := [.null, .int 0, .int 0, .null, .null, .null]) in_P ty_P_ok tw_63 tw_64 tw_47 rfl (fun j hj => by rcases (show j = 0 ∨ j = 1 ∨ j = 2 ∨ j = 3 ∨ j = 4 ∨ j = 5 by omega) with rfl | rfl | rfl | rfl | rfl | rfl <;> rfl) (by decide) (by decide) d_L_law_0 rfl (fun q0 => ?_)
    refine j_dup C d_L_law_3 rfl rfl ?_
    refine j_callI C hR (b := q0) (ct_P_init (jl x) (jD x) (jT x) hT [] q0) kf_P_init (by decide) tw_65 tw_66 rfl rfl (Nat.le_of_ble_eq_true rfl) (by decide) d_L_law_4 rfl (fun w1 hw1 => ?_)
    obtain ⟨ad, rfl, rfl⟩ := hw1
    refine j_astore_n (lv' := [(1, .ref (ad 0)), (0, .ref b)]) C d_L_law_7 rfl rfl (by decide) rfl ?_
    refine j_new C hR (ci := 4) (fs := [.int 0, .int 0, .int 0, .null, .null, .null, .null, .null, .null, .null, .null, .null, .null, .null, .null, .null, .null, .null]) in_M ty_M_ok tw_569 tw_570 tw_51 rfl (fun j hj => by rcases (show j = 0 ∨ j = 1 ∨ j = 2 ∨ j = 3 ∨ j = 4 ∨ j = 5 ∨ j = 6 ∨ j = 7 ∨ j = 8 ∨ j = 9 ∨ j = 10 ∨ j = 11 ∨ j = 12 ∨ j = 13 ∨ j = 14 ∨ j = 15 ∨ j = 16 ∨ j = 17 by omega) with rfl | rfl | rfl | rfl | rfl | rfl | rfl | rfl | rfl | rfl | rfl | rfl | rfl | rfl | rfl | rfl | rfl | rfl <;> rfl) (by decide) (by decide) d_L_law_8 rfl (fun q1 => ?_)
    refine j_dup C d_L_law_11 rfl rfl ?_
    refine j_w (w' := (wP ad cA S0) ++ [(q1, .inr (4, [.int 0, .int 0, .int 0, .null, .null, .null, .null, .null, .null, .null, .null, .null, .null, .null, .null, .null, .null, .null]))]) rfl ?_
    refine j_callI C hR (b := q1) (ct_M_init (jl x) (jD x) (jT x) hT ad S0 q1 pure_init) kf_M_init (by decide) tw_571 tw_572 rfl rfl (Nat.le_of_ble_eq_true rfl) (by decide) d_L_law_12 rfl (fun w1 hw1 => ?_)
    obtain ⟨bd, τ, rfl, rfl, rfl⟩ := hw1
    refine j_astore_n (lv' := [(2, .ref (bd 0)), (1, .ref (ad 0)), (0, .ref b)]) C d_L_law_15 rfl rfl (by decide) rfl ?_
    refine j_iconst (v := 1) C d_L_law_16 rfl (by decide) ?_
    refine j_newaL C hR hTL tw_751 (N := 1) (by decide) (by decide) (by decide) (by decide) (by decide) d_L_law_17 rfl (fun qo => ?_)
    refine j_astore_n (lv' := [(3, .ref qo), (2, .ref (bd 0)), (1, .ref (ad 0)), (0, .ref b)]) C d_L_law_19 rfl rfl (by decide) rfl ?_
    refine j_iconst (v := 0) C d_L_law_20 rfl (by decide) ?_
    refine j_istore (lv' := [(4, .int 0), (3, .ref qo), (2, .ref (bd 0)), (1, .ref (ad 0)), (0, .ref b)]) C d_L_law_21 rfl (by decide) rfl ?_
    refine j_w (w' := (wP ad cA S0) ++ ((wM bd cA M1) ++ [(qo, .inl (cL, 1, .inr (.inl (fun _ => 0))))])) (by rw [List.append_assoc, List.append_assoc]; rfl) ?_
    exact j_sub [4, 3, 2, 1, 0] rfl (wl_law C hT hTL hR Y hX2 hbl2 hbA2 (fun kc ks v4 σ μ f h1 h2 => hend ad bd qo kc ks v4 _ h1 h2) 600 _ _ 0 S0 M1 (fun _ => 0) (pure_main hL) (by decide) (by decide))
  have K2 := K s.heap [] _ (fun k q h => by simp at h) ⟨fun i j p q h => by simp at h, fun k q h => by simp at h⟩ (by rw [hxe]; exact va_S.rf) hl
  rw [hxe] at K2
  exact K2
set_option maxHeartbeats 4000000 in
theorem lw_walk (l : Launch) (hst : l.stackTraces = false) (b : Addr) (xs : List Int32) : MetFree l x (headSpec (Jvm.Cond.code x code maxLocals ret :: tables_1) room_1) (lw_P b xs) (fun _ _ _ _ _ => True) lw_Q := by
  refine MetFree.of_bodyS (code := code) (maxLocals := maxLocals) (ret := ret) (by decide) ?_ ?_
  · intro args s m h hn
    obtain ⟨meth, c, h1, h2, h3, h4, h5, h6, -, -⟩ := Cond.code_spec hn (atoms_spec (ws := Jvm.Cond.code x code maxLocals ret :: tables_1) h _ List.mem_cons_self)
    exact ⟨meth, c, h1, h2, h3, h4, h5, h6⟩
  · intro p e s m args below meth c s₁ B hml0 hP _
    obtain ⟨rfl, hx, hbd, hgv⟩ := hP
    obtain ⟨scr, harrAt, hlist, hof, hsmall⟩ := hx
    obtain ⟨hcb, hkn, -, -⟩ := State.arrayAt?_spec harrAt
    have hown : s.vm.findClass R_law = some m.cls := findClass_of_methodNamed B.named
    have hts0 : ∀ c ∈ (Jvm.Cond.code x code maxLocals ret :: tables_1), c.before #[Value.ref b] s = true := atoms_spec (ws := Jvm.Cond.code x code maxLocals ret :: tables_1) B.pre
    have hts : ∀ w ∈ lw_tbl, w.before #[Value.ref b] s = true := k2_hts_sels lw_privs (fun w hw => hts0 w (List.mem_cons_of_mem _ hw)) lw_privs_ok
    have hml : c.maxLocals = 7 := B.maxLocals_eq (hts0 _ List.mem_cons_self)
    have X₀ : Stand p l e room_1 s m #[Value.ref b] below meth c s₁ [] 0 0 := Stand.of_body B
    have hh0 : s₁.heap = s.heap := by rw [B.state]; rfl
    have hsz : scr.slots.size = xs.length := by rw [← Array.length_toList, hlist, List.length_map]
    have hval : ∀ j : Nat, j < xs.length → scr.slots[j]? = some (.int (xs.getD j 0)) := fun j hj => by
      rw [← Array.getElem?_toList, hlist]
      simp [hj]
    have hbl : b < s.heap.size := (Array.getElem?_eq_some_iff.mp hcb).1
    have hX : va_X b xs.length (fun j => xs.getD j 0) s s.heap := ⟨scr, hcb, hof, hkn, hsz, hval⟩
    have K : W p l e room_1 s m #[Value.ref b] below meth c s₁.heap [] 0 0 (lw_Z below #[Value.ref b] s) (entryFrame m ([Value.ref b] : List Value).toArray 7) := by
      rw [hh0]
      exact whole_start l hst hbd ⟨B.exec, B.bytes, B.returns, hml, hown, hts, hX, hbl, B.notSynchronized, hgv⟩
    obtain ⟨t, a1, o, b1, b2, b3⟩ := K s₁ rfl X₀
    exact ⟨t, o, a1, b1, b2, b3⟩
theorem lw_pre_spec {args : Array Value} {s : State} (h : (Jvm.Cond.and given_1 narrow_1).before args s = true) (hr : rest_1_c.before args s = true) : ∃ (b : Addr) (xs : List Int32), lw_P b xs args s := by
  have hs := flat_of_before _ h
  have hq := flat_of_before _ hr
  have hc : (Cond.count 1).before args s = true := hs _ (by decide +kernel)
  have harr : (Cond.arrayOf (.arg 0) .int).before args s = true := hs _ (by decide +kernel)
  have hle : (Cond.le (.length (.arg 0)) (.int 2560)).before args s = true := hs _ (by decide +kernel)
  have hlen : (Cond.isInt (.length (.arg 0))).before args s = true := hq _ (by decide +kernel)
  have hall : (Cond.all (.arg 0) (.isInt (.elem (.arg 0) (.index 0)))).before args s = true := hq _ (by decide +kernel)
  obtain ⟨b, xs, hb, hx⟩ := State.ints_of_pre rfl harr hlen hall
  have hsm : xs.length < 2 ^ 31 := hx.choose_spec.2.2.2
  have hev : (Term.length (.arg 0)).eval args s none [] s = some (.int xs.length.toInt32) := hx.length_eval hb
  have hv := Cond.le_ints hev (show (Term.int 2560).eval args s none [] s = some (.int 2560) from rfl)
  have hd : xs.length.toInt32 ≤ 2560 := by
    simpa [Cond.before, Cond.holds, hv] using hle
  have hN : xs.length ≤ 2560 := (Int32.ofNat_le_ofNat hsm (by decide)).mp (show Int32.ofNat xs.length ≤ Int32.ofNat 2560 from hd)
  exact ⟨b, xs, Cond.one_arg hc (show args[0]? = some (.ref b) from hb), hx, hN, h⟩
theorem lw_comes (l : Launch) (hst : l.stackTraces = false) : Comes l x (Jvm.Cond.code x code maxLocals ret :: tables_1) room_1 (fun tb e args s => Calls_1 tb e args s ∧ rest_1 tb e args s ∧ Pre_1 tb e args s)
    (fun _ _ args s o t => lw_Q args s o t) := by
  intro p e ha hc hk s m args below hf hfit hheap happ hpre
  obtain ⟨b, xs, hP⟩ := lw_pre_spec hpre.2.2 hpre.2.1
  obtain ⟨k, o, h1, h2, h3, hQ⟩ := lw_walk l hst b xs p e ha hc hk s m args below hf ((Spec.applies_iff_loose hf).mp happ).1 hP trivial
  exact ⟨k, o, h1, h2, h3, hQ⟩
theorem lw_frame {s t : State} {o : Outcome} {args : Array Value} (h : Framed s o t [] 601024 7293034) :
    Framed s o t (fieldLocs frame_1_writes args s ++ arrayLocs frame_1_arrays args s ++ staticLocs frame_1_statics s) 601024 7293034 := h
theorem lw_limb (L : Cond) (hL : ∀ (args : Array Value) (s t : State), L.after args s (.returned (some (.int 1))) t = true) :
    ArmFor flags0 classFile x code maxLocals ret World_1 tables_1 room_1 Calls_1 rest_1 Pre_1
      (fun tb e a s o t => postC L tb e a s o t ∧ Framed s o t (fieldLocs frame_1_writes a s ++ arrayLocs frame_1_arrays a s ++ staticLocs frame_1_statics s) 601024 7293034) := by
  intro l hfl _ _ p e ha hc hk s m args below hf hfit hheap happ hpre
  obtain ⟨k, o, h1, h2, h3, rfl, hF⟩ := lw_comes l (by unfold Launch.stackTraces; rw [hfl]; decide +kernel) p e ha hc hk s m args below hf hfit hheap happ hpre
  exact ⟨k, _, h1, h2, h3, hL args s _, lw_frame hF⟩
theorem i_vc : Claimed_1_1 ∧ Claimed_1_2 := ⟨lw_limb limb_1_1 (fun args s t => by simp [limb_1_1, Cond.after, Cond.holds, Cond.value]), lw_limb limb_1_2 (fun args s t => Cond.after_iff.mpr (by
  first | (rw [show limb_1_2 = Cond.eq .result (.int 1) from rfl, Cond.eq_ints (x := 1) (y := 1) rfl rfl]; simp; done) | (simp [limb_1_2, Cond.value, Term.eval]; done)))⟩

