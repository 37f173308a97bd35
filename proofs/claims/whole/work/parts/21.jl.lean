/-! the law's own methods: calls that may throw, and their catching -/
def NCP : List (String × String) := [("java/lang/UnsupportedOperationException", "java/lang/IllegalArgumentException"), ("java/lang/IllegalArgumentException", "java/util/NoSuchElementException")]
def jNC (U : State) : Prop := ∀ q ∈ NCP, va_Nc q.1 q.2 U
def jLP (D : va_G) (tys : List (ClassId × FieldType)) (w0 : va_W) (sz : Nat) (U : State) : Prop := jXP D tys w0 sz U ∧ jNC U
def jLM (l : Launch) (y : MethodName) (ws : List Cond) (rm : Room) (D : va_G) (tys : List (ClassId × FieldType)) (av : List Value) (w0 : va_W) (v : Option Value) (w1 : va_W) : Prop :=
  ∀ sz : Nat, vx_Met l y ws rm (va_Pc av (jLP D tys w0 sz)) (jXQ D (va_A w0 sz) v "" w1) (fun _ _ _ => False) rm.cells rm.slots (va_A w0 sz)
def jEL (x : JX) (kc ks : Nat) (v : Option Value) (w1 : va_W) : Prop :=
  jQ x = vx_MQ (jb x) (jXQ (jD x) (jA x) v "" w1) (fun _ _ _ => False) (ja x) (js x) kc ks (jA x)
def jYL (x : JX) : Prop := (jl x).stackTraces = false ∧ jZs (jA x) (js x) ∧ jStr (js x) ∧ jNC (js x)
theorem jXP.blind {D : va_G} {tys : List (ClassId × FieldType)} {av : List Value} {w0 : va_W} {sz : Nat} : FrameBlind (va_Pc av (jXP D tys w0 sz)) := fun a U g mk q => by
  obtain ⟨q0, q1, qP, qK, qD, qN, qZ, qS⟩ := q
  refine ⟨q0, q1, qP, va_K.moved (u := U) (U := U.calling g mk a) (Vm.Alike.refl U.vm) qK, qD, jN.same (s := U) (U := U.calling g mk a) rfl qN, ?_, ?_⟩
  · exact ⟨vx_Zq.moved (u := U) (U := U.calling g mk a) (Vm.Alike.refl U.vm) qZ.1, vx_Zq.moved (u := U) (U := U.calling g mk a) (Vm.Alike.refl U.vm) qZ.2⟩
  · intro z hz
    obtain ⟨sa, h⟩ := qS z hz
    exact ⟨sa, vk_R.same (u := U) (U := U.calling g mk a) rfl h⟩
theorem jLP.blind {D : va_G} {tys : List (ClassId × FieldType)} {av : List Value} {w0 : va_W} {sz : Nat} : FrameBlind (va_Pc av (jLP D tys w0 sz)) := fun a U g mk q => by
  obtain ⟨q0, q1, qN⟩ := q
  have h := jXP.blind (av := av) a U g mk ⟨q0, q1⟩
  exact ⟨h.1, h.2, fun z hz => va_Nc.moved (u := U) (U := U.calling g mk a) (Vm.Alike.refl U.vm) (qN z hz)⟩
section JLROWS
variable {x : JX} {cc : ByteArray} {nL kc ks : Nat} {own : String} {pc pc' : Nat} {lv : List (Nat × Value)} {st : List Value} {w : va_W}
theorem jl_iret (C : jC x cc nL own) {v : Int32} {mc ms : Nat} (E : jEL x mc ms (some (.int v)) w) (hc : kc ≤ mc) (hs : ks ≤ ms) (hr : (jt x).sig.returnType = some .int) (hd : decode cc pc = .ok (.ireturn, 1)) : jW x nL kc ks pc lv [.int v] w := by
  intro H locs ls hP hD hS hl
  rw [E]
  exact vx_ret (W.widen hc hs (W.iret C.1.1 C.1.2.1 hr (fun t ht hW => ⟨rfl, rfl, by rw [ht]; exact hP, hD, hS.F ht⟩) hS.2.2 hd C.2.2.2.1))
theorem jx_at (C : jC x cc nL own) {av : List Value} {H : Heap} {locs : List Loc} (hZ : jZs (jA x) (js x)) (hT : jStr (js x)) (hP : va_P (jD x) vwCl w H) (hD : va_D (jA x) w) (hS : va_S (jA x) (js x).heap H locs) : ∀ U : State, U.heap = H → (js x).WarmedH U.vm → va_Pc av (jXP (jD x) (jT x) w H.size) av.toArray U := by
  intro U hU hW
  have hfr := j_frame hD hS C.2.2.1
  refine ⟨rfl, by rw [hU], by rw [hU]; exact hP, va_K.moved hW.alike C.2.1, hD.weaken (fun _ _ _ _ => trivial), C.2.2.2.2.warm hW, ⟨?_, ?_⟩, ?_⟩
  · rw [hU]; exact vx_Zq.narrow (vx_Zq.moved hW.alike (hZ.1.kept hS.2.1)) hfr
  · rw [hU]; exact vx_Zq.narrow (vx_Zq.moved hW.alike (hZ.2.kept hS.2.1)) hfr
  · intro z hz
    obtain ⟨sa, h⟩ := hT z hz
    exact ⟨sa, vk_R.warm hW h⟩
theorem jl_at (C : jC x cc nL own) {av : List Value} {H : Heap} {locs : List Loc} (Y : jYL x) (hP : va_P (jD x) vwCl w H) (hD : va_D (jA x) w) (hS : va_S (jA x) (js x).heap H locs) : ∀ U : State, U.heap = H → (js x).WarmedH U.vm → va_Pc av (jLP (jD x) (jT x) w H.size) av.toArray U := by
  intro U hU hW
  have h := jx_at (av := av) C Y.2.1 Y.2.2.1 hP hD hS U hU hW
  exact ⟨h.1, h.2, fun z hz => va_Nc.moved hW.alike (Y.2.2.2 z hz)⟩
/-- behind a call that returns or throws -/
theorem jx_run (C : jC x cc nL own) {rest : List Value} {v : Option Value} {ex : String} {w1 : va_W} {mc ms : Nat} {a : Array Value} {XC : Heap → String → State → State → Prop}
    (hXC : ∀ (H : Heap) E st0 t, XC H E st0 t → jXC (jD x) (va_A w H.size) ex w1 E st0 t)
    (hr : ∀ (H : Heap) (locs : List Loc) (ls : Array Slot), va_P (jD x) vwCl w H → va_D (jA x) w → va_S (jA x) (js x).heap H locs → lv_has ls nL lv →
      vx_Run (jp x) (jl x) (je x) (jR x) (js x) (jm x) (ja x) (jb x) (jt x) (jc x) H locs kc ks mc ms (F0 (jm x) pc ls st) rest (jXQ (jD x) (va_A w H.size) v ex w1 a) (XC H) (va_A w H.size))
    (K0 : ex = "" → jW x nL (kc + mc) (ks + ms) (pc + 3) lv (v.toList ++ rest) w1)
    (KX : ¬ ex = "" → ∀ (H : Heap) (locs : List Loc) (ls : Array Slot) (q : Addr) (ce : Cell), va_P (jD x) vwCl w1 H → va_D (jA x) w1 → va_S (jA x) (js x).heap H locs → lv_has ls nL lv → H[q]? = some ce → ce.vm = .none → (js x).vm.findClass ex = some ce.cls →
      vx_W (jp x) (jl x) (je x) (jR x) (js x) (jm x) (ja x) (jb x) (jt x) (jc x) H locs (kc + mc) (ks + ms) (jQ x) (F0 (jm x) pc ls rest) q) : jW x nL kc ks pc lv st w := by
  intro H locs ls hP hD hS hl T hT X
  have hfr := j_frame hD hS C.2.2.1
  have keep : ∀ (st₀ t T' : State) (L : List Loc), st₀.heap = H → (∀ z ∈ L, va_A w H.size z.base) → T'.heap = t.heap → va_F (va_A w H.size) st₀ t → va_S (jA x) (js x).heap T'.heap (locs ++ L) := by
    intro st₀ t T' L h0 hL e1 hF
    refine ⟨?_, ?_, ?_⟩
    · rw [e1]; exact Nat.le_trans hS.1 (by rw [← h0]; exact hF.1)
    · intro q hq hn
      have hq1 : q < H.size := Nat.lt_of_lt_of_le hq hS.1
      rw [e1, hF.2 q (by rw [h0]; exact hq1) (fun h => hn (hfr q h)), h0]
      exact hS.2.1 q hq hn
    · intro z hz
      rcases List.mem_append.mp hz with h | h
      · exact hS.2.2 z h
      · exact hfr _ (hL z h)
  rcases hr H locs ls hP hD hS hl T hT X with ⟨v', st₀, t, T', L, h0, X', hL, e1, e2, ⟨hex, hv, hP1, hD1, hF⟩, go⟩ | ⟨q, st₀, t, T', L, E, ce, h0, X', hL, e1, e2, hx, hce, hcv, hcl, go⟩
  · cases hv
    obtain ⟨t2, a1, b1⟩ := K0 hex T'.heap (locs ++ L) ls (by rw [e1]; exact hP1) (hD1.weaken (fun _ q _ hq => hfr _ hq)) (keep st₀ t T' L h0 hL e1 hF) hl T' rfl X'
    exact ⟨t2, go t2 a1, b1⟩
  · obtain ⟨hE, hne, hP1, hD1, hF⟩ := hXC H E st₀ t hx
    subst hE
    obtain ⟨t2, a1, b1⟩ := KX hne T'.heap (locs ++ L) ls q ce (by rw [e1]; exact hP1) (hD1.weaken (fun _ q _ hq => hfr _ hq)) (keep st₀ t T' L h0 hL e1 hF) hl (by rw [e1]; exact hce) hcv hcl T' rfl X'
    exact ⟨t2, go.trans a1, b1⟩
theorem jx_callV (C : jC x cc nL own) (Y : jYL x) {rm0 : Room} (hR : jR x = rm0) {y : MethodName} {bytes : ByteArray} {maxL n index : Nat} {ret : Option FieldType} {rm : Room} {As rest : List Value} {v : Option Value} {ex : String} {w1 : va_W} {Cn : String} {b ci : Nat} {T : u_T} {N : Nat} {fs : List Value} (hM : jXM (jl x) y (Cond.code y bytes maxL ret :: WS) rm (jD x) (jT x) (.ref b :: As) w v ex w1)
    (kf : Cond.code y bytes maxL ret ∈ WS ∧ Cond.initialized y.cls ∈ WS ∧ (y.cls ≠ "java/lang/invoke/MethodHandle" ∧ y.cls ≠ "java/lang/invoke/VarHandle" ∧ (parseMethodDescriptor y.desc).map (fun d => d.parameters.length) = some n)) (hrm : rm.frames + 1 ≤ rm0.frames ∧ 8 + (maxL + 11) + rm.locals ≤ rm0.locals) (hlk : Cond.methodLink own index y ∈ WS) (hi : Cond.instanceMethod y ∈ WS) (hs : Cond.selects Cn y y ∈ WS) (q0 : Nat) (hc : vwCl[ci]? = some (Cn, T, N)) (he : w[q0]? = some (b, .inr (ci, fs))) (hn : As.length = n) (hst : st = As.reverse ++ .ref b :: rest) (hW : (rest.map fun v => v.category).sum ≤ 8) (hf : kc + rm.cells ≤ rm0.cells ∧ ks + rm.slots ≤ rm0.slots) (hd : decode cc pc = .ok (.invokevirtual index, 3))
    (K0 : ex = "" → jW x nL (kc + rm.cells) (ks + rm.slots) (pc + 3) lv (v.toList ++ rest) w1)
    (KX : ¬ ex = "" → ∀ (H : Heap) (locs : List Loc) (ls : Array Slot) (q : Addr) (ce : Cell), va_P (jD x) vwCl w1 H → va_D (jA x) w1 → va_S (jA x) (js x).heap H locs → lv_has ls nL lv → H[q]? = some ce → ce.vm = .none → (js x).vm.findClass ex = some ce.cls →
      vx_W (jp x) (jl x) (je x) (jR x) (js x) (jm x) (ja x) (jb x) (jt x) (jc x) H locs (kc + rm.cells) (ks + rm.slots) (jQ x) (F0 (jm x) pc ls rest) q) : jW x nL kc ks pc lv st w := by
  refine jx_run (a := (Value.ref b :: As).toArray) C (fun _ _ _ _ h => h) (fun H locs ls hP hD hS hl => ?_) K0 KX
  exact vx_runV C.1 (hM H.size) ⟨callB_of n C.1.2.2.2.2 (ws_good (fun z hz => (List.mem_cons.mp hz).elim (fun e => by rw [e]; exact kf.1) (fun h => h))) rfl rfl rfl (C.1.2.2.2.2 _ kf.2.1) (C.1.2.2.2.2 _ hlk) kf.2.2 (by rw [hR]; exact hrm), C.1.2.2.2.2 _ hi, C.1.2.2.2.2 _ hs⟩ ⟨jXP.blind, va_recv C.2.1 hP (ci := ci) (q0 := q0) hc he, jx_at C Y.2.1 Y.2.2.1 hP hD hS⟩ rfl hn hl.1 hst (lv_room (m := jm x) (pc := pc) (ls := ls) (rest := st) hW) hd (by rw [hR]; exact hf)
theorem jl_callS (C : jC x cc nL own) (Y : jYL x) {rm0 : Room} (hR : jR x = rm0) {y : MethodName} {bytes : ByteArray} {maxL n index : Nat} {ret : Option FieldType} {hh : List (Nat × Nat × Nat × Nat)} {rm : Room} {As rest : List Value} {v : Option Value} {w1 : va_W} (hM : jLM (jl x) y (Cond.codeWith y bytes maxL ret hh :: WS) rm (jD x) (jT x) As w v w1)
    (kf : Cond.codeWith y bytes maxL ret hh ∈ WS ∧ Cond.initialized y.cls ∈ WS ∧ (y.cls ≠ "java/lang/invoke/MethodHandle" ∧ y.cls ≠ "java/lang/invoke/VarHandle" ∧ (parseMethodDescriptor y.desc).map (fun d => d.parameters.length) = some n)) (hrm : rm.frames + 1 ≤ rm0.frames ∧ 8 + (maxL + 11) + rm.locals ≤ rm0.locals) (hlk : Cond.methodLink own index y ∈ WS) (hs : Cond.static y ∈ WS) (hn : As.length = n) (hst : st = As.reverse ++ rest) (hW : (rest.map fun v => v.category).sum ≤ 8) (hf : kc + rm.cells ≤ rm0.cells ∧ ks + rm.slots ≤ rm0.slots) (hd : decode cc pc = .ok (.invokestatic index, 3)) (hp : pc + 3 = pc')
    {st1 : List Value} (hs1 : v.toList ++ rest = st1) (K : jW x nL (kc + rm.cells) (ks + rm.slots) pc' lv st1 w1) : jW x nL kc ks pc lv st w := by
  subst hp
  subst hs1
  refine jx_run (a := As.toArray) (XC := fun _ _ _ _ => False) C (ex := "") (fun _ _ _ _ h => h.elim) (fun H locs ls hP hD hS hl => ?_) (fun _ => K) (fun h => absurd rfl h)
  have hG : ∀ z ∈ va_wsS own index y (Cond.codeWith y bytes maxL ret hh :: WS), z ∈ WS := by
    intro z hz
    simp only [va_wsS, List.cons_append, List.nil_append, List.mem_cons] at hz
    rcases hz with rfl | rfl | rfl | rfl | hz
    · exact hlk
    · exact hs
    · exact kf.2.1
    · exact kf.1
    · exact hz
  exact vx_runSX (hh := hh) C.1 (hM H.size) (vx_cwSW n C.1.2.2.2.2 (ws_good hG) rfl rfl rfl kf.2.2 (by rw [hR]; exact hrm)) ⟨jLP.blind, jl_at C Y hP hD hS⟩ rfl hn hl.1 hst (lv_room (m := jm x) (pc := pc) (ls := ls) (rest := st) hW) hd (by rw [hR]; exact hf)
theorem jx_caught (C : jC x cc nL own) {rest : List Value} {ex name : String} {hh : List (Nat × Nat × Nat × Nat)} (hX : (jc x).exceptionTable.toList.map (fun h => (h.startPc, h.endPc, h.handlerPc, h.catchType)) = hh) (pre : List (Nat × Nat × Nat × Nat)) (e0 : Nat × Nat × Nat × Nat) (suf : List (Nat × Nat × Nat × Nat)) (hsplit : hh = pre ++ e0 :: suf)
    (hpass : ∀ z ∈ pre, z.2.2.2 ≠ 0 ∧ ∃ nm : String, Cond.classLink own z.2.2.2 nm ∈ WS ∧ va_Nc ex nm (js x)) (hcov : e0.1 ≤ pc ∧ pc < e0.2.1) (h0 : e0.2.2.2 ≠ 0) (hlink : Cond.classLink own e0.2.2.2 name ∈ WS) (hcast : Cond.castable ex name ∈ NWS) (K : ∀ q : Nat, jW x nL kc ks e0.2.2.1 lv [.ref q] w) :
    ∀ (H : Heap) (locs : List Loc) (ls : Array Slot) (q : Addr) (ce : Cell), va_P (jD x) vwCl w H → va_D (jA x) w → va_S (jA x) (js x).heap H locs → lv_has ls nL lv → H[q]? = some ce → ce.vm = .none → (js x).vm.findClass ex = some ce.cls →
      vx_W (jp x) (jl x) (je x) (jR x) (js x) (jm x) (ja x) (jb x) (jt x) (jc x) H locs kc ks (jQ x) (F0 (jm x) pc ls rest) q := by
  intro H locs ls q ce hP hD hS hl hce hcv hcl
  rw [hsplit] at hX
  obtain ⟨l1, l2, e1, e2, e3⟩ := List.map_eq_append_iff.mp hX
  obtain ⟨x1, l3, e4, e5, e6⟩ := List.map_eq_cons_iff.mp e3
  subst e4
  have h1 : x1.startPc = e0.1 := by rw [← e5]
  have h2 : x1.endPc = e0.2.1 := by rw [← e5]
  have h3 : x1.handlerPc = e0.2.2.1 := by rw [← e5]
  have h4 : x1.catchType = e0.2.2.2 := by rw [← e5]
  refine vx_catch (own := own) (name := name) (E := ex) (ce := ce) C.1.2.2.2.1 l1 x1 l3 e1 ?_ ?_ (by rw [h4]; exact h0) (by rw [h4]; exact C.1.2.2.2.2 _ hlink) (va_Nw.use (nest_on hcast) (C.2.2.2.2 _ hcast)) hce hcv hcl ?_
  · intro z hz
    obtain ⟨a, nm, b, c⟩ := hpass (z.startPc, z.endPc, z.handlerPc, z.catchType) (by rw [← e2]; exact List.mem_map.mpr ⟨z, hz, rfl⟩)
    exact Or.inr ⟨a, nm, C.1.2.2.2.2 _ b, c⟩
  · simp only [covers, h1, h2, Bool.and_eq_true, decide_eq_true_eq]
    exact hcov
  · rw [h3]
    exact K q H locs ls hP hD hS hl
end JLROWS
theorem jl_of {l : Launch} {y : MethodName} {ws : List Cond} {rm : Room} {D : va_G} {tys : List (ClassId × FieldType)} {av : List Value} {w0 w1 : va_W} {v : Option Value} {bytes : ByteArray} {maxL : Nat} {ret : Option FieldType} {hh : List (Nat × Nat × Nat × Nat)} {lv : List (Nat × Value)}
    (hl : l.stackTraces = false) (hy : plainName y.cls = true) (hw : ws = Cond.codeWith y bytes maxL ret hh :: WS) (hav : (lg_sl av).length ≤ maxL) (hlv : lv_args 0 av = lv)
    (body : ∀ x : JX, jl x = l → jD x = D → jT x = tys → jR x = rm → jC x bytes maxL y.cls → jYL x → (jc x).exceptionTable.toList.map (fun h => (h.startPc, h.endPc, h.handlerPc, h.catchType)) = hh → (jt x).sig.returnType = ret → jEL x rm.cells rm.slots v w1 → jW x maxL 0 0 0 lv [] w0) : jLM l y ws rm D tys av w0 v w1 := by
  intro sz
  refine vx_ofWH hy hw ?_
  intro p e s m args below meth c s₁ B hml hv
  obtain ⟨rfl, ⟨hsz, hP, hK, hD0, hN, hZ, hT⟩, hNc⟩ := hv
  subst hsz
  have hlv' := lv_entry av (n := maxL) hav
  rw [hlv] at hlv'
  rw [lg_entry_eq]
  have hcw : (Cond.codeWith y bytes maxL ret hh).before av.toArray s = true := atoms_spec (ws := ws) B.pre _ (by rw [hw]; exact List.mem_cons_self)
  obtain ⟨m9, meth9, c9, hn9, hm9, hc9, -, -, htab, -⟩ := Cond.codeWith_spec hcw
  cases B.named.symm.trans hn9
  cases B.method.symm.trans hm9
  cases (Stand.of_body B).code.symm.trans hc9
  refine body ((p, l, e, (headSpec ws rm).room, s), (m, av.toArray, below, meth, c), (D, tys, va_A w0 s.heap.size, vx_MQ below (jXQ D (va_A w0 s.heap.size) v "" w1) (fun _ _ _ => False) av.toArray s rm.cells rm.slots (va_A w0 s.heap.size))) rfl rfl rfl rfl ⟨⟨B.exec, B.bytes, hml, findClass_of_methodNamed B.named, fun z hz => atoms_spec (ws := ws) B.pre z (by rw [hw]; exact List.mem_cons_of_mem _ hz)⟩, hK, fun q h => Or.inr h, B.notSynchronized, hN⟩ ⟨hl, hZ, hT, hNc⟩ htab B.returns rfl s.heap [] _ hP (hD0.self) va_S.rf hlv'

