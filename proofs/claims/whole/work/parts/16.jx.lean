def STRS : List (Nat × String) := [(47, "the kind or a number of the event is outside its range"), (54, "there are sixty events"), (72, "no such place"), (77, "no such good"), (88, "not so many events"), (94, "no such unit"), (102, "the order was not told"), (117, "an order tells 0 to 3"), (122, "an order in the set was not told"), (152, "no such owner"), (160, "no such event"), (169, "an event tells 0 to 3"), (173, "there is no event")]
def XUP : List String := ["java/lang/RuntimeException", "java/lang/Exception"]
/-- the two statics that a throw reads, and the texts -/
def jZs (A : Nat → Prop) (U : State) : Prop := vx_Zq Bundle.tN "UNASSIGNED_STACK" Bundle.steD A U U.heap ∧ vx_Zq Bundle.tN "SUPPRESSED_SENTINEL" Bundle.listD A U U.heap
def jStr (U : State) : Prop := ∀ q ∈ STRS, ∃ sa, vk_R "PlainWarehouse" q.1 q.2 sa U
def jXQ (D : va_G) (A : Nat → Prop) (v : Option Value) (ex : String) (w1 : va_W) : Array Value → State → Outcome → State → Prop := fun _ st oc t => ex = "" ∧ oc = .returned v ∧ va_P D vwCl w1 t.heap ∧ va_D A w1 ∧ va_F A st t
def jXC (D : va_G) (A : Nat → Prop) (ex : String) (w1 : va_W) : String → State → State → Prop := fun E st t => E = ex ∧ ¬ ex = "" ∧ va_P D vwCl w1 t.heap ∧ va_D A w1 ∧ va_F A st t
def jXP (D : va_G) (tys : List (ClassId × FieldType)) (w0 : va_W) (sz : Nat) (U : State) : Prop := U.heap.size = sz ∧ va_P D vwCl w0 U.heap ∧ va_K D vwCl tys U ∧ va_D (fun _ => True) w0 ∧ jN U ∧ jZs (va_A w0 sz) U ∧ jStr U
def jXM (l : Launch) (y : MethodName) (ws : List Cond) (rm : Room) (D : va_G) (tys : List (ClassId × FieldType)) (av : List Value) (w0 : va_W) (v : Option Value) (ex : String) (w1 : va_W) : Prop :=
  ∀ sz : Nat, vx_Met l y ws rm (va_Pc av (jXP D tys w0 sz)) (jXQ D (va_A w0 sz) v ex w1) (jXC D (va_A w0 sz) ex w1) rm.cells rm.slots (va_A w0 sz)
def jEX (x : JX) (kc ks : Nat) (v : Option Value) (ex : String) (w1 : va_W) : Prop :=
  jQ x = vx_MQ (jb x) (jXQ (jD x) (jA x) v ex w1) (jXC (jD x) (jA x) ex w1) (ja x) (js x) kc ks (jA x)
def jY (x : JX) : Prop := (jl x).stackTraces = false ∧ jZs (jA x) (js x) ∧ jStr (js x) ∧ (∀ z ∈ (jc x).exceptionTable.toList, False)
theorem va_P.keptH {D : va_G} {cl : List vw_C} {w : va_W} {H H1 : Heap} (hP : va_P D cl w H) (h : ∀ q : Nat, q < H.size → H1[q]? = H[q]?) : va_P D cl w H1 := hP.kept (fun k q hk => h q.1 (hP k q hk).lt)
section JXROWS
variable {x : JX} {cc : ByteArray} {nL kc ks : Nat} {own : String} {pc : Nat} {lv : List (Nat × Value)} {st : List Value} {w : va_W}
theorem jx_iret (C : jC x cc nL own) {v : Int32} {mc ms : Nat} (E : jEX x mc ms (some (.int v)) "" w) (hc : kc ≤ mc) (hs : ks ≤ ms) (hr : (jt x).sig.returnType = some .int) (hd : decode cc pc = .ok (.ireturn, 1)) : jW x nL kc ks pc lv [.int v] w := by
  intro H locs ls hP hD hS hl
  rw [E]
  exact vx_ret (W.widen hc hs (W.iret C.1.1 C.1.2.1 hr (fun t ht hW => ⟨rfl, rfl, by rw [ht]; exact hP, hD, hS.F ht⟩) hS.2.2 hd C.2.2.2.1))
theorem jx_vret (C : jC x cc nL own) {mc ms : Nat} (E : jEX x mc ms none "" w) (hc : kc ≤ mc) (hs : ks ≤ ms) (hr : (jt x).sig.returnType = none) (hd : decode cc pc = .ok (.return_, 1)) : jW x nL kc ks pc lv [] w := by
  intro H locs ls hP hD hS hl
  rw [E]
  exact vx_ret (W.widen hc hs (W.vret C.1.1 C.1.2.1 hr (fun t ht hW => ⟨rfl, rfl, by rw [ht]; exact hP, hD, hS.F ht⟩) hS.2.2 hd C.2.2.2.1))
theorem jx_throw (C : jC x cc nL "PlainWarehouse") (Y : jY x) {rm0 : Room} (hR : jR x = rm0) {cls tx : String} {ik is ic mc ms : Nat} {v : Option Value} (E : jEX x mc ms v cls w) (hne : ¬ cls = "") (hcls : Bundle.fit cls = true) (hk : Cond.classLink "PlainWarehouse" ik cls ∈ WS) (hini : Cond.initialized cls ∈ WS) (hstr : (is, tx) ∈ STRS) (hat : ∀ z ∈ vx_atS "PlainWarehouse" ic cls XUP, z ∈ WS ∨ z ∈ NWS)
    (d0 : decode cc pc = .ok (.new ik, 3)) (d3 : decode cc (pc + 3) = .ok (.dup, 1)) (d4 : decode cc (pc + 4) = .ok (.ldc is, 2)) (d6 : decode cc (pc + 6) = .ok (.invokespecial ic, 3)) (d9 : decode cc (pc + 9) = .ok (.athrow, 1))
    (hRf : 5 < rm0.frames) (hRl : (st.map fun v => v.category).sum + 82 ≤ rm0.locals) (hRc : kc + 1 ≤ rm0.cells) (hRs : ks + 6 ≤ rm0.slots) (hc : kc + 1 ≤ mc) (hs : ks + 6 ≤ ms) : jW x nL kc ks pc lv st w := by
  intro H locs ls hP hD hS hl
  rw [E]
  obtain ⟨sa, hsa⟩ := Y.2.2.1 _ hstr
  exact vx_throwS (names := XUP) C.1.1 C.1.2.1 Y.1 C.1.2.2.2.1 hcls (by decide +kernel) (C.1.2.2.2.2 _ hk) (C.1.2.2.2.2 _ hini) hsa (fun z hz => (hat z hz).elim (fun h => C.1.2.2.2.2 _ h) (fun h => va_Nw.use (nest_on h) (C.2.2.2.2 _ h)))
    (fun z hz => by
      have hm : z ∈ WS ∨ z ∈ NWS := by
        rcases List.mem_cons.mp hz with e | hz
        · rw [e]; exact Or.inl hk
        · rcases List.mem_cons.mp hz with e | hz
          · rw [e]; exact Or.inl hini
          · exact hat z hz
      simp only [vx_ot, Bool.or_eq_true]
      exact hm.elim (fun h => Or.inr (List.mem_filter.mp h).2) (fun h => Or.inl (nest_on h)))
    Y.2.1.1 Y.2.1.2 hS (by rw [C.1.2.2.1]; exact hl.1) d0 d3 d4 d6 d9 (fun z hz => absurd hz (fun h => Y.2.2.2 z h)) (by rw [hR]; exact hRf) (by rw [hR]; exact hRl) (by rw [hR]; exact hRc) (by rw [hR]; exact hRs) C.2.2.2.1
    (fun t _ h1 h2 => ⟨rfl, hne, hP.keptH h2, hD, Nat.le_trans hS.1 h1, fun q hq hn => by rw [h2 q (Nat.lt_of_lt_of_le hq hS.1)]; exact hS.2.1 q hq hn⟩) hS.2.2 hc hs
end JXROWS
theorem jx_of {l : Launch} {y : MethodName} {ws : List Cond} {rm : Room} {D : va_G} {tys : List (ClassId × FieldType)} {av : List Value} {w0 w1 : va_W} {v : Option Value} {ex : String} {bytes : ByteArray} {maxL : Nat} {ret : Option FieldType} {lv : List (Nat × Value)}
    (hl : l.stackTraces = false) (hy : plainName y.cls = true) (hw : ws = Cond.code y bytes maxL ret :: WS) (hav : (lg_sl av).length ≤ maxL) (hlv : lv_args 0 av = lv)
    (body : ∀ x : JX, jl x = l → jD x = D → jT x = tys → jR x = rm → jC x bytes maxL y.cls → jY x → (jt x).sig.returnType = ret → jEX x rm.cells rm.slots v ex w1 → jW x maxL 0 0 0 lv [] w0) : jXM l y ws rm D tys av w0 v ex w1 := by
  intro sz
  refine vx_ofW hy hw ?_
  intro p e s m args below meth c s₁ B hml hno hv
  obtain ⟨rfl, hsz, hP, hK, hD0, hN, hZ, hT⟩ := hv
  subst hsz
  have hlv' := lv_entry av (n := maxL) hav
  rw [hlv] at hlv'
  rw [lg_entry_eq]
  refine body ((p, l, e, (headSpec ws rm).room, s), (m, av.toArray, below, meth, c), (D, tys, va_A w0 s.heap.size, vx_MQ below (jXQ D (va_A w0 s.heap.size) v ex w1) (jXC D (va_A w0 s.heap.size) ex w1) av.toArray s rm.cells rm.slots (va_A w0 s.heap.size))) rfl rfl rfl rfl ⟨⟨B.exec, B.bytes, hml, findClass_of_methodNamed B.named, fun z hz => atoms_spec (ws := ws) B.pre z (by rw [hw]; exact List.mem_cons_of_mem _ hz)⟩, hK, fun q h => Or.inr h, B.notSynchronized, hN⟩ ⟨hl, hZ, hT, hno⟩ B.returns rfl s.heap [] _ hP (hD0.self) va_S.rf hlv'
