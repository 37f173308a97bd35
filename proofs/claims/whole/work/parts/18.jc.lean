/-! constructors: rows that make cells -/
def jMc (l : Launch) (y : MethodName) (ws : List Cond) (rm : Room) (D : va_G) (tys : List (ClassId × FieldType)) (av : List Value) (w0 : va_W) (Pw : va_W → Prop) : Prop :=
  ∀ sz : Nat, Met l y ws rm (va_Pc av (fun U => U.heap.size = sz ∧ va_P D vwCl w0 U.heap ∧ va_K D vwCl tys U ∧ va_D (fun _ => True) w0 ∧ jN U)) (fun _ st oc t => oc = .returned none ∧ ∃ w1, Pw w1 ∧ va_P D vwCl w1 t.heap ∧ va_D (va_A w0 sz) w1 ∧ va_F (va_A w0 sz) st t) rm.cells rm.slots (va_A w0 sz)
def jEc (x : JX) (kc ks : Nat) (Pw : va_W → Prop) : Prop :=
  jQ x = MQ (jb x) (fun _ st oc t => oc = .returned none ∧ ∃ w1, Pw w1 ∧ va_P (jD x) vwCl w1 t.heap ∧ va_D (jA x) w1 ∧ va_F (jA x) st t) (ja x) (js x) kc ks (jA x)
theorem getA {α : Type} (pre suf : List α) (k : Nat) : (pre ++ suf)[pre.length + k]? = suf[k]? := by
  rw [List.getElem?_append_right (by omega)]
  congr 1
  omega
theorem setA {α : Type} (pre suf : List α) (k : Nat) (v : α) : (pre ++ suf).set (pre.length + k) v = pre ++ suf.set k v := by
  rw [List.set_append_right _ _ (by omega)]
  congr 2
  omega
section JCROWS
variable {x : JX} {cc : ByteArray} {nL kc ks : Nat} {own : String} {pc pc' : Nat} {lv : List (Nat × Value)} {st : List Value} {w : va_W}
theorem j_w {w' : va_W} (hw : w = w') (K : jW x nL kc ks pc lv st w') : jW x nL kc ks pc lv st w := hw ▸ K
theorem j_wide {kc' ks' : Nat} (h1 : kc ≤ kc') (h2 : ks ≤ ks') (K : jW x nL kc' ks' pc lv st w) : jW x nL kc ks pc lv st w := fun H locs ls hP hD hS hl => W.widen h1 h2 (K H locs ls hP hD hS hl)
theorem jc_vret (C : jC x cc nL own) {Pw : va_W → Prop} (E : jEc x kc ks Pw) (hw : Pw w) (hr : (jt x).sig.returnType = none) (hd : decode cc pc = .ok (.return_, 1)) : jW x nL kc ks pc lv [] w := by
  intro H locs ls hP hD hS hl
  rw [E]
  exact W.vret C.1.1 C.1.2.1 hr (fun t ht hW => ⟨rfl, w, hw, by rw [ht]; exact hP, hD, hS.F ht⟩) hS.2.2 hd C.2.2.2.1
theorem j_objInit (C : jC x cc nL own) {rm0 : Room} (hR : jR x = rm0) {idx a : Nat} (hlk : Cond.methodLink own idx Lib.objectInit ∈ WS) (hin : Cond.instanceMethod Lib.objectInit ∈ WS) (hco : Cond.code Lib.objectInit ⟨#[0xb1]⟩ 1 none ∈ WS) (hfr : 1 ≤ rm0.frames) (hlo : (st.map fun v => v.category).sum + 12 ≤ rm0.locals) (hd : decode cc pc = .ok (.invokespecial idx, 3)) (hp : pc + 3 = pc') (K : jW x nL kc ks pc' lv st w) : jW x nL kc ks pc lv (.ref a :: st) w := by
  intro H locs ls hP hD hS hl
  refine W.objInit C.1.1 C.1.2.1 C.1.2.2.2.1 (C.1.2.2.2.2 _ hlk) (C.1.2.2.2.2 _ hin) (C.1.2.2.2.2 _ hco) rfl (by rw [C.1.2.2.1]; exact hl.1) rfl hd (by rw [hR]; exact hfr) (by rw [hR]; show 2 * 0 + _ + 12 ≤ _; omega) ?_
  subst hp
  exact K H locs ls hP hD hS hl
theorem j_newa (C : jC x cc nL own) {rm0 : Room} (hR : jR x = rm0) {cA : ClassId} (hT : (jT x)[0]? = some (cA, .int)) (harr : Cond.arrayClass .int ∈ WS) {n : Int32} {N : Nat} (hn : ¬ n < 0) (hN : n.toNatClampNeg = N) (hb : N * componentBytes .int ≤ 536870912) (hc : kc + 1 ≤ rm0.cells) (hs : ks + N ≤ rm0.slots) (hd : decode cc pc = .ok (.newarray .int, 2)) (hp : pc + 2 = pc')
    (K : ∀ q : Nat, jW x nL (kc + 1) (ks + N) pc' lv (.ref q :: st) (w ++ [(q, .inl (cA, N, .inl (fun _ => 0)))])) : jW x nL kc ks pc lv (.int n :: st) w := by
  intro H locs ls hP hD hS hl
  refine va_newa (atype := .int) (ty := .int) (a0 := (N, .inl (fun _ => 0))) C.1.1 C.1.2.1 (C.1.2.2.2.2 _ harr) rfl C.2.1 hP hD hS C.2.2.1 (fun _ => rfl) hn hN hb (by rw [hR]; exact hc) (by rw [hR]; exact hs) hd ?_
  intro q cA' H1 hK' hP1 hD1 hS1
  have h1 : va_RA (js x) cA' .int := (hK'.2 (jT x).length (cA', .int) (by simp)).2
  have h2 : va_RA (js x) cA .int := (C.2.1.2 0 (cA, .int) hT).2
  have e : cA' = cA := Option.some.inj (Eq.trans (Eq.symm h1) h2)
  subst e
  subst hp
  exact K q H1 locs ls hP1 hD1 hS1 hl
theorem j_putF (C : jC x cc nL own) (hin2 : (jt x).name = "<init>") {ref Cn : String} {T : u_T} {N ci index a : Nat} {ty0 : Nat → FieldType} (hin : ∀ z ∈ u_ws Cn T N, z ∈ WS) (hty : ∀ k, k < N → parseFieldDescriptor (T k).2.2.1 = some (ty0 k)) (hnm : ∀ a, a < N → ∀ b, b < N → a ≠ b → (T a).2.1 ≠ (T b).2.1) (q0 : Nat) {fs : List Value} (he : w[q0]? = some (a, .inr (ci, fs))) (hc : vwCl[ci]? = some (Cn, T, N)) (k : Nat) (hk : k < N) (hlink : Cond.fieldLink own index ref (T k).2.1 (T k).2.2.1 ∈ WS) (hsame : (T k).1 = ref) (hfin : (T k).2.2.2 = true) (hdecl : (T k).1 = own) {v : Value} (hn : narrow (ty0 k) v = v) (hf : fits (ty0 k) v = true) (hl : k < fs.length) (hd : decode cc pc = .ok (.putfield index, 3)) (hp : pc + 3 = pc') {w' : va_W} (hw : w.set q0 (a, .inr (ci, fs.set k v)) = w') (K : jW x nL kc ks pc' lv st w') : jW x nL kc ks pc lv (v :: .ref a :: st) w :=
  fun H locs ls hP hD hS h => va_putF (D := jD x) (ci := ci) (ty := ty0 k) C.1.1 C.1.2.1 C.1.2.2.2.2 hin ty0 hty hnm C.1.2.2.2.1 C.2.1 hP hD hS q0 he hc k hk (C.1.2.2.2.2 _ hlink) (fun _ h9 => by rw [← hsame]; exact h9) hfin hin2 hdecl (hty k hk) hn hf hl hd (fun H1 locs1 hP1 hD1 hS1 => by subst hp; subst hw; exact K H1 locs1 ls hP1 hD1 hS1 h)
theorem j_new (C : jC x cc nL own) {rm0 : Room} (hR : jR x = rm0) {Cn : String} {T : u_T} {N ci index : Nat} {ty0 : Nat → FieldType} (hin : ∀ z ∈ u_ws Cn T N, z ∈ WS) (hty : ∀ k, k < N → parseFieldDescriptor (T k).2.2.1 = some (ty0 k)) (hcl : Cond.classLink own index Cn ∈ WS) (hinst : Cond.instantiable Cn N ∈ WS) (hini : Cond.initialized Cn ∈ WS) (hc : vwCl[ci]? = some (Cn, T, N)) {fs : List Value} (hfs : ∀ j, j < N → defaultValue (ty0 j) = vp_V fs j) (hcc : kc + 1 ≤ rm0.cells) (hss : ks + N ≤ rm0.slots) (hd : decode cc pc = .ok (.new index, 3)) (hp : pc + 3 = pc')
    (K : ∀ q : Nat, jW x nL (kc + 1) (ks + N) pc' lv (.ref q :: st) (w ++ [(q, .inr (ci, fs))])) : jW x nL kc ks pc lv st w := by
  intro H locs ls hP hD hS hl
  refine va_new (ci := ci) (fs := fs) (C := Cn) (T := T) (N := N) C.1.1 C.1.2.1 C.1.2.2.2.2 hin ty0 hty C.1.2.2.2.1 (C.1.2.2.2.2 _ hcl) (C.1.2.2.2.2 _ hinst) (C.1.2.2.2.2 _ hini) C.2.1 hP hD hS C.2.2.1 hc hfs (by rw [hR]; exact hcc) (by rw [hR]; exact hss) hd ?_
  intro q H1 hP1 hD1 hS1
  subst hp
  exact K q H1 locs ls hP1 hD1 hS1 hl
theorem jc_run (C : jC x cc nL own) {rest : List Value} {Pw : va_W → Prop} {mc ms : Nat}
    (hr : ∀ (H : Heap) (locs : List Loc) (ls : Array Slot), va_P (jD x) vwCl w H → va_D (jA x) w → va_S (jA x) (js x).heap H locs → lv_has ls nL lv →
      va_Run (jp x) (jl x) (je x) (jR x) (js x) (jm x) (ja x) (jb x) (jt x) (jc x) H locs kc ks mc ms (F0 (jm x) pc ls st) rest (fun st0 oc t => oc = .returned none ∧ ∃ w1, Pw w1 ∧ va_P (jD x) vwCl w1 t.heap ∧ va_D (va_A w H.size) w1 ∧ va_F (va_A w H.size) st0 t) (va_A w H.size))
    (K : ∀ w1, Pw w1 → jW x nL (kc + mc) (ks + ms) (pc + 3) lv rest w1) : jW x nL kc ks pc lv st w := by
  intro H locs ls hP hD hS hl T hT X
  obtain ⟨v', st₀, t, T', L, h0, X', hL, e1, e2, ⟨hv, w1, hw1, hP1, hD1, hF⟩, go⟩ := hr H locs ls hP hD hS hl T hT X
  cases hv
  have hfr := j_frame hD hS C.2.2.1
  have hS1 : va_S (jA x) (js x).heap T'.heap (locs ++ L) := by
    refine ⟨?_, ?_, ?_⟩
    · rw [e1]; exact Nat.le_trans hS.1 (by rw [← h0]; exact hF.1)
    · intro q hq hn
      have hq1 : q < H.size := Nat.lt_of_lt_of_le hq hS.1
      rw [e1, hF.2 q (by rw [h0]; exact hq1) (fun h => hn (hfr q h)), h0]
      exact hS.2.1 q hq hn
    · intro z hz
      rcases List.mem_append.mp hz with h | h
      · exact hS.2.2 z h
      · exact hfr _ (hL z h)
  obtain ⟨t2, a1, b1⟩ := K w1 hw1 T'.heap (locs ++ L) ls (by rw [e1]; exact hP1) (hD1.weaken (fun _ q _ hq => hfr _ hq)) hS1 hl T' rfl X'
  exact ⟨t2, go t2 a1, b1⟩
theorem j_callIN (C : jC x cc nL own) {rm0 : Room} (hR : jR x = rm0) {y : MethodName} {bytes : ByteArray} {maxL index b : Nat} {rm : Room} {rest : List Value} {Pw : va_W → Prop} {host : String} (hM : jMc (jl x) y (Cond.code y bytes maxL none :: WS) rm (jD x) (jT x) [.ref b] w Pw) (kf : Cond.code y bytes maxL none ∈ WS ∧ Cond.initialized y.cls ∈ WS ∧ (y.cls ≠ "java/lang/invoke/MethodHandle" ∧ y.cls ≠ "java/lang/invoke/VarHandle" ∧ (parseMethodDescriptor y.desc).map (fun d => d.parameters.length) = some 0)) (hrm : rm.frames + 1 ≤ rm0.frames ∧ 8 + (maxL + 11) + rm.locals ≤ rm0.locals) (hlk : Cond.methodLinkNest own index y host ∈ NWS) (hi : Cond.instanceMethod y ∈ WS) (hy1 : y.name = "<init>") (hst : st = .ref b :: rest) (hW : (rest.map fun v => v.category).sum ≤ 8) (hf : kc + rm.cells ≤ rm0.cells ∧ ks + rm.slots ≤ rm0.slots) (hd : decode cc pc = .ok (.invokespecial index, 3)) (hp : pc + 3 = pc')
    (K : ∀ w1, Pw w1 → jW x nL (kc + rm.cells) (ks + rm.slots) pc' lv rest w1) : jW x nL kc ks pc lv st w := by
  subst hp
  refine jc_run C (mc := rm.cells) (ms := rm.slots) (rest := rest) (Pw := Pw) (fun H locs ls hP hD hS hl => ?_) K
  exact va_runIN (n := 0) (As := []) C.1 (hM H.size) ⟨va_cnB 0 C.1.2.2.2.2 (ws_good (fun z hz => (List.mem_cons.mp hz).elim (fun e => by rw [e]; exact kf.1) (fun h => h))) rfl rfl rfl (C.2.2.2.2 _ hlk) (C.1.2.2.2.2 _ kf.2.1) kf.2.2 (by rw [hR]; exact hrm), hy1, C.1.2.2.2.2 _ hi⟩ ⟨j_pre (l := jl x), j_at C hP hD⟩ rfl rfl hl.1 hst (lv_room (m := jm x) (pc := pc) (ls := ls) (rest := st) hW) hd (by rw [hR]; exact hf)
theorem j_callI (C : jC x cc nL own) {rm0 : Room} (hR : jR x = rm0) {y : MethodName} {bytes : ByteArray} {maxL index b : Nat} {rm : Room} {rest : List Value} {Pw : va_W → Prop} (hM : jMc (jl x) y (Cond.code y bytes maxL none :: WS) rm (jD x) (jT x) [.ref b] w Pw) (kf : Cond.code y bytes maxL none ∈ WS ∧ Cond.initialized y.cls ∈ WS ∧ (y.cls ≠ "java/lang/invoke/MethodHandle" ∧ y.cls ≠ "java/lang/invoke/VarHandle" ∧ (parseMethodDescriptor y.desc).map (fun d => d.parameters.length) = some 0)) (hrm : rm.frames + 1 ≤ rm0.frames ∧ 8 + (maxL + 11) + rm.locals ≤ rm0.locals) (hlk : Cond.methodLink own index y ∈ WS) (hi : Cond.instanceMethod y ∈ WS) (hy1 : y.name = "<init>") (hst : st = .ref b :: rest) (hW : (rest.map fun v => v.category).sum ≤ 8) (hf : kc + rm.cells ≤ rm0.cells ∧ ks + rm.slots ≤ rm0.slots) (hd : decode cc pc = .ok (.invokespecial index, 3)) (hp : pc + 3 = pc')
    (K : ∀ w1, Pw w1 → jW x nL (kc + rm.cells) (ks + rm.slots) pc' lv rest w1) : jW x nL kc ks pc lv st w := by
  subst hp
  refine jc_run C (mc := rm.cells) (ms := rm.slots) (rest := rest) (Pw := Pw) (fun H locs ls hP hD hS hl => ?_) K
  exact va_runI (n := 0) (As := []) C.1 (hM H.size) ⟨callB_of 0 C.1.2.2.2.2 (ws_good (fun z hz => (List.mem_cons.mp hz).elim (fun e => by rw [e]; exact kf.1) (fun h => h))) rfl rfl rfl (C.1.2.2.2.2 _ kf.2.1) (C.1.2.2.2.2 _ hlk) kf.2.2 (by rw [hR]; exact hrm), hy1, C.1.2.2.2.2 _ hi⟩ ⟨j_pre (l := jl x), j_at C hP hD⟩ rfl rfl hl.1 hst (lv_room (m := jm x) (pc := pc) (ls := ls) (rest := st) hW) hd (by rw [hR]; exact hf)
end JCROWS
theorem jc_of {l : Launch} {y : MethodName} {ws : List Cond} {rm : Room} {D : va_G} {tys : List (ClassId × FieldType)} {av : List Value} {w0 : va_W} {Pw : va_W → Prop} {bytes : ByteArray} {maxL : Nat} {lv : List (Nat × Value)}
    (hy : plainName y.cls = true) (hw : ws = Cond.code y bytes maxL none :: WS) (hav : (lg_sl av).length ≤ maxL) (hlv : lv_args 0 av = lv)
    (body : ∀ x : JX, jl x = l → jD x = D → jT x = tys → jR x = rm → jC x bytes maxL y.cls → (jt x).sig.returnType = none → ((jt x).name = y.name) → jEc x rm.cells rm.slots Pw → jW x maxL 0 0 0 lv [] w0) : jMc l y ws rm D tys av w0 Pw := by
  intro sz
  refine Met.ofW hy hw ?_
  intro p e s m args below meth c s₁ B hml hv
  obtain ⟨rfl, hsz, hP, hK, hD0, hN⟩ := hv
  subst hsz
  have hlv' := lv_entry av (n := maxL) hav
  rw [hlv] at hlv'
  rw [lg_entry_eq]
  refine body ((p, l, e, (headSpec ws rm).room, s), (m, av.toArray, below, meth, c), (D, tys, va_A w0 s.heap.size, MQ below (fun _ st oc t => oc = .returned none ∧ ∃ w1, Pw w1 ∧ va_P D vwCl w1 t.heap ∧ va_D (va_A w0 s.heap.size) w1 ∧ va_F (va_A w0 s.heap.size) st t) av.toArray s rm.cells rm.slots (va_A w0 s.heap.size))) rfl rfl rfl rfl ⟨⟨B.exec, B.bytes, hml, findClass_of_methodNamed B.named, fun z hz => atoms_spec (ws := ws) B.pre z (by rw [hw]; exact List.mem_cons_of_mem _ hz)⟩, hK, fun q h => Or.inr h, B.notSynchronized, hN⟩ B.returns (name_of_methodNamed B.named B.method).1 rfl s.heap [] _ hP (hD0.self) va_S.rf hlv'

