/-! J: a walk's goal with its heap, its array of locals and its written places hidden; the model's equation carries the values. -/
abbrev JX : Type := (Program × Launch × Env × Room × State) × (MethodId × Array Value × List Frame × Method × Code) × (va_G × List (ClassId × FieldType) × (Nat → Prop) × (State → Prop))
abbrev jp (x : JX) : Program := x.1.1
abbrev jl (x : JX) : Launch := x.1.2.1
abbrev je (x : JX) : Env := x.1.2.2.1
abbrev jR (x : JX) : Room := x.1.2.2.2.1
abbrev js (x : JX) : State := x.1.2.2.2.2
abbrev jm (x : JX) : MethodId := x.2.1.1
abbrev ja (x : JX) : Array Value := x.2.1.2.1
abbrev jb (x : JX) : List Frame := x.2.1.2.2.1
abbrev jt (x : JX) : Method := x.2.1.2.2.2.1
abbrev jc (x : JX) : Code := x.2.1.2.2.2.2
abbrev jD (x : JX) : va_G := x.2.2.1
abbrev jT (x : JX) : List (ClassId × FieldType) := x.2.2.2.1
abbrev jA (x : JX) : Nat → Prop := x.2.2.2.2.1
abbrev jQ (x : JX) : State → Prop := x.2.2.2.2.2
/-- the words of nest mates hold -/
def jN (U : State) : Prop := ∀ w ∈ NWS, va_Nw w U
theorem jN.warm {s U : State} (hW : s.WarmedH U.vm) (h : jN s) : jN U := by
  intro w hw
  have h0 := h w hw
  have hn : nestW w = true := (List.mem_filter.mp hw).2
  cases w <;> first | exact va_Nw.warmF hW h0 | exact va_Nw.warmM hW h0 | exact va_Nw.warmC hW h0 | exact va_Nw.warmD hW h0 | exact absurd hn (by decide) | (simp [nestW] at hn; done)
theorem jN.same {s U : State} (e : s.vm = U.vm) (h : jN s) : jN U := by
  intro w hw
  have h0 := h w hw
  have hn : nestW w = true := (List.mem_filter.mp hw).2
  cases w <;> first | exact va_Nw.same rfl e h0 | exact absurd hn (by decide) | (simp [nestW] at hn; done)
theorem nest_on {w : Cond} (hw : w ∈ NWS) : w.onTables = true := by
  have hn : nestW w = true := (List.mem_filter.mp hw).2
  cases w <;> first | rfl | exact absurd hn (by decide) | (simp [nestW] at hn; done)
theorem ws_good {L : List Cond} (h : ∀ w ∈ L, w ∈ WS) : GoodIn WS L := fun w hw => ⟨h w hw, good_of_word (List.mem_filter.mp (h w hw)).2⟩
def jC (x : JX) (cc : ByteArray) (nL : Nat) (own : String) : Prop :=
  CallFix (jp x) (jm x) (jc x) cc nL (js x) (ja x) WS own ∧ va_K (jD x) vwCl (jT x) (js x) ∧ (∀ q, (js x).heap.size ≤ q → jA x q) ∧ (jt x).locks = false ∧ jN (js x)
def jW (x : JX) (nL kc ks pc : Nat) (lv : List (Nat × Value)) (st : List Value) (w : va_W) : Prop :=
  ∀ (H : Heap) (locs : List Loc) (ls : Array Slot), va_P (jD x) vwCl w H → va_D (jA x) w → va_S (jA x) (js x).heap H locs → lv_has ls nL lv →
    W (jp x) (jl x) (je x) (jR x) (js x) (jm x) (ja x) (jb x) (jt x) (jc x) H locs kc ks (jQ x) (F0 (jm x) pc ls st)
/-- a guarded read, a guard, a named value: the words of the models -/
def mrd {α β : Type} (n : Nat) (f : Nat → β) (i : Int32) (B : β → Option α) : Option α := if 0 ≤ i.toInt ∧ i.toInt < n then B (f i.toNatClampNeg) else none
def mck {α : Type} (n : Nat) (i : Int32) (M : Option α) : Option α := if 0 ≤ i.toInt ∧ i.toInt < n then M else none
def mlet {α β : Type} (t : α) (B : α → β) : β := B t
def lp {S E : Type} (body : S → Option (S ⊕ E)) : Nat → S → Option E
  | 0, _ => none
  | n + 1, t => match body t with
    | none => none
    | some (.inl t') => lp body n t'
    | some (.inr e) => some e
def mb1 {α β : Type} (o : Option α) (B : α → Option β) : Option β := o.bind B
theorem mb1_some {α β : Type} {o : Option α} {B : α → Option β} {r : β} (h : mb1 o B = some r) : ∃ a, o = some a ∧ B a = some r := Option.bind_eq_some_iff.mp h
def mb2 {α0 α1 β : Type} (o : Option (α0 × α1)) (B : α0 → α1 → Option β) : Option β := o.bind fun s => B s.1 s.2
theorem mb2_some {α0 α1 β : Type} {o : Option (α0 × α1)} {B : α0 → α1 → Option β} {r : β} (h : mb2 o B = some r) : ∃ a0 a1, o = some (a0, a1) ∧ B a0 a1 = some r := by
  obtain ⟨⟨a0, a1⟩, h1, h2⟩ := Option.bind_eq_some_iff.mp h
  exact ⟨a0, a1, h1, h2⟩
def mb3 {α0 α1 α2 β : Type} (o : Option (α0 × α1 × α2)) (B : α0 → α1 → α2 → Option β) : Option β := o.bind fun s => B s.1 s.2.1 s.2.2
theorem mb3_some {α0 α1 α2 β : Type} {o : Option (α0 × α1 × α2)} {B : α0 → α1 → α2 → Option β} {r : β} (h : mb3 o B = some r) : ∃ a0 a1 a2, o = some (a0, a1, a2) ∧ B a0 a1 a2 = some r := by
  obtain ⟨⟨a0, a1, a2⟩, h1, h2⟩ := Option.bind_eq_some_iff.mp h
  exact ⟨a0, a1, a2, h1, h2⟩
def mb4 {α0 α1 α2 α3 β : Type} (o : Option (α0 × α1 × α2 × α3)) (B : α0 → α1 → α2 → α3 → Option β) : Option β := o.bind fun s => B s.1 s.2.1 s.2.2.1 s.2.2.2
theorem mb4_some {α0 α1 α2 α3 β : Type} {o : Option (α0 × α1 × α2 × α3)} {B : α0 → α1 → α2 → α3 → Option β} {r : β} (h : mb4 o B = some r) : ∃ a0 a1 a2 a3, o = some (a0, a1, a2, a3) ∧ B a0 a1 a2 a3 = some r := by
  obtain ⟨⟨a0, a1, a2, a3⟩, h1, h2⟩ := Option.bind_eq_some_iff.mp h
  exact ⟨a0, a1, a2, a3, h1, h2⟩
def mb5 {α0 α1 α2 α3 α4 β : Type} (o : Option (α0 × α1 × α2 × α3 × α4)) (B : α0 → α1 → α2 → α3 → α4 → Option β) : Option β := o.bind fun s => B s.1 s.2.1 s.2.2.1 s.2.2.2.1 s.2.2.2.2
theorem mb5_some {α0 α1 α2 α3 α4 β : Type} {o : Option (α0 × α1 × α2 × α3 × α4)} {B : α0 → α1 → α2 → α3 → α4 → Option β} {r : β} (h : mb5 o B = some r) : ∃ a0 a1 a2 a3 a4, o = some (a0, a1, a2, a3, a4) ∧ B a0 a1 a2 a3 a4 = some r := by
  obtain ⟨⟨a0, a1, a2, a3, a4⟩, h1, h2⟩ := Option.bind_eq_some_iff.mp h
  exact ⟨a0, a1, a2, a3, a4, h1, h2⟩
def mb6 {α0 α1 α2 α3 α4 α5 β : Type} (o : Option (α0 × α1 × α2 × α3 × α4 × α5)) (B : α0 → α1 → α2 → α3 → α4 → α5 → Option β) : Option β := o.bind fun s => B s.1 s.2.1 s.2.2.1 s.2.2.2.1 s.2.2.2.2.1 s.2.2.2.2.2
theorem mb6_some {α0 α1 α2 α3 α4 α5 β : Type} {o : Option (α0 × α1 × α2 × α3 × α4 × α5)} {B : α0 → α1 → α2 → α3 → α4 → α5 → Option β} {r : β} (h : mb6 o B = some r) : ∃ a0 a1 a2 a3 a4 a5, o = some (a0, a1, a2, a3, a4, a5) ∧ B a0 a1 a2 a3 a4 a5 = some r := by
  obtain ⟨⟨a0, a1, a2, a3, a4, a5⟩, h1, h2⟩ := Option.bind_eq_some_iff.mp h
  exact ⟨a0, a1, a2, a3, a4, a5, h1, h2⟩
def mb7 {α0 α1 α2 α3 α4 α5 α6 β : Type} (o : Option (α0 × α1 × α2 × α3 × α4 × α5 × α6)) (B : α0 → α1 → α2 → α3 → α4 → α5 → α6 → Option β) : Option β := o.bind fun s => B s.1 s.2.1 s.2.2.1 s.2.2.2.1 s.2.2.2.2.1 s.2.2.2.2.2.1 s.2.2.2.2.2.2
theorem mb7_some {α0 α1 α2 α3 α4 α5 α6 β : Type} {o : Option (α0 × α1 × α2 × α3 × α4 × α5 × α6)} {B : α0 → α1 → α2 → α3 → α4 → α5 → α6 → Option β} {r : β} (h : mb7 o B = some r) : ∃ a0 a1 a2 a3 a4 a5 a6, o = some (a0, a1, a2, a3, a4, a5, a6) ∧ B a0 a1 a2 a3 a4 a5 a6 = some r := by
  obtain ⟨⟨a0, a1, a2, a3, a4, a5, a6⟩, h1, h2⟩ := Option.bind_eq_some_iff.mp h
  exact ⟨a0, a1, a2, a3, a4, a5, a6, h1, h2⟩
def mb8 {α0 α1 α2 α3 α4 α5 α6 α7 β : Type} (o : Option (α0 × α1 × α2 × α3 × α4 × α5 × α6 × α7)) (B : α0 → α1 → α2 → α3 → α4 → α5 → α6 → α7 → Option β) : Option β := o.bind fun s => B s.1 s.2.1 s.2.2.1 s.2.2.2.1 s.2.2.2.2.1 s.2.2.2.2.2.1 s.2.2.2.2.2.2.1 s.2.2.2.2.2.2.2
theorem mb8_some {α0 α1 α2 α3 α4 α5 α6 α7 β : Type} {o : Option (α0 × α1 × α2 × α3 × α4 × α5 × α6 × α7)} {B : α0 → α1 → α2 → α3 → α4 → α5 → α6 → α7 → Option β} {r : β} (h : mb8 o B = some r) : ∃ a0 a1 a2 a3 a4 a5 a6 a7, o = some (a0, a1, a2, a3, a4, a5, a6, a7) ∧ B a0 a1 a2 a3 a4 a5 a6 a7 = some r := by
  obtain ⟨⟨a0, a1, a2, a3, a4, a5, a6, a7⟩, h1, h2⟩ := Option.bind_eq_some_iff.mp h
  exact ⟨a0, a1, a2, a3, a4, a5, a6, a7, h1, h2⟩
theorem mrd_some {α β : Type} {n : Nat} {f : Nat → β} {i : Int32} {B : β → Option α} {r : α} (h : mrd n f i B = some r) : vp_in i n ∧ B (f i.toNatClampNeg) = some r := by
  unfold mrd at h
  split at h
  · rename_i hc; exact ⟨vp_in_iff.mpr hc, h⟩
  · cases h
theorem mck_some {α : Type} {n : Nat} {i : Int32} {M : Option α} {r : α} (h : mck n i M = some r) : vp_in i n ∧ M = some r := by
  unfold mck at h
  split at h
  · rename_i hc; exact ⟨vp_in_iff.mpr hc, h⟩
  · cases h
theorem j_lp {S E : Type} {body : S → Option (S ⊕ E)} {Pr : S → Prop} {K : E → Prop} (hs : ∀ t o, body t = some o → (∀ t', o = .inl t' → Pr t') → (∀ e, o = .inr e → K e) → Pr t) : ∀ n t e, lp body n t = some e → K e → Pr t := by
  intro n
  induction n with
  | zero => intro t e h; cases h
  | succ n ih =>
    intro t e h k
    unfold lp at h
    cases hb : body t with
    | none => rw [hb] at h; cases h
    | some o =>
      rw [hb] at h
      cases o with
      | inl t' => exact hs t _ hb (fun t'' ht => by cases ht; exact ih t' e h k) (fun e' he => by cases he)
      | inr e' => cases h; exact hs t _ hb (fun t' ht => by cases ht) (fun e'' he => by cases he; exact k)
section JROWS
variable {x : JX} {cc : ByteArray} {nL kc ks : Nat} {own : String} {pc pc' : Nat} {lv lv' : List (Nat × Value)} {st : List Value} {w : va_W}
theorem j_sub (is : List Nat) (hl : lv_pick lv is = lv') (K : jW x nL kc ks pc lv' st w) : jW x nL kc ks pc lv st w :=
  fun H locs ls hP hD hS h => K H locs ls hP hD hS (lv_sub h is hl)
theorem j_pc (hp : pc = pc') (K : jW x nL kc ks pc' lv st w) : jW x nL kc ks pc lv st w := hp ▸ K
theorem j_iconst (C : jC x cc nL own) {n : Int} {v : Int32} (hd : decode cc pc = .ok (.iconst n, 1)) (hp : pc + 1 = pc') (hv : Int32.ofInt n = v) (K : jW x nL kc ks pc' lv (.int v :: st) w) : jW x nL kc ks pc lv (st) w :=
  fun H locs ls hP hD hS hl => lv_iconst C.1.1 C.1.2.1 hd hv (by subst hp; exact K H locs ls hP hD hS hl)
theorem j_bipush (C : jC x cc nL own) {n : Int} {v : Int32} (hd : decode cc pc = .ok (.bipush n, 2)) (hp : pc + 2 = pc') (hv : (Int8.ofInt n).toInt32 = v) (K : jW x nL kc ks pc' lv (.int v :: st) w) : jW x nL kc ks pc lv (st) w :=
  fun H locs ls hP hD hS hl => lv_bipush C.1.1 C.1.2.1 hd hv (by subst hp; exact K H locs ls hP hD hS hl)
theorem j_sipush (C : jC x cc nL own) {n : Int} {v : Int32} (hd : decode cc pc = .ok (.sipush n, 3)) (hp : pc + 3 = pc') (hv : (Int16.ofInt n).toInt32 = v) (K : jW x nL kc ks pc' lv (.int v :: st) w) : jW x nL kc ks pc lv (st) w :=
  fun H locs ls hP hD hS hl => lv_sipush C.1.1 C.1.2.1 hd hv (by subst hp; exact K H locs ls hP hD hS hl)
theorem j_ldc (C : jC x cc nL own) {index : Nat} {v : Int32} (hd : decode cc pc = .ok (.ldc index, 2)) (hp : pc + 2 = pc') (hw : Cond.constant own index v ∈ WS) (K : jW x nL kc ks pc' lv (.int v :: st) w) : jW x nL kc ks pc lv (st) w :=
  fun H locs ls hP hD hS hl => lv_ldc C.1.1 C.1.2.1 C.1.2.2.2.1 (C.1.2.2.2.2 _ hw) hd (by subst hp; exact K H locs ls hP hD hS hl)
theorem j_ldc_w (C : jC x cc nL own) {index : Nat} {v : Int32} (hd : decode cc pc = .ok (.ldc_w index, 3)) (hp : pc + 3 = pc') (hw : Cond.constant own index v ∈ WS) (K : jW x nL kc ks pc' lv (.int v :: st) w) : jW x nL kc ks pc lv (st) w :=
  fun H locs ls hP hD hS hl => lv_ldcw C.1.1 C.1.2.1 C.1.2.2.2.1 (C.1.2.2.2.2 _ hw) hd (by subst hp; exact K H locs ls hP hD hS hl)
theorem j_iload_n (C : jC x cc nL own) {kk : Fin 4} {i : Nat} {v : Int32} (j : Nat) (hd : decode cc pc = .ok (.iload_n kk, 1)) (hp : pc + 1 = pc') (hi : (kk : Nat) = i) (hk : lv[j]? = some (i, .int v)) (K : jW x nL kc ks pc' lv (.int v :: st) w) : jW x nL kc ks pc lv (st) w :=
  fun H locs ls hP hD hS hl => lv_iload_n C.1.1 C.1.2.1 hd hi (lv_at hl j hk) (by subst hp; exact K H locs ls hP hD hS hl)
theorem j_iload (C : jC x cc nL own) {i : Nat} {v : Int32} (j : Nat) (hd : decode cc pc = .ok (.iload i, 2)) (hp : pc + 2 = pc') (hk : lv[j]? = some (i, .int v)) (K : jW x nL kc ks pc' lv (.int v :: st) w) : jW x nL kc ks pc lv (st) w :=
  fun H locs ls hP hD hS hl => lv_iload C.1.1 C.1.2.1 hd (lv_at hl j hk) (by subst hp; exact K H locs ls hP hD hS hl)
theorem j_aload_n (C : jC x cc nL own) {kk : Fin 4} {i : Nat} {v : Nat} (j : Nat) (hd : decode cc pc = .ok (.aload_n kk, 1)) (hp : pc + 1 = pc') (hi : (kk : Nat) = i) (hk : lv[j]? = some (i, .ref v)) (K : jW x nL kc ks pc' lv (.ref v :: st) w) : jW x nL kc ks pc lv (st) w :=
  fun H locs ls hP hD hS hl => lv_aload_n C.1.1 C.1.2.1 hd hi (lv_at hl j hk) (by subst hp; exact K H locs ls hP hD hS hl)
theorem j_aload (C : jC x cc nL own) {i : Nat} {v : Nat} (j : Nat) (hd : decode cc pc = .ok (.aload i, 2)) (hp : pc + 2 = pc') (hk : lv[j]? = some (i, .ref v)) (K : jW x nL kc ks pc' lv (.ref v :: st) w) : jW x nL kc ks pc lv (st) w :=
  fun H locs ls hP hD hS hl => lv_aload C.1.1 C.1.2.1 hd (lv_at hl j hk) (by subst hp; exact K H locs ls hP hD hS hl)
theorem j_lload_n (C : jC x cc nL own) {kk : Fin 4} {i : Nat} {v : Int64} (j : Nat) (hd : decode cc pc = .ok (.lload_n kk, 1)) (hp : pc + 1 = pc') (hi : (kk : Nat) = i) (hk : lv[j]? = some (i, .long v)) (K : jW x nL kc ks pc' lv (.long v :: st) w) : jW x nL kc ks pc lv (st) w :=
  fun H locs ls hP hD hS hl => lv_lload_n C.1.1 C.1.2.1 hd hi (lv_at hl j hk) (by subst hp; exact K H locs ls hP hD hS hl)
theorem j_lload (C : jC x cc nL own) {i : Nat} {v : Int64} (j : Nat) (hd : decode cc pc = .ok (.lload i, 2)) (hp : pc + 2 = pc') (hk : lv[j]? = some (i, .long v)) (K : jW x nL kc ks pc' lv (.long v :: st) w) : jW x nL kc ks pc lv (st) w :=
  fun H locs ls hP hD hS hl => lv_lload C.1.1 C.1.2.1 hd (lv_at hl j hk) (by subst hp; exact K H locs ls hP hD hS hl)
theorem j_istore_n (C : jC x cc nL own) {kk : Fin 4} {i : Nat} {v : Int32} (hd : decode cc pc = .ok (.istore_n kk, 1)) (hp : pc + 1 = pc') (hi : (kk : Nat) = i) (hn : i < nL) (hl : (i, Value.int v) :: lv.filter (fun q => !(q.1 == i) && !(q.1 + 1 == i && q.2.category == 2)) = lv') (K : jW x nL kc ks pc' lv' (st) w) : jW x nL kc ks pc lv (.int v :: st) w :=
  fun H locs ls hP hD hS h => lv_istore_n C.1.1 C.1.2.1 hd hi h hn hl (fun ls' h' => by subst hp; exact K H locs ls' hP hD hS h')
theorem j_istore (C : jC x cc nL own) {i : Nat} {v : Int32} (hd : decode cc pc = .ok (.istore i, 2)) (hp : pc + 2 = pc') (hn : i < nL) (hl : (i, Value.int v) :: lv.filter (fun q => !(q.1 == i) && !(q.1 + 1 == i && q.2.category == 2)) = lv') (K : jW x nL kc ks pc' lv' (st) w) : jW x nL kc ks pc lv (.int v :: st) w :=
  fun H locs ls hP hD hS h => lv_istore C.1.1 C.1.2.1 hd h hn hl (fun ls' h' => by subst hp; exact K H locs ls' hP hD hS h')
theorem j_astore_n (C : jC x cc nL own) {kk : Fin 4} {i : Nat} {v : Nat} (hd : decode cc pc = .ok (.astore_n kk, 1)) (hp : pc + 1 = pc') (hi : (kk : Nat) = i) (hn : i < nL) (hl : (i, Value.ref v) :: lv.filter (fun q => !(q.1 == i) && !(q.1 + 1 == i && q.2.category == 2)) = lv') (K : jW x nL kc ks pc' lv' (st) w) : jW x nL kc ks pc lv (.ref v :: st) w :=
  fun H locs ls hP hD hS h => lv_astore_n C.1.1 C.1.2.1 hd hi h hn hl (fun ls' h' => by subst hp; exact K H locs ls' hP hD hS h')
theorem j_astore (C : jC x cc nL own) {i : Nat} {v : Nat} (hd : decode cc pc = .ok (.astore i, 2)) (hp : pc + 2 = pc') (hn : i < nL) (hl : (i, Value.ref v) :: lv.filter (fun q => !(q.1 == i) && !(q.1 + 1 == i && q.2.category == 2)) = lv') (K : jW x nL kc ks pc' lv' (st) w) : jW x nL kc ks pc lv (.ref v :: st) w :=
  fun H locs ls hP hD hS h => lv_astore C.1.1 C.1.2.1 hd h hn hl (fun ls' h' => by subst hp; exact K H locs ls' hP hD hS h')
theorem j_iinc (C : jC x cc nL own) {i : Nat} {n : Int} {v v' : Int32} (j : Nat) (hd : decode cc pc = .ok (.iinc i n, 3)) (hp : pc + 3 = pc') (hk : lv[j]? = some (i, .int v)) (hv : v + Int32.ofInt n = v') (hn : i < nL) (hl : (i, Value.int v') :: lv.filter (fun q => !(q.1 == i) && !(q.1 + 1 == i && q.2.category == 2)) = lv') (K : jW x nL kc ks pc' lv' (st) w) : jW x nL kc ks pc lv (st) w :=
  fun H locs ls hP hD hS h => lv_iinc C.1.1 C.1.2.1 hd h hk hv hn hl (fun ls' h' => by subst hp; exact K H locs ls' hP hD hS h')
theorem j_iadd (C : jC x cc nL own) {a b : Int32} (hd : decode cc pc = .ok (.iadd, 1)) (hp : pc + 1 = pc') (K : jW x nL kc ks pc' lv (.int (a + b) :: st) w) : jW x nL kc ks pc lv (.int b :: .int a :: st) w :=
  fun H locs ls hP hD hS hl => lv_iadd C.1.1 C.1.2.1 hd (by subst hp; exact K H locs ls hP hD hS hl)
theorem j_isub (C : jC x cc nL own) {a b : Int32} (hd : decode cc pc = .ok (.isub, 1)) (hp : pc + 1 = pc') (K : jW x nL kc ks pc' lv (.int (a - b) :: st) w) : jW x nL kc ks pc lv (.int b :: .int a :: st) w :=
  fun H locs ls hP hD hS hl => lv_isub C.1.1 C.1.2.1 hd (by subst hp; exact K H locs ls hP hD hS hl)
theorem j_imul (C : jC x cc nL own) {a b : Int32} (hd : decode cc pc = .ok (.imul, 1)) (hp : pc + 1 = pc') (K : jW x nL kc ks pc' lv (.int (a * b) :: st) w) : jW x nL kc ks pc lv (.int b :: .int a :: st) w :=
  fun H locs ls hP hD hS hl => lv_imul C.1.1 C.1.2.1 hd (by subst hp; exact K H locs ls hP hD hS hl)
theorem j_iand (C : jC x cc nL own) {a b : Int32} (hd : decode cc pc = .ok (.iand, 1)) (hp : pc + 1 = pc') (K : jW x nL kc ks pc' lv (.int (a &&& b) :: st) w) : jW x nL kc ks pc lv (.int b :: .int a :: st) w :=
  fun H locs ls hP hD hS hl => lv_iand C.1.1 C.1.2.1 hd (by subst hp; exact K H locs ls hP hD hS hl)
theorem j_ior (C : jC x cc nL own) {a b : Int32} (hd : decode cc pc = .ok (.ior, 1)) (hp : pc + 1 = pc') (K : jW x nL kc ks pc' lv (.int (a ||| b) :: st) w) : jW x nL kc ks pc lv (.int b :: .int a :: st) w :=
  fun H locs ls hP hD hS hl => lv_ior C.1.1 C.1.2.1 hd (by subst hp; exact K H locs ls hP hD hS hl)
theorem j_ixor (C : jC x cc nL own) {a b : Int32} (hd : decode cc pc = .ok (.ixor, 1)) (hp : pc + 1 = pc') (K : jW x nL kc ks pc' lv (.int (a ^^^ b) :: st) w) : jW x nL kc ks pc lv (.int b :: .int a :: st) w :=
  fun H locs ls hP hD hS hl => lv_ixor C.1.1 C.1.2.1 hd (by subst hp; exact K H locs ls hP hD hS hl)
theorem j_ishl (C : jC x cc nL own) {a b : Int32} (hd : decode cc pc = .ok (.ishl, 1)) (hp : pc + 1 = pc') (K : jW x nL kc ks pc' lv (.int (a <<< (b &&& 31)) :: st) w) : jW x nL kc ks pc lv (.int b :: .int a :: st) w :=
  fun H locs ls hP hD hS hl => lv_ishl C.1.1 C.1.2.1 hd (by subst hp; exact K H locs ls hP hD hS hl)
theorem j_ishr (C : jC x cc nL own) {a b : Int32} (hd : decode cc pc = .ok (.ishr, 1)) (hp : pc + 1 = pc') (K : jW x nL kc ks pc' lv (.int (a >>> (b &&& 31)) :: st) w) : jW x nL kc ks pc lv (.int b :: .int a :: st) w :=
  fun H locs ls hP hD hS hl => lv_ishr C.1.1 C.1.2.1 hd (by subst hp; exact K H locs ls hP hD hS hl)
theorem j_iushr (C : jC x cc nL own) {a b : Int32} (hd : decode cc pc = .ok (.iushr, 1)) (hp : pc + 1 = pc') (K : jW x nL kc ks pc' lv (.int ((a.toUInt32 >>> (b.toUInt32 &&& Int32.toUInt32 31)).toInt32) :: st) w) : jW x nL kc ks pc lv (.int b :: .int a :: st) w :=
  fun H locs ls hP hD hS hl => lv_iushr C.1.1 C.1.2.1 hd rfl (by subst hp; exact K H locs ls hP hD hS hl)
theorem j_idiv (C : jC x cc nL own) {a b : Int32} (hd : decode cc pc = .ok (.idiv, 1)) (hp : pc + 1 = pc') (hne : ¬ b = 0) (K : jW x nL kc ks pc' lv (.int (a / b) :: st) w) : jW x nL kc ks pc lv (.int b :: .int a :: st) w :=
  fun H locs ls hP hD hS hl => lv_idiv C.1.1 C.1.2.1 hd hne (by subst hp; exact K H locs ls hP hD hS hl)
theorem j_irem (C : jC x cc nL own) {a b : Int32} (hd : decode cc pc = .ok (.irem, 1)) (hp : pc + 1 = pc') (hne : ¬ b = 0) (K : jW x nL kc ks pc' lv (.int (a - a / b * b) :: st) w) : jW x nL kc ks pc lv (.int b :: .int a :: st) w :=
  fun H locs ls hP hD hS hl => lv_irem C.1.1 C.1.2.1 hd hne (by subst hp; exact K H locs ls hP hD hS hl)
theorem j_ineg (C : jC x cc nL own) {a : Int32} (hd : decode cc pc = .ok (.ineg, 1)) (hp : pc + 1 = pc') (K : jW x nL kc ks pc' lv (.int (-a) :: st) w) : jW x nL kc ks pc lv (.int a :: st) w :=
  fun H locs ls hP hD hS hl => lv_ineg C.1.1 C.1.2.1 hd (by subst hp; exact K H locs ls hP hD hS hl)
theorem j_i2l (C : jC x cc nL own) {a : Int32} (hd : decode cc pc = .ok (.i2l, 1)) (hp : pc + 1 = pc') (K : jW x nL kc ks pc' lv (.long a.toInt64 :: st) w) : jW x nL kc ks pc lv (.int a :: st) w :=
  fun H locs ls hP hD hS hl => lv_i2l C.1.1 C.1.2.1 hd rfl (by subst hp; exact K H locs ls hP hD hS hl)
theorem j_dup (C : jC x cc nL own) {va : Value} (hd : decode cc pc = .ok (.dup, 1)) (hp : pc + 1 = pc') (hva : va.category = 1) (K : jW x nL kc ks pc' lv (va :: va :: st) w) : jW x nL kc ks pc lv (va :: st) w :=
  fun H locs ls hP hD hS hl => lv_dup C.1.1 C.1.2.1 hd hva (by subst hp; exact K H locs ls hP hD hS hl)
theorem j_pop (C : jC x cc nL own) {va : Value} (hd : decode cc pc = .ok (.pop, 1)) (hp : pc + 1 = pc') (hva : va.category = 1) (K : jW x nL kc ks pc' lv (st) w) : jW x nL kc ks pc lv (va :: st) w :=
  fun H locs ls hP hD hS hl => lv_pop C.1.1 C.1.2.1 hd hva (by subst hp; exact K H locs ls hP hD hS hl)
theorem j_dup2 (C : jC x cc nL own) {va vb : Value} (hd : decode cc pc = .ok (.dup2, 1)) (hp : pc + 1 = pc') (hva : va.category = 1) (hvb : vb.category = 1) (K : jW x nL kc ks pc' lv (va :: vb :: va :: vb :: st) w) : jW x nL kc ks pc lv (va :: vb :: st) w :=
  fun H locs ls hP hD hS hl => lv_dup2_11 C.1.1 C.1.2.1 hd hva hvb (by subst hp; exact K H locs ls hP hD hS hl)
theorem j_dup_x1 (C : jC x cc nL own) {va vb : Value} (hd : decode cc pc = .ok (.dup_x1, 1)) (hp : pc + 1 = pc') (hva : va.category = 1) (hvb : vb.category = 1) (K : jW x nL kc ks pc' lv (va :: vb :: va :: st) w) : jW x nL kc ks pc lv (va :: vb :: st) w :=
  fun H locs ls hP hD hS hl => lv_dup_x1 C.1.1 C.1.2.1 hd hva hvb (by subst hp; exact K H locs ls hP hD hS hl)
theorem j_goto (C : jC x cc nL own) {off : Int} {tgt : Nat} (hd : decode cc pc = .ok (.goto off, 3)) (ht : (pc : Int) + off = (tgt : Int)) (K : jW x nL kc ks tgt lv st w) : jW x nL kc ks pc lv (st) w :=
  fun H locs ls hP hD hS hl => lv_goto C.1.1 C.1.2.1 hd ht (K H locs ls hP hD hS hl)
theorem j_if_eq (C : jC x cc nL own) {α : Type} {res : α} {MA MB : Option α} {a : Int32} {off : Int} {tgt : Nat} (hd : decode cc pc = .ok (.ifCond .eq off, 3)) (ht : (pc : Int) + off = (tgt : Int)) (hp : pc + 3 = pc') (h : (if a = 0 then MA else MB) = some res) (K1 : MA = some res → jW x nL kc ks tgt lv st w) (K2 : MB = some res → jW x nL kc ks pc' lv st w) : jW x nL kc ks pc lv (.int a :: st) w :=
  fun H locs ls hP hD hS hl => lv_if_eq C.1.1 C.1.2.1 hd ht (fun q => K1 (by rw [if_pos q] at h; exact h) H locs ls hP hD hS hl) (fun q => by subst hp; exact K2 (by rw [if_neg q] at h; exact h) H locs ls hP hD hS hl)
theorem j_icmp_eq (C : jC x cc nL own) {α : Type} {res : α} {MA MB : Option α} {a b : Int32} {off : Int} {tgt : Nat} (hd : decode cc pc = .ok (.if_icmp .eq off, 3)) (ht : (pc : Int) + off = (tgt : Int)) (hp : pc + 3 = pc') (h : (if a = b then MA else MB) = some res) (K1 : MA = some res → jW x nL kc ks tgt lv st w) (K2 : MB = some res → jW x nL kc ks pc' lv st w) : jW x nL kc ks pc lv (.int b :: .int a :: st) w :=
  fun H locs ls hP hD hS hl => lv_icmp_eq C.1.1 C.1.2.1 hd ht (fun q => K1 (by rw [if_pos q] at h; exact h) H locs ls hP hD hS hl) (fun q => by subst hp; exact K2 (by rw [if_neg q] at h; exact h) H locs ls hP hD hS hl)
theorem j_if_ne (C : jC x cc nL own) {α : Type} {res : α} {MA MB : Option α} {a : Int32} {off : Int} {tgt : Nat} (hd : decode cc pc = .ok (.ifCond .ne off, 3)) (ht : (pc : Int) + off = (tgt : Int)) (hp : pc + 3 = pc') (h : (if a = 0 then MA else MB) = some res) (K1 : MB = some res → jW x nL kc ks tgt lv st w) (K2 : MA = some res → jW x nL kc ks pc' lv st w) : jW x nL kc ks pc lv (.int a :: st) w :=
  fun H locs ls hP hD hS hl => lv_if_ne C.1.1 C.1.2.1 hd ht (fun q => K1 (by rw [if_neg q] at h; exact h) H locs ls hP hD hS hl) (fun q => by subst hp; exact K2 (by rw [if_pos q] at h; exact h) H locs ls hP hD hS hl)
theorem j_icmp_ne (C : jC x cc nL own) {α : Type} {res : α} {MA MB : Option α} {a b : Int32} {off : Int} {tgt : Nat} (hd : decode cc pc = .ok (.if_icmp .ne off, 3)) (ht : (pc : Int) + off = (tgt : Int)) (hp : pc + 3 = pc') (h : (if a = b then MA else MB) = some res) (K1 : MB = some res → jW x nL kc ks tgt lv st w) (K2 : MA = some res → jW x nL kc ks pc' lv st w) : jW x nL kc ks pc lv (.int b :: .int a :: st) w :=
  fun H locs ls hP hD hS hl => lv_icmp_ne C.1.1 C.1.2.1 hd ht (fun q => K1 (by rw [if_neg q] at h; exact h) H locs ls hP hD hS hl) (fun q => by subst hp; exact K2 (by rw [if_pos q] at h; exact h) H locs ls hP hD hS hl)
theorem j_if_lt (C : jC x cc nL own) {α : Type} {res : α} {MA MB : Option α} {a : Int32} {off : Int} {tgt : Nat} (hd : decode cc pc = .ok (.ifCond .lt off, 3)) (ht : (pc : Int) + off = (tgt : Int)) (hp : pc + 3 = pc') (h : (if a < 0 then MA else MB) = some res) (K1 : MA = some res → jW x nL kc ks tgt lv st w) (K2 : MB = some res → jW x nL kc ks pc' lv st w) : jW x nL kc ks pc lv (.int a :: st) w :=
  fun H locs ls hP hD hS hl => lv_if_lt C.1.1 C.1.2.1 hd ht (fun q => K1 (by rw [if_pos q] at h; exact h) H locs ls hP hD hS hl) (fun q => by subst hp; exact K2 (by rw [if_neg q] at h; exact h) H locs ls hP hD hS hl)
theorem j_icmp_lt (C : jC x cc nL own) {α : Type} {res : α} {MA MB : Option α} {a b : Int32} {off : Int} {tgt : Nat} (hd : decode cc pc = .ok (.if_icmp .lt off, 3)) (ht : (pc : Int) + off = (tgt : Int)) (hp : pc + 3 = pc') (h : (if a < b then MA else MB) = some res) (K1 : MA = some res → jW x nL kc ks tgt lv st w) (K2 : MB = some res → jW x nL kc ks pc' lv st w) : jW x nL kc ks pc lv (.int b :: .int a :: st) w :=
  fun H locs ls hP hD hS hl => lv_icmp_lt C.1.1 C.1.2.1 hd ht (fun q => K1 (by rw [if_pos q] at h; exact h) H locs ls hP hD hS hl) (fun q => by subst hp; exact K2 (by rw [if_neg q] at h; exact h) H locs ls hP hD hS hl)
theorem j_if_ge (C : jC x cc nL own) {α : Type} {res : α} {MA MB : Option α} {a : Int32} {off : Int} {tgt : Nat} (hd : decode cc pc = .ok (.ifCond .ge off, 3)) (ht : (pc : Int) + off = (tgt : Int)) (hp : pc + 3 = pc') (h : (if 0 ≤ a then MA else MB) = some res) (K1 : MA = some res → jW x nL kc ks tgt lv st w) (K2 : MB = some res → jW x nL kc ks pc' lv st w) : jW x nL kc ks pc lv (.int a :: st) w :=
  fun H locs ls hP hD hS hl => lv_if_ge C.1.1 C.1.2.1 hd ht (fun q => K1 (by rw [if_pos q] at h; exact h) H locs ls hP hD hS hl) (fun q => by subst hp; exact K2 (by rw [if_neg q] at h; exact h) H locs ls hP hD hS hl)
theorem j_icmp_ge (C : jC x cc nL own) {α : Type} {res : α} {MA MB : Option α} {a b : Int32} {off : Int} {tgt : Nat} (hd : decode cc pc = .ok (.if_icmp .ge off, 3)) (ht : (pc : Int) + off = (tgt : Int)) (hp : pc + 3 = pc') (h : (if b ≤ a then MA else MB) = some res) (K1 : MA = some res → jW x nL kc ks tgt lv st w) (K2 : MB = some res → jW x nL kc ks pc' lv st w) : jW x nL kc ks pc lv (.int b :: .int a :: st) w :=
  fun H locs ls hP hD hS hl => lv_icmp_ge C.1.1 C.1.2.1 hd ht (fun q => K1 (by rw [if_pos q] at h; exact h) H locs ls hP hD hS hl) (fun q => by subst hp; exact K2 (by rw [if_neg q] at h; exact h) H locs ls hP hD hS hl)
theorem j_if_gt (C : jC x cc nL own) {α : Type} {res : α} {MA MB : Option α} {a : Int32} {off : Int} {tgt : Nat} (hd : decode cc pc = .ok (.ifCond .gt off, 3)) (ht : (pc : Int) + off = (tgt : Int)) (hp : pc + 3 = pc') (h : (if 0 < a then MA else MB) = some res) (K1 : MA = some res → jW x nL kc ks tgt lv st w) (K2 : MB = some res → jW x nL kc ks pc' lv st w) : jW x nL kc ks pc lv (.int a :: st) w :=
  fun H locs ls hP hD hS hl => lv_if_gt C.1.1 C.1.2.1 hd ht (fun q => K1 (by rw [if_pos q] at h; exact h) H locs ls hP hD hS hl) (fun q => by subst hp; exact K2 (by rw [if_neg q] at h; exact h) H locs ls hP hD hS hl)
theorem j_icmp_gt (C : jC x cc nL own) {α : Type} {res : α} {MA MB : Option α} {a b : Int32} {off : Int} {tgt : Nat} (hd : decode cc pc = .ok (.if_icmp .gt off, 3)) (ht : (pc : Int) + off = (tgt : Int)) (hp : pc + 3 = pc') (h : (if b < a then MA else MB) = some res) (K1 : MA = some res → jW x nL kc ks tgt lv st w) (K2 : MB = some res → jW x nL kc ks pc' lv st w) : jW x nL kc ks pc lv (.int b :: .int a :: st) w :=
  fun H locs ls hP hD hS hl => lv_icmp_gt C.1.1 C.1.2.1 hd ht (fun q => K1 (by rw [if_pos q] at h; exact h) H locs ls hP hD hS hl) (fun q => by subst hp; exact K2 (by rw [if_neg q] at h; exact h) H locs ls hP hD hS hl)
theorem j_if_le (C : jC x cc nL own) {α : Type} {res : α} {MA MB : Option α} {a : Int32} {off : Int} {tgt : Nat} (hd : decode cc pc = .ok (.ifCond .le off, 3)) (ht : (pc : Int) + off = (tgt : Int)) (hp : pc + 3 = pc') (h : (if a ≤ 0 then MA else MB) = some res) (K1 : MA = some res → jW x nL kc ks tgt lv st w) (K2 : MB = some res → jW x nL kc ks pc' lv st w) : jW x nL kc ks pc lv (.int a :: st) w :=
  fun H locs ls hP hD hS hl => lv_if_le C.1.1 C.1.2.1 hd ht (fun q => K1 (by rw [if_pos q] at h; exact h) H locs ls hP hD hS hl) (fun q => by subst hp; exact K2 (by rw [if_neg q] at h; exact h) H locs ls hP hD hS hl)
theorem j_icmp_le (C : jC x cc nL own) {α : Type} {res : α} {MA MB : Option α} {a b : Int32} {off : Int} {tgt : Nat} (hd : decode cc pc = .ok (.if_icmp .le off, 3)) (ht : (pc : Int) + off = (tgt : Int)) (hp : pc + 3 = pc') (h : (if a ≤ b then MA else MB) = some res) (K1 : MA = some res → jW x nL kc ks tgt lv st w) (K2 : MB = some res → jW x nL kc ks pc' lv st w) : jW x nL kc ks pc lv (.int b :: .int a :: st) w :=
  fun H locs ls hP hD hS hl => lv_icmp_le C.1.1 C.1.2.1 hd ht (fun q => K1 (by rw [if_pos q] at h; exact h) H locs ls hP hD hS hl) (fun q => by subst hp; exact K2 (by rw [if_neg q] at h; exact h) H locs ls hP hD hS hl)
/-- a tableswitch, value by value; behind the last one the default -/
theorem j_tsw (C : jC x cc nL own) {α : Type} {res : α} {MA MB : Option α} {v k : Int32} {dflt lo hi off : Int} {offs : Array Int} {len tgt : Nat} (hd : decode cc pc = .ok (.tableswitch dflt lo hi offs, len)) (h1 : ¬ k.toInt < lo) (h2 : ¬ hi < k.toInt) (ho : offs[(k.toInt - lo).toNat]? = some off) (ht : (pc : Int) + off = (tgt : Int)) (h : (if v = k then MA else MB) = some res)
    (K1 : MA = some res → jW x nL kc ks tgt lv st w) (K2 : ¬ v = k → MB = some res → jW x nL kc ks pc lv (.int v :: st) w) : jW x nL kc ks pc lv (.int v :: st) w := by
  by_cases q : v = k
  · rw [if_pos q] at h
    subst q
    exact fun H locs ls hP hD hS hl => lv_tableIn C.1.1 C.1.2.1 hd h1 h2 ho ht (K1 h H locs ls hP hD hS hl)
  · rw [if_neg q] at h
    exact K2 q h
theorem j_tswD (C : jC x cc nL own) {v : Int32} {dflt lo hi : Int} {offs : Array Int} {len tgt : Nat} (hd : decode cc pc = .ok (.tableswitch dflt lo hi offs, len)) (hno : v.toInt < lo ∨ hi < v.toInt) (ht : (pc : Int) + dflt = (tgt : Int)) (K : jW x nL kc ks tgt lv st w) : jW x nL kc ks pc lv (.int v :: st) w :=
  fun H locs ls hP hD hS hl => lv_tableOut C.1.1 C.1.2.1 hd hno ht (K H locs ls hP hD hS hl)
theorem tiNe {v k : Int32} {z : Int} (hz : k.toInt = z) (h : ¬ v = k) : v.toInt ≠ z := fun e => h (Int32.toInt_inj.mp (e.trans hz.symm))
theorem j_get (C : jC x cc nL own) {ref Cn : String} {T : u_T} {N ci index a : Nat} (hin : ∀ z ∈ u_ws Cn T N, z ∈ WS) (q0 : Nat) {fs : List Value} (he : w[q0]? = some (a, .inr (ci, fs))) (hc : vwCl[ci]? = some (Cn, T, N)) (k : Nat) (hk : k < N) (hlink : Cond.fieldLink own index ref (T k).2.1 (T k).2.2.1 ∈ WS) (hsame : (T k).1 = ref) {v : Value} (hv : fs[k]? = some v) (hd : decode cc pc = .ok (.getfield index, 3)) (hp : pc + 3 = pc') (K : jW x nL kc ks pc' lv (v :: st) w) : jW x nL kc ks pc lv (.ref a :: st) w :=
  fun H locs ls hP hD hS hl => va_get (D := jD x) (ci := ci) C.1.1 C.1.2.1 C.1.2.2.2.2 hin C.1.2.2.2.1 C.2.1 hP q0 he hc k hk (C.1.2.2.2.2 _ hlink) (fun _ h9 => by rw [← hsame]; exact h9) hv hd (by subst hp; exact K H locs ls hP hD hS hl)
theorem j_getN (C : jC x cc nL own) {ref Cn host : String} {T : u_T} {N ci index a : Nat} (hin : ∀ z ∈ u_ws Cn T N, z ∈ WS) (q0 : Nat) {fs : List Value} (he : w[q0]? = some (a, .inr (ci, fs))) (hc : vwCl[ci]? = some (Cn, T, N)) (k : Nat) (hk : k < N) (hlink : Cond.fieldLinkNest own index ref (T k).2.1 (T k).2.2.1 host ∈ NWS) (hsame : (T k).1 = ref) {v : Value} (hv : fs[k]? = some v) (hd : decode cc pc = .ok (.getfield index, 3)) (hp : pc + 3 = pc') (K : jW x nL kc ks pc' lv (v :: st) w) : jW x nL kc ks pc lv (.ref a :: st) w :=
  fun H locs ls hP hD hS hl => va_getN (D := jD x) (ci := ci) C.1.1 C.1.2.1 C.1.2.2.2.2 hin C.1.2.2.2.1 C.2.1 hP q0 he hc k hk (va_Nw.use (nest_on hlink) (C.2.2.2.2 _ hlink)) (fun _ h9 => by rw [← hsame]; exact h9) hv hd (by subst hp; exact K H locs ls hP hD hS hl)
theorem j_put (C : jC x cc nL own) {ref Cn : String} {T : u_T} {N ci index a : Nat} {ty0 : Nat → FieldType} (hin : ∀ z ∈ u_ws Cn T N, z ∈ WS) (hty : ∀ k, k < N → parseFieldDescriptor (T k).2.2.1 = some (ty0 k)) (hnm : ∀ a, a < N → ∀ b, b < N → a ≠ b → (T a).2.1 ≠ (T b).2.1) (q0 : Nat) {fs : List Value} (he : w[q0]? = some (a, .inr (ci, fs))) (hc : vwCl[ci]? = some (Cn, T, N)) (k : Nat) (hk : k < N) (hlink : Cond.fieldLink own index ref (T k).2.1 (T k).2.2.1 ∈ WS) (hsame : (T k).1 = ref) (hfin : (T k).2.2.2 = false) (hty1 : ty0 k = .int) {v : Int32} (hl : k < fs.length) {α τ : Type} {res : α} {B : τ → Option α} {t0 : τ} (wf : τ → va_W) (hd : decode cc pc = .ok (.putfield index, 3)) (hp : pc + 3 = pc') (h0 : mlet t0 B = some res) (hw : w.set q0 (a, .inr (ci, fs.set k (.int v))) = wf t0) (K : ∀ t : τ, B t = some res → jW x nL kc ks pc' lv st (wf t)) : jW x nL kc ks pc lv (.int v :: .ref a :: st) w :=
  fun H locs ls hP hD hS h => va_put (D := jD x) (ci := ci) (ty := .int) C.1.1 C.1.2.1 C.1.2.2.2.2 hin ty0 hty hnm C.1.2.2.2.1 C.2.1 hP hD hS q0 he hc k hk (C.1.2.2.2.2 _ hlink) (fun _ h9 => by rw [← hsame]; exact h9) hfin (by rw [hty k hk, hty1]) rfl rfl hl hd (fun H1 locs1 hP1 hD1 hS1 => by rw [hw] at hP1 hD1; subst hp; exact K t0 h0 H1 locs1 ls hP1 hD1 hS1 h)
theorem j_iald (C : jC x cc nL own) {α : Type} {res : α} {B : Int32 → Option α} {a n : Nat} {cA : ClassId} {f : Nat → Int32} {i : Int32} (q0 t0 : Nat) (ha : w[q0]? = some (a, .inl (cA, n, .inl f))) (ht : (jT x)[t0]? = some (cA, .int)) (hd : decode cc pc = .ok (.iaload, 1)) (hp : pc + 1 = pc') (h : mrd n f i B = some res) (K : ∀ v : Int32, B v = some res → jW x nL kc ks pc' lv (.int v :: st) w) : jW x nL kc ks pc lv (.int i :: .ref a :: st) w :=
  fun H locs ls hP hD hS hl => va_iald C.1.1 C.1.2.1 C.2.1 hP q0 t0 ha ht (mrd_some h).1 hd (by subst hp; exact K _ (mrd_some h).2 H locs ls hP hD hS hl)
theorem j_lald (C : jC x cc nL own) {α : Type} {res : α} {B : Int64 → Option α} {a n : Nat} {cA : ClassId} {f : Nat → Int64} {i : Int32} (q0 t0 : Nat) (ha : w[q0]? = some (a, .inl (cA, n, .inr (.inl f)))) (ht : (jT x)[t0]? = some (cA, .long)) (hd : decode cc pc = .ok (.laload, 1)) (hp : pc + 1 = pc') (h : mrd n f i B = some res) (K : ∀ v : Int64, B v = some res → jW x nL kc ks pc' lv (.long v :: st) w) : jW x nL kc ks pc lv (.int i :: .ref a :: st) w :=
  fun H locs ls hP hD hS hl => va_lald C.1.1 C.1.2.1 C.2.1 hP q0 t0 ha ht (mrd_some h).1 hd (by subst hp; exact K _ (mrd_some h).2 H locs ls hP hD hS hl)
theorem j_iast (C : jC x cc nL own) {α τ : Type} {res : α} {B : τ → Option α} {t0 : τ} {a n : Nat} {cA : ClassId} {f : Nat → Int32} {i v : Int32} (wf : τ → va_W) (q0 ty0 : Nat) (ha : w[q0]? = some (a, .inl (cA, n, .inl f))) (ht : (jT x)[ty0]? = some (cA, .int)) (hd : decode cc pc = .ok (.iastore, 1)) (hp : pc + 1 = pc') (h : mck n i (mlet t0 B) = some res) (hw : w.set q0 (a, .inl (cA, n, .inl (upd f i.toNatClampNeg v))) = wf t0) (K : ∀ t : τ, B t = some res → jW x nL kc ks pc' lv st (wf t)) : jW x nL kc ks pc lv (.int v :: .int i :: .ref a :: st) w :=
  fun H locs ls hP hD hS hl => va_iast C.1.1 C.1.2.1 C.2.1 hP hD hS q0 ty0 ha ht (mck_some h).1 hd (fun H1 locs1 hP1 hD1 hS1 => by rw [hw] at hP1 hD1; subst hp; exact K t0 (mck_some h).2 H1 locs1 ls hP1 hD1 hS1 hl)
theorem j_last (C : jC x cc nL own) {α τ : Type} {res : α} {B : τ → Option α} {t0 : τ} {a n : Nat} {cA : ClassId} {f : Nat → Int64} {i : Int32} {v : Int64} (wf : τ → va_W) (q0 ty0 : Nat) (ha : w[q0]? = some (a, .inl (cA, n, .inr (.inl f)))) (ht : (jT x)[ty0]? = some (cA, .long)) (hd : decode cc pc = .ok (.lastore, 1)) (hp : pc + 1 = pc') (h : mck n i (mlet t0 B) = some res) (hw : w.set q0 (a, .inl (cA, n, .inr (.inl (vp_updL f i.toNatClampNeg v)))) = wf t0) (K : ∀ t : τ, B t = some res → jW x nL kc ks pc' lv st (wf t)) : jW x nL kc ks pc lv (.long v :: .int i :: .ref a :: st) w :=
  fun H locs ls hP hD hS hl => va_last C.1.1 C.1.2.1 C.2.1 hP hD hS q0 ty0 ha ht (mck_some h).1 hd (fun H1 locs1 hP1 hD1 hS1 => by rw [hw] at hP1 hD1; subst hp; exact K t0 (mck_some h).2 H1 locs1 ls hP1 hD1 hS1 hl)
theorem j_alen (C : jC x cc nL own) {a : Nat} {cA : ClassId} {y : vp_A} (q0 t0 : Nat) (ha : w[q0]? = some (a, .inl (cA, y))) {ty : FieldType} (ht : (jT x)[t0]? = some (cA, ty)) {v : Int32} (hv : Int32.ofNat y.1 = v) (hd : decode cc pc = .ok (.arraylength, 1)) (hp : pc + 1 = pc') (K : jW x nL kc ks pc' lv (.int v :: st) w) : jW x nL kc ks pc lv (.ref a :: st) w :=
  fun H locs ls hP hD hS hl => va_alen C.1.1 C.1.2.1 C.2.1 hP q0 t0 ha ht hv hd (by subst hp; exact K H locs ls hP hD hS hl)
/-- the contract of a method that returns v, over the worlds w0 and w1 (its cells, and what else is told) -/
def jM (l : Launch) (y : MethodName) (ws : List Cond) (rm : Room) (D : va_G) (tys : List (ClassId × FieldType)) (av : List Value) (w0 : va_W) (v : Option Value) (w1 : va_W) : Prop :=
  ∀ sz : Nat, Met l y ws rm (va_Pc av (fun U => U.heap.size = sz ∧ va_P D vwCl w0 U.heap ∧ va_K D vwCl tys U ∧ va_D (fun _ => True) w0 ∧ jN U)) (fun _ st oc t => oc = .returned v ∧ va_P D vwCl w1 t.heap ∧ va_D (va_A w0 sz) w1 ∧ va_F (va_A w0 sz) st t) rm.cells rm.slots (va_A w0 sz)
/-- the end that a body owes -/
def jE (x : JX) (kc ks : Nat) (v : Option Value) (w1 : va_W) : Prop :=
  jQ x = MQ (jb x) (fun _ st oc t => oc = .returned v ∧ va_P (jD x) vwCl w1 t.heap ∧ va_D (jA x) w1 ∧ va_F (jA x) st t) (ja x) (js x) kc ks (jA x)
theorem j_iret (C : jC x cc nL own) {v : Int32} (E : jE x kc ks (some (.int v)) w) (hr : (jt x).sig.returnType = some .int) (hd : decode cc pc = .ok (.ireturn, 1)) : jW x nL kc ks pc lv [.int v] w := by
  intro H locs ls hP hD hS hl
  rw [E]
  exact W.iret C.1.1 C.1.2.1 hr (fun t ht hW => ⟨rfl, by rw [ht]; exact hP, hD, hS.F ht⟩) hS.2.2 hd C.2.2.2.1
theorem j_zret (C : jC x cc nL own) {v : Int32} {ty : FieldType} (E : jE x kc ks (some (.int v)) w) (hr : (jt x).sig.returnType = some ty) (hn : narrow ty (.int v) = .int v) (hd : decode cc pc = .ok (.ireturn, 1)) : jW x nL kc ks pc lv [.int v] w := by
  intro H locs ls hP hD hS hl
  rw [E]
  exact W.zret C.1.1 C.1.2.1 hr hn (fun t ht hW => ⟨rfl, by rw [ht]; exact hP, hD, hS.F ht⟩) hS.2.2 hd C.2.2.2.1
theorem j_vret (C : jC x cc nL own) (E : jE x kc ks none w) (hr : (jt x).sig.returnType = none) (hd : decode cc pc = .ok (.return_, 1)) : jW x nL kc ks pc lv [] w := by
  intro H locs ls hP hD hS hl
  rw [E]
  exact W.vret C.1.1 C.1.2.1 hr (fun t ht hW => ⟨rfl, by rw [ht]; exact hP, hD, hS.F ht⟩) hS.2.2 hd C.2.2.2.1
/-- from a body to its contract -/
theorem j_of {l : Launch} {y : MethodName} {ws : List Cond} {rm : Room} {D : va_G} {tys : List (ClassId × FieldType)} {av : List Value} {w0 w1 : va_W} {v : Option Value} {bytes : ByteArray} {maxL : Nat} {ret : Option FieldType}
    (hy : plainName y.cls = true) (hw : ws = Cond.code y bytes maxL ret :: WS) (hav : (lg_sl av).length ≤ maxL) (hlv : lv_args 0 av = lv)
    (body : ∀ x : JX, jl x = l → jD x = D → jT x = tys → jR x = rm → jC x bytes maxL y.cls → (jt x).sig.returnType = ret → ((jt x).name = y.name) → jE x rm.cells rm.slots v w1 → jW x maxL 0 0 0 lv [] w0) : jM l y ws rm D tys av w0 v w1 := by
  intro sz
  refine Met.ofW hy hw ?_
  intro p e s m args below meth c s₁ B hml hv
  obtain ⟨rfl, hsz, hP, hK, hD0, hN⟩ := hv
  subst hsz
  have hlv' := lv_entry av (n := maxL) hav
  rw [hlv] at hlv'
  rw [lg_entry_eq]
  refine body ((p, l, e, (headSpec ws rm).room, s), (m, av.toArray, below, meth, c), (D, tys, va_A w0 s.heap.size, MQ below (fun _ st oc t => oc = .returned v ∧ va_P D vwCl w1 t.heap ∧ va_D (va_A w0 s.heap.size) w1 ∧ va_F (va_A w0 s.heap.size) st t) av.toArray s rm.cells rm.slots (va_A w0 s.heap.size))) rfl rfl rfl rfl ⟨⟨B.exec, B.bytes, hml, findClass_of_methodNamed B.named, fun z hz => atoms_spec (ws := ws) B.pre z (by rw [hw]; exact List.mem_cons_of_mem _ hz)⟩, hK, fun q h => Or.inr h, B.notSynchronized, hN⟩ B.returns (name_of_methodNamed B.named B.method).1 rfl s.heap [] _ hP (hD0.self) va_S.rf hlv'
theorem j_frame {A0 : Nat → Prop} {w0 : va_W} {H0 H : Heap} {locs : List Loc} (hD : va_D A0 w0) (hS : va_S A0 H0 H locs) (hA : ∀ q, H0.size ≤ q → A0 q) : ∀ q, va_A w0 H.size q → A0 q := by
  intro q h
  rcases h with ⟨k, e, hk⟩ | h
  · exact hD.2 k (q, e) hk
  · exact hA q (Nat.le_trans hS.1 h)
/-- behind a call -/
theorem j_run (C : jC x cc nL own) {rest : List Value} {v : Option Value} {w1 : va_W} {mc ms : Nat}
    (hr : ∀ (H : Heap) (locs : List Loc) (ls : Array Slot), va_P (jD x) vwCl w H → va_D (jA x) w → va_S (jA x) (js x).heap H locs → lv_has ls nL lv →
      va_Run (jp x) (jl x) (je x) (jR x) (js x) (jm x) (ja x) (jb x) (jt x) (jc x) H locs kc ks mc ms (F0 (jm x) pc ls st) rest (fun st0 oc t => oc = .returned v ∧ va_P (jD x) vwCl w1 t.heap ∧ va_D (va_A w H.size) w1 ∧ va_F (va_A w H.size) st0 t) (va_A w H.size))
    (K : jW x nL (kc + mc) (ks + ms) (pc + 3) lv (v.toList ++ rest) w1) : jW x nL kc ks pc lv st w := by
  intro H locs ls hP hD hS hl T hT X
  obtain ⟨v', st₀, t, T', L, h0, X', hL, e1, e2, ⟨hv, hP1, hD1, hF⟩, go⟩ := hr H locs ls hP hD hS hl T hT X
  cases hv
  have hfr := j_frame hD hS C.2.2.1
  have hS1 : va_S (jA x) (js x).heap T'.heap (locs ++ L) := by
    refine ⟨?_, ?_, ?_⟩
    · rw [e1]; exact Nat.le_trans hS.1 (by rw [← h0]; exact hF.1)
    · intro q hq hn
      have hq1 : q < H.size := Nat.lt_of_lt_of_le hq hS.1
      rw [e1, hF.2 q (by rw [h0]; exact hq1) (fun h => hn (hfr q h)), h0]
      exact hS.2.1 q hq hn
    · intro z hz
      rcases List.mem_append.mp hz with h | h
      · exact hS.2.2 z h
      · exact hfr _ (hL z h)
  obtain ⟨t2, a1, b1⟩ := K T'.heap (locs ++ L) ls (by rw [e1]; exact hP1) (hD1.weaken (fun _ q _ hq => hfr _ hq)) hS1 hl T' rfl X'
  exact ⟨t2, go t2 a1, b1⟩
theorem j_pre {l : Launch} {D : va_G} {tys : List (ClassId × FieldType)} {av : List Value} {w0 : va_W} {sz : Nat} : FrameBlind (va_Pc av (fun U => U.heap.size = sz ∧ va_P D vwCl w0 U.heap ∧ va_K D vwCl tys U ∧ va_D (fun _ => True) w0 ∧ jN U)) := fun a U g mk q => by
  obtain ⟨q0, q1, qP, qK, qD, qN⟩ := q
  exact ⟨q0, q1, qP, va_K.moved (u := U) (U := U.calling g mk a) (Vm.Alike.refl U.vm) qK, qD, jN.same (s := U) (U := U.calling g mk a) rfl qN⟩
theorem j_at (C : jC x cc nL own) {av : List Value} {H : Heap} (hP : va_P (jD x) vwCl w H) (hD : va_D (jA x) w) : ∀ U : State, U.heap = H → (js x).WarmedH U.vm → va_Pc av (fun U => U.heap.size = H.size ∧ va_P (jD x) vwCl w U.heap ∧ va_K (jD x) vwCl (jT x) U ∧ va_D (fun _ => True) w ∧ jN U) av.toArray U :=
  fun U hU hW => ⟨rfl, by rw [hU], by rw [hU]; exact hP, va_K.moved hW.alike C.2.1, hD.weaken (fun _ _ _ _ => trivial), C.2.2.2.2.warm hW⟩
theorem j_callS (C : jC x cc nL own) {rm0 : Room} (hR : jR x = rm0) {y : MethodName} {bytes : ByteArray} {maxL n index : Nat} {ret : Option FieldType} {rm : Room} {As rest : List Value} {v : Option Value} {w1 : va_W} (hM : jM (jl x) y (Cond.code y bytes maxL ret :: WS) rm (jD x) (jT x) (As) w v w1) (kf : Cond.code y bytes maxL ret ∈ WS ∧ Cond.initialized y.cls ∈ WS ∧ (y.cls ≠ "java/lang/invoke/MethodHandle" ∧ y.cls ≠ "java/lang/invoke/VarHandle" ∧ (parseMethodDescriptor y.desc).map (fun d => d.parameters.length) = some n)) (hrm : rm.frames + 1 ≤ rm0.frames ∧ 8 + (maxL + 11) + rm.locals ≤ rm0.locals) (hlk : Cond.methodLink own index y ∈ WS) (hs : Cond.static y ∈ WS) (hn : As.length = n) (hst : st = As.reverse ++ rest) (hW : (rest.map fun v => v.category).sum ≤ 8) (hf : kc ≤ rm0.cells ∧ ks ≤ rm0.slots) (h0 : rm.cells = 0 ∧ rm.slots = 0) (hd : decode cc pc = .ok (.invokestatic index, 3)) (hp : pc + 3 = pc') {st1 : List Value} (hs1 : v.toList ++ rest = st1) (K : jW x nL kc ks pc' lv st1 w1) : jW x nL kc ks pc lv (st) w := by
  subst hp
  refine j_run C (fun H locs ls hP hD hS hl => ?_) (mc := rm.cells) (ms := rm.slots) (v := v) (rest := rest) (by rw [h0.1, h0.2, hs1]; exact K)
  exact va_runS C.1 (hM H.size) ⟨callB_of n C.1.2.2.2.2 (ws_good (fun z hz => (List.mem_cons.mp hz).elim (fun e => by rw [e]; exact kf.1) (fun h => h))) rfl rfl rfl (C.1.2.2.2.2 _ kf.2.1) (C.1.2.2.2.2 _ hlk) kf.2.2 (by rw [hR]; exact hrm), C.1.2.2.2.2 _ hs⟩ ⟨j_pre (l := jl x), j_at C hP hD⟩ rfl hn hl.1 hst (lv_room (m := jm x) (pc := pc) (ls := ls) (rest := st) hW) hd (by rw [hR, h0.1, h0.2]; exact hf)
theorem j_callSN (C : jC x cc nL own) {rm0 : Room} (hR : jR x = rm0) {y : MethodName} {bytes : ByteArray} {maxL n index : Nat} {ret : Option FieldType} {rm : Room} {As rest : List Value} {v : Option Value} {w1 : va_W} {host : String} (hM : jM (jl x) y (Cond.code y bytes maxL ret :: WS) rm (jD x) (jT x) (As) w v w1) (kf : Cond.code y bytes maxL ret ∈ WS ∧ Cond.initialized y.cls ∈ WS ∧ (y.cls ≠ "java/lang/invoke/MethodHandle" ∧ y.cls ≠ "java/lang/invoke/VarHandle" ∧ (parseMethodDescriptor y.desc).map (fun d => d.parameters.length) = some n)) (hrm : rm.frames + 1 ≤ rm0.frames ∧ 8 + (maxL + 11) + rm.locals ≤ rm0.locals) (hlk : Cond.methodLinkNest own index y host ∈ NWS) (hs : Cond.static y ∈ WS) (hn : As.length = n) (hst : st = As.reverse ++ rest) (hW : (rest.map fun v => v.category).sum ≤ 8) (hf : kc ≤ rm0.cells ∧ ks ≤ rm0.slots) (h0 : rm.cells = 0 ∧ rm.slots = 0) (hd : decode cc pc = .ok (.invokestatic index, 3)) (hp : pc + 3 = pc') {st1 : List Value} (hs1 : v.toList ++ rest = st1) (K : jW x nL kc ks pc' lv st1 w1) : jW x nL kc ks pc lv (st) w := by
  subst hp
  refine j_run C (fun H locs ls hP hD hS hl => ?_) (mc := rm.cells) (ms := rm.slots) (v := v) (rest := rest) (by rw [h0.1, h0.2, hs1]; exact K)
  exact va_runSN C.1 (hM H.size) ⟨va_cnB n C.1.2.2.2.2 (ws_good (fun z hz => (List.mem_cons.mp hz).elim (fun e => by rw [e]; exact kf.1) (fun h => h))) rfl rfl rfl (C.2.2.2.2 _ hlk) (C.1.2.2.2.2 _ kf.2.1) kf.2.2 (by rw [hR]; exact hrm), C.1.2.2.2.2 _ hs, trivial⟩ ⟨j_pre (l := jl x), j_at C hP hD⟩ rfl hn hl.1 hst (lv_room (m := jm x) (pc := pc) (ls := ls) (rest := st) hW) hd (by rw [hR, h0.1, h0.2]; exact hf)
theorem j_callV (C : jC x cc nL own) {rm0 : Room} (hR : jR x = rm0) {y : MethodName} {bytes : ByteArray} {maxL n index : Nat} {ret : Option FieldType} {rm : Room} {As rest : List Value} {v : Option Value} {w1 : va_W} {Cn : String} {b ci : Nat} {T : u_T} {N : Nat} {fs : List Value} (hM : jM (jl x) y (Cond.code y bytes maxL ret :: WS) rm (jD x) (jT x) (.ref b :: As) w v w1) (kf : Cond.code y bytes maxL ret ∈ WS ∧ Cond.initialized y.cls ∈ WS ∧ (y.cls ≠ "java/lang/invoke/MethodHandle" ∧ y.cls ≠ "java/lang/invoke/VarHandle" ∧ (parseMethodDescriptor y.desc).map (fun d => d.parameters.length) = some n)) (hrm : rm.frames + 1 ≤ rm0.frames ∧ 8 + (maxL + 11) + rm.locals ≤ rm0.locals) (hlk : Cond.methodLink own index y ∈ WS) (hi : Cond.instanceMethod y ∈ WS) (hs : Cond.selects Cn y y ∈ WS) (q0 : Nat) (hc : vwCl[ci]? = some (Cn, T, N)) (he : w[q0]? = some (b, .inr (ci, fs))) (hn : As.length = n) (hst : st = As.reverse ++ .ref b :: rest) (hW : (rest.map fun v => v.category).sum ≤ 8) (hf : kc ≤ rm0.cells ∧ ks ≤ rm0.slots) (h0 : rm.cells = 0 ∧ rm.slots = 0) (hd : decode cc pc = .ok (.invokevirtual index, 3)) (hp : pc + 3 = pc') {st1 : List Value} (hs1 : v.toList ++ rest = st1) (K : jW x nL kc ks pc' lv st1 w1) : jW x nL kc ks pc lv (st) w := by
  subst hp
  refine j_run C (fun H locs ls hP hD hS hl => ?_) (mc := rm.cells) (ms := rm.slots) (v := v) (rest := rest) (by rw [h0.1, h0.2, hs1]; exact K)
  exact va_runV C.1 (hM H.size) ⟨callB_of n C.1.2.2.2.2 (ws_good (fun z hz => (List.mem_cons.mp hz).elim (fun e => by rw [e]; exact kf.1) (fun h => h))) rfl rfl rfl (C.1.2.2.2.2 _ kf.2.1) (C.1.2.2.2.2 _ hlk) kf.2.2 (by rw [hR]; exact hrm), C.1.2.2.2.2 _ hi, C.1.2.2.2.2 _ hs⟩ ⟨j_pre (l := jl x), va_recv C.2.1 hP (ci := ci) (q0 := q0) hc he, j_at C hP hD⟩ rfl hn hl.1 hst (lv_room (m := jm x) (pc := pc) (ls := ls) (rest := st) hW) hd (by rw [hR, h0.1, h0.2]; exact hf)
theorem j_callVN (C : jC x cc nL own) {rm0 : Room} (hR : jR x = rm0) {y : MethodName} {bytes : ByteArray} {maxL n index : Nat} {ret : Option FieldType} {rm : Room} {As rest : List Value} {v : Option Value} {w1 : va_W} {Cn : String} {b ci : Nat} {T : u_T} {N : Nat} {fs : List Value} {host : String} (hM : jM (jl x) y (Cond.code y bytes maxL ret :: WS) rm (jD x) (jT x) (.ref b :: As) w v w1) (kf : Cond.code y bytes maxL ret ∈ WS ∧ Cond.initialized y.cls ∈ WS ∧ (y.cls ≠ "java/lang/invoke/MethodHandle" ∧ y.cls ≠ "java/lang/invoke/VarHandle" ∧ (parseMethodDescriptor y.desc).map (fun d => d.parameters.length) = some n)) (hrm : rm.frames + 1 ≤ rm0.frames ∧ 8 + (maxL + 11) + rm.locals ≤ rm0.locals) (hlk : Cond.methodLinkNest own index y host ∈ NWS) (hi : Cond.instanceMethod y ∈ WS) (hs : Cond.selects Cn y y ∈ WS) (q0 : Nat) (hc : vwCl[ci]? = some (Cn, T, N)) (he : w[q0]? = some (b, .inr (ci, fs))) (hn : As.length = n) (hst : st = As.reverse ++ .ref b :: rest) (hW : (rest.map fun v => v.category).sum ≤ 8) (hf : kc ≤ rm0.cells ∧ ks ≤ rm0.slots) (h0 : rm.cells = 0 ∧ rm.slots = 0) (hd : decode cc pc = .ok (.invokevirtual index, 3)) (hp : pc + 3 = pc') {st1 : List Value} (hs1 : v.toList ++ rest = st1) (K : jW x nL kc ks pc' lv st1 w1) : jW x nL kc ks pc lv (st) w := by
  subst hp
  refine j_run C (fun H locs ls hP hD hS hl => ?_) (mc := rm.cells) (ms := rm.slots) (v := v) (rest := rest) (by rw [h0.1, h0.2, hs1]; exact K)
  exact va_runVN C.1 (hM H.size) ⟨va_cnB n C.1.2.2.2.2 (ws_good (fun z hz => (List.mem_cons.mp hz).elim (fun e => by rw [e]; exact kf.1) (fun h => h))) rfl rfl rfl (C.2.2.2.2 _ hlk) (C.1.2.2.2.2 _ kf.2.1) kf.2.2 (by rw [hR]; exact hrm), C.1.2.2.2.2 _ hi, C.1.2.2.2.2 _ hs⟩ ⟨j_pre (l := jl x), va_recv C.2.1 hP (ci := ci) (q0 := q0) hc he, j_at C hP hD⟩ rfl hn hl.1 hst (lv_room (m := jm x) (pc := pc) (ls := ls) (rest := st) hW) hd (by rw [hR, h0.1, h0.2]; exact hf)
theorem j_mmin (C : jC x cc nL own) {rm0 : Room} (hR : jR x = rm0) {index : Nat} {a b : Int32} {α : Type} {res : α} {B : Int32 → Option α} (hlk : Cond.methodLink own index Lib.Math.min.name ∈ WS) (hs : Cond.static Lib.Math.min.name ∈ WS) (hini : Cond.initialized "java/lang/Math" ∈ WS) (hcode : Cond.code Lib.Math.min.name Lib.Math.min.code 2 (some .int) ∈ WS) (hfr : 1 ≤ rm0.frames) (hlo : (st.map fun v => v.category).sum + 13 ≤ rm0.locals) (hc : kc ≤ rm0.cells) (hk : ks ≤ rm0.slots) (hd : decode cc pc = .ok (.invokestatic index, 3)) (hp : pc + 3 = pc') (h : mlet (if b < a then b else a) B = some res) (K : ∀ v : Int32, B v = some res → jW x nL kc ks pc' lv (.int v :: st) w) : jW x nL kc ks pc lv (.int b :: .int a :: st) w :=
  fun H locs ls hP hD hS hl => va_mmin C.1.1 C.1.2.1 (by rw [C.1.2.2.1]; exact hl.1.symm) C.1.2.2.2.1 (C.1.2.2.2.2 _ hlk) (C.1.2.2.2.2 _ hs) (C.1.2.2.2.2 _ hini) (C.1.2.2.2.2 _ hcode) (by rw [hR]; exact hfr) (by rw [hR]; exact hlo) (by rw [hR]; exact hc) (by rw [hR]; exact hk) hd (by subst hp; exact K _ h H locs ls hP hD hS hl)
def mzr {α : Type} (v : Int32) (M : Option α) : Option α := if v = 0 ∨ v = 1 then M else none
theorem mzr_some {α : Type} {v : Int32} {M : Option α} {r : α} (h : mzr v M = some r) : narrow .boolean (.int v) = .int v ∧ M = some r := by
  unfold mzr at h
  split at h
  · rename_i hc
    refine ⟨?_, h⟩
    rcases hc with rfl | rfl <;> rfl
  · cases h
def FU : Nat := 100000
/-- an array filled -/
def fil (n : Nat) (v : Int32) (f : Nat → Int32) : Nat → Int32 := fun j => if j < n then v else f j
theorem fil_0 (v : Int32) (f : Nat → Int32) : fil 0 v f = f := by funext j; simp [fil]
theorem fil_s {k : Nat} (hk : k < 2 ^ 31) (v : Int32) (f : Nat → Int32) : upd (fil k v f) (nI k).toNatClampNeg v = fil (k + 1) v f := by
  funext j
  rw [nI_clamp hk]
  simp only [upd, fil]
  by_cases h1 : j = k
  · rw [if_pos h1, if_pos (by omega)]
  · rw [if_neg h1]
    by_cases h2 : j < k
    · rw [if_pos h2, if_pos (by omega)]
    · rw [if_neg h2, if_neg (by omega)]
theorem j_copy (C : jC x cc nL own) {rm0 : Room} (hR : jR x = rm0) {index : Nat} (hlk : Cond.methodLink own index arraycopyName ∈ WS) (hnat : Cond.native arraycopyName ∈ WS) (hstat : Cond.static arraycopyName ∈ WS) (hini : Cond.initialized "java/lang/System" ∈ WS) (q0 q1 : Nat) {a0 a1 : Nat} {cA : ClassId} {n0 n1 : Nat} {f g : Nat → Int32} (ha0 : w[q0]? = some (a0, .inl (cA, n0, .inl f))) (ha1 : w[q1]? = some (a1, .inl (cA, n1, .inl g))) (hT : (jT x)[0]? = some (cA, .int))
    {sp dp n : Int32} (h1 : ¬ sp < 0) (h2 : ¬ dp < 0) (h3 : ¬ n < 0) (h4 : sp.toNatClampNeg + n.toNatClampNeg ≤ n0) (h5 : dp.toNatClampNeg + n.toNatClampNeg ≤ n1) (hfr : 1 ≤ rm0.frames) (hlo : (st.map fun v => v.category).sum + (nativeFrameWords "java/lang/System" "arraycopy" 5 + 11) ≤ rm0.locals) (hd : decode cc pc = .ok (.invokestatic index, 3)) (hp : pc + 3 = pc') {α τ : Type} {res : α} {B : τ → Option α} {t0 : τ} (wf : τ → va_W) (h : mlet t0 B = some res) (hw : w.set q1 (a1, .inl (cA, n1, .inl (va_cpy f g sp.toNatClampNeg dp.toNatClampNeg n.toNatClampNeg))) = wf t0) (K : ∀ t : τ, B t = some res → jW x nL kc ks pc' lv st (wf t)) : jW x nL kc ks pc lv (.int n :: .int dp :: .ref a1 :: .int sp :: .ref a0 :: st) w :=
  fun H locs ls hP hD hS hl => va_copyi C.1.1 C.1.2.1 (by rw [C.1.2.2.1]; exact hl.1.symm) C.1.2.2.2.1 (C.1.2.2.2.2 _ hlk) (C.1.2.2.2.2 _ hnat) (C.1.2.2.2.2 _ hstat) (C.1.2.2.2.2 _ hini) C.2.1 hP hD hS q0 q1 0 0 ha0 ha1 hT hT rfl h1 h2 h3 h4 h5 (fun i hi => rfl) (by rw [hR]; exact hfr) (by rw [hR]; exact hlo) hd (fun H1 locs1 hP1 hD1 hS1 => by rw [hw] at hP1 hD1; subst hp; exact K t0 h H1 locs1 ls hP1 hD1 hS1 hl)
end JROWS
