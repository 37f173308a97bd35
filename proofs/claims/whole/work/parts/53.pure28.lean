/-! promise: the class tries every subset -/
theorem countFree_e (σ : SP) : ∃ fr, m_F_countFree σ = some (u_fr σ fr) ∧ ∀ d, d < 6 → fr d = nI (zcs (frU (g_pl σ) (g_gv σ) (g_gd σ) (nI d)) 20) := by
  unfold m_F_countFree
  have LL := lp_inv (body := fun s : Int32 × SP => b_F_countFree_2 s.1 s.2) 6 (fun k s => ∃ fr, s = (nI k, u_fr σ fr) ∧ ∀ d, d < k → fr d = nI (zcs (frU (g_pl σ) (g_gv σ) (g_gd σ) (nI d)) 20)) (fun s => ∃ fr, s = (nI 6, u_fr σ fr) ∧ ∀ d, d < 6 → fr d = nI (zcs (frU (g_pl σ) (g_gv σ) (g_gd σ) (nI d)) 20)) ?_ ?_ (s := ((0 : Int32), σ)) ⟨g_fr σ, rfl, fun d h => absurd h (Nat.not_lt_zero d)⟩ (n := FU) (FU_lt (by decide))
  · obtain ⟨s, p1, fr, rfl, p2⟩ := LL
    rw [p1, mb2_e]
    exact ⟨fr, rfl, p2⟩
  · rintro k s hk ⟨fr, rfl, q⟩
    show ∃ s', b_F_countFree_2 (nI k) (u_fr σ fr) = _ ∧ _
    unfold b_F_countFree_2
    rw [if_neg (show ¬ (6 : Int32) ≤ nI k from nI_ge (b := 6) hk (by decide)), freeUnits_e, mb1_e, mck_nI hk (by decide), mlet_e, nI_clamp (by omega), nI_1, cnt_cs]
    refine ⟨_, rfl, upd fr k (nI (zcs (frU (g_pl σ) (g_gv σ) (g_gd σ) (nI k)) 20)), rfl, fun d zhd => ?_⟩
    by_cases e : d = k
    · subst e; exact upd_same _ _ _
    · rw [upd_ne _ _ e]; exact q d (by omega)
  · rintro s ⟨fr, rfl, q⟩
    refine ⟨_, ?_, fr, rfl, q⟩
    show b_F_countFree_2 (nI 6) (u_fr σ fr) = _
    unfold b_F_countFree_2
    rw [if_pos (show (6 : Int32) ≤ nI 6 from nI_le (Nat.le_refl _) (by decide))]
def OrdP (σ : SP) (m : Nat) (w g dd : Nat → Nat) : Prop := ∀ o, o < 10 → m.testBit o = true → g_wa σ o = nI (w o) ∧ g_gt σ o = nI (g o) ∧ g_gw σ o = nI (dd o) ∧ g o ≤ w o ∧ w o < 10 ∧ dd o < 6
def opA (m : Nat) (w g : Nat → Nat) (o : Nat) : Bool := m.testBit o && decide (g o < w o)
theorem cs_sub {b c : Nat → Bool} : ∀ k, (∀ o, o < k → b o = true → c o = true) → zcs b k ≤ zcs c k := by
  intro k h
  rw [cs_sm, cs_sm]
  exact sm_mono k h
theorem choose_step {σ : SP} {la go : Nat → Int32} {m k c w g d : Nat} (hm : m < 1024) (hk : k < 10) (hc : c < 6) (hb : m.testBit k = true) (h1 : g_wa σ k = nI w) (h2 : g_gt σ k = nI g) (h3 : g_gw σ k = nI d) (hw : w < 10) (hg : g ≤ w) : b_F_chooseOpen_7 (nI m) (nI k) (u_sz (u_go (u_la σ la) go) (nI c)) = if g < w then some (.inl (nI (k + 1), u_sz (u_go (u_la σ (upd la c (nI (w - g)))) (upd go c (nI d))) (nI (c + 1)))) else some (.inl (nI (k + 1), u_sz (u_go (u_la σ la) go) (nI c))) := by
  obtain ⟨s1, s2, s3, s4, s5, s6, s7, s8, s9, s10, s11, s12, s13, s14, s15, s16, s17⟩ := σ
  have o := e_isOpen (σ := (s1, s2, s3, s4, s5, s6, s7, s8, s9, s10, s11, la, go, s14, s15, nI c, s17)) hk h1 h2 hw hg
  unfold b_F_chooseOpen_7
  dsimp only [g_sz, g_wa, g_gt, g_gw, g_la, g_go, u_sz, u_go, u_la] at *
  rw [if_neg (show ¬ (10 : Int32) ≤ nI k from nI_ge (b := 10) hk (by decide)), if_neg (show ¬ (6 : Int32) ≤ nI c from nI_ge (b := 6) hc (by decide)), isInSet_e hm hk, mb1_b2i, if_pos hb, o, mb1_b2i]
  by_cases z : g < w
  · rw [if_pos z, if_pos z, mrd_nI hk (by decide), mrd_nI hk (by decide), mck_nI hc (by decide), mlet_e]
    dsimp only
    rw [mrd_nI hk (by decide), mck_nI hc (by decide), mlet_e, mlet_e, nI_clamp (by omega), h1, h2, h3, pk_sub hg, nI_1, nI_1]
  · rw [if_neg z, if_neg z, nI_1]
theorem choose_skip {σ : SP} {la go : Nat → Int32} {m k c : Nat} (hm : m < 1024) (hk : k < 10) (hc : c < 6) (hb : ¬ m.testBit k = true) : b_F_chooseOpen_7 (nI m) (nI k) (u_sz (u_go (u_la σ la) go) (nI c)) = some (.inl (nI (k + 1), u_sz (u_go (u_la σ la) go) (nI c))) := by
  obtain ⟨s1, s2, s3, s4, s5, s6, s7, s8, s9, s10, s11, s12, s13, s14, s15, s16, s17⟩ := σ
  unfold b_F_chooseOpen_7
  dsimp only [g_sz, g_wa, g_gt, g_gw, g_la, g_go, u_sz, u_go, u_la] at *
  rw [if_neg (show ¬ (10 : Int32) ≤ nI k from nI_ge (b := 10) hk (by decide)), if_neg (show ¬ (6 : Int32) ≤ nI c from nI_ge (b := 6) hc (by decide)), isInSet_e hm hk, mb1_b2i, if_neg hb, nI_1]
theorem choose_full {σ : SP} {la go : Nat → Int32} {m k c : Nat} (hk : k < 10) (hc : c = 6) : b_F_chooseOpen_7 (nI m) (nI k) (u_sz (u_go (u_la σ la) go) (nI c)) = some (.inr (nI k, u_sz (u_go (u_la σ la) go) (nI c))) := by
  obtain ⟨s1, s2, s3, s4, s5, s6, s7, s8, s9, s10, s11, s12, s13, s14, s15, s16, s17⟩ := σ
  unfold b_F_chooseOpen_7
  dsimp only [g_sz, g_wa, g_gt, g_gw, g_la, g_go, u_sz, u_go, u_la] at *
  rw [if_neg (show ¬ (10 : Int32) ≤ nI k from nI_ge (b := 10) hk (by decide)), hc, if_pos (show (6 : Int32) ≤ nI 6 from Int32.le_refl _)]
theorem choose_e {σ : SP} {m : Nat} {w g dd : Nat → Nat} (hm : m < 1024) (h6 : zcs (fun p => m.testBit p) 10 ≤ 6) (D : OrdP σ m w g dd) : ∃ la go, m_F_chooseOpen (nI m) σ = some (u_sz (u_go (u_la σ la) go) (nI (zcs (opA m w g) 10))) ∧ ∀ o, o < 10 → opA m w g o = true → la (zcs (opA m w g) o) = nI (w o - g o) ∧ go (zcs (opA m w g) o) = nI (dd o) := by
  have c6 : zcs (opA m w g) 10 ≤ 6 := Nat.le_trans (cs_sub 10 (fun o _ h => by
    have h : (m.testBit o && decide (g o < w o)) = true := h
    rw [Bool.and_eq_true] at h
    exact h.1)) h6
  unfold m_F_chooseOpen
  rw [mlet_e]
  have LL := lp_inv2 (body := fun s : Int32 × SP => b_F_chooseOpen_7 (nI m) s.1 s.2) 10 (fun k s => ∃ la go, s = (nI k, u_sz (u_go (u_la σ la) go) (nI (zcs (opA m w g) k))) ∧ ∀ o, o < k → opA m w g o = true → la (zcs (opA m w g) o) = nI (w o - g o) ∧ go (zcs (opA m w g) o) = nI (dd o)) (fun s => ∃ x la go, s = (x, u_sz (u_go (u_la σ la) go) (nI (zcs (opA m w g) 10))) ∧ ∀ o, o < 10 → opA m w g o = true → la (zcs (opA m w g) o) = nI (w o - g o) ∧ go (zcs (opA m w g) o) = nI (dd o)) ?_ ?_ (s := ((0 : Int32), u_sz σ 0)) ⟨g_la σ, g_go σ, rfl, fun d h => absurd h (Nat.not_lt_zero d)⟩ (n := FU) (FU_lt (by decide))
  · obtain ⟨s, p1, x, la, go, rfl, p2⟩ := LL
    rw [p1, mb2_e]
    exact ⟨la, go, rfl, p2⟩
  · rintro k s hk ⟨la, go, rfl, q⟩
    have ck := cs_mono (opA m w g) (show k ≤ 10 by omega)
    show (∃ s', b_F_chooseOpen_7 (nI m) (nI k) (u_sz (u_go (u_la σ la) go) (nI (zcs (opA m w g) k))) = _ ∧ _) ∨ ∃ t, b_F_chooseOpen_7 (nI m) (nI k) (u_sz (u_go (u_la σ la) go) (nI (zcs (opA m w g) k))) = _ ∧ _
    by_cases full : zcs (opA m w g) k = 6
    · rw [choose_full hk full]
      refine Or.inr ⟨_, rfl, nI k, la, go, ?_, fun o ho hA => ?_⟩
      · rw [show zcs (opA m w g) 10 = zcs (opA m w g) k by omega]
      · by_cases c : o < k
        · exact q o c hA
        · have a := cs_mono (opA m w g) (show k ≤ o by omega)
          have b := cs_mono (opA m w g) (show o + 1 ≤ 10 by omega)
          rw [cs_t hA] at b
          omega
    · have skip : ¬ opA m w g k = true → ∀ o, o < k + 1 → opA m w g o = true → la (zcs (opA m w g) o) = nI (w o - g o) ∧ go (zcs (opA m w g) o) = nI (dd o) := by
        intro nA o ho hA
        have : o ≠ k := fun e => nA (e ▸ hA)
        exact q o (by omega) hA
      by_cases hb : m.testBit k = true
      · obtain ⟨d1, d2, d3, d4, d5, d6⟩ := D k hk hb
        rw [choose_step hm hk (by omega) hb d1 d2 d3 d5 d4]
        by_cases hg : g k < w k
        · have hA : opA m w g k = true := by unfold opA; rw [hb, decide_eq_true hg]; rfl
          rw [if_pos hg, ← cs_t hA]
          refine Or.inl ⟨_, rfl, upd la (zcs (opA m w g) k) (nI (w k - g k)), upd go (zcs (opA m w g) k) (nI (dd k)), rfl, fun o ho hAo => ?_⟩
          by_cases e : o = k
          · subst e; rw [upd_same, upd_same]; exact ⟨rfl, rfl⟩
          · have a := cs_mono (opA m w g) (show o + 1 ≤ k by omega)
            rw [cs_t hAo] at a
            rw [upd_ne _ _ (by omega), upd_ne _ _ (by omega)]
            exact q o (by omega) hAo
        · have nA : ¬ opA m w g k = true := fun z => hg (by
            have z : (m.testBit k && decide (g k < w k)) = true := z
            rw [Bool.and_eq_true, decide_eq_true_iff] at z
            exact z.2)
          rw [if_neg hg, ← cs_f nA]
          exact Or.inl ⟨_, rfl, la, go, rfl, skip nA⟩
      · have nA : ¬ opA m w g k = true := fun z => hb (by
          have z : (m.testBit k && decide (g k < w k)) = true := z
          rw [Bool.and_eq_true] at z
          exact z.1)
        rw [choose_skip hm hk (by omega) hb, ← cs_f nA]
        exact Or.inl ⟨_, rfl, la, go, rfl, skip nA⟩
  · rintro s ⟨la, go, rfl, q⟩
    refine ⟨_, ?_, nI 10, la, go, rfl, q⟩
    show b_F_chooseOpen_7 (nI m) (nI 10) _ = _
    unfold b_F_chooseOpen_7
    rw [if_pos (show (10 : Int32) ≤ nI 10 from nI_le (Nat.le_refl _) (by decide))]
theorem sm_le (p : Nat → Bool) (x : Nat → Nat) {i j : Nat} (h : i ≤ j) : zsm p x i ≤ zsm p x j := by
  induction j with
  | zero => have : i = 0 := by omega
            subst this; exact Nat.le_refl _
  | succ j ih =>
    by_cases e : i = j + 1
    · subst e; exact Nat.le_refl _
    · exact Nat.le_trans (ih (by omega)) (Nat.le_add_right _ _)
def zbd (s d : Nat) (h : Nat → Nat) (i : Nat) : Bool := s.testBit i && decide (h i = d)
/-- the class's chosen orders and free units -/
def zChosen (σ : SP) (n : Nat) (y h f : Nat → Nat) : Prop := n ≤ 6 ∧ g_sz σ = nI n ∧ (∀ i, i < n → g_la σ i = nI (y i) ∧ g_go σ i = nI (h i) ∧ y i < 10 ∧ h i < 6) ∧ ∀ d, d < 6 → g_fr σ d = nI (f d) ∧ f d ≤ 20
theorem enough_e {σ : SP} {n s : Nat} {y h f : Nat → Nat} (C : zChosen σ n y h f) (hs : s < 2 ^ n) : ∃ le, (m_F_isEnoughFor (nI s) σ = some (1, u_le σ le) ∧ ∀ d, d < 6 → zsm (zbd s d h) y n ≤ f d) ∨ (m_F_isEnoughFor (nI s) σ = some (0, u_le σ le) ∧ ∃ d, d < 6 ∧ f d < zsm (zbd s d h) y n) := by
  obtain ⟨h6, csz, cy, cf⟩ := C
  have hs64 : s < 1024 := Nat.lt_of_lt_of_le hs (Nat.le_trans (Nat.pow_le_pow_right (n := 2) (by decide) h6) (by decide))
  unfold m_F_isEnoughFor
  rw [mlet_e]
  have LL := lp_inv2 (body := fun t : Int32 × SP => b_F_isEnoughFor_17 (nI s) t.1 t.2) n (fun k t => ∃ le, t = (nI k, u_le σ le) ∧ ∀ d, d < 6 → zsm (zbd s d h) y k ≤ f d ∧ le d = nI (f d - zsm (zbd s d h) y k)) (fun t => ∃ x le, (t = (1, x, u_le σ le) ∧ ∀ d, d < 6 → zsm (zbd s d h) y n ≤ f d) ∨ (t = (0, x, u_le σ le) ∧ ∃ d, d < 6 ∧ f d < zsm (zbd s d h) y n)) ?_ ?_ (s := ((0 : Int32), u_le σ (va_cpy (g_fr σ) (g_le σ) (0 : Int32).toNatClampNeg (0 : Int32).toNatClampNeg (6 : Int32).toNatClampNeg))) ⟨_, rfl, fun d zhd => ?_⟩ (n := FU) (FU_lt (by omega))
  · obtain ⟨t, p1, x, le, ⟨rfl, p2⟩ | ⟨rfl, p2⟩⟩ := LL
    · exact ⟨le, Or.inl ⟨by rw [p1, mb3_e, if_neg (by decide)], p2⟩⟩
    · exact ⟨le, Or.inr ⟨by rw [p1, mb3_e, if_pos rfl], p2⟩⟩
  · rintro k t hk ⟨le, rfl, q⟩
    have z0 : g_sz (u_le σ le) = nI n := csz
    show (∃ t', b_F_isEnoughFor_17 (nI s) (nI k) (u_le σ le) = _ ∧ _) ∨ ∃ t', b_F_isEnoughFor_17 (nI s) (nI k) (u_le σ le) = _ ∧ _
    by_cases hb : s.testBit k = true
    · obtain ⟨y1, y2, y3, y4⟩ := cy k hk
      obtain ⟨q1, q2⟩ := q (h k) y4
      obtain ⟨f1, f2⟩ := cf (h k) y4
      have z1 : g_go (u_le σ le) k = nI (h k) := y2
      have z2 : g_le (u_le σ le) (h k) = nI (f (h k) - zsm (zbd s (h k) h) y k) := q2
      have z3 : g_la (u_le σ le) k = nI (y k) := y1
      have B : b_F_isEnoughFor_17 (nI s) (nI k) (u_le σ le) = if 0 ≤ nI (f (h k) - zsm (zbd s (h k) h) y k) - nI (y k) then some (.inl (nI (k + 1), u_le σ (upd le (h k) (nI (f (h k) - zsm (zbd s (h k) h) y k) - nI (y k))))) else some (.inr (0, nI k, u_le σ (upd le (h k) (nI (f (h k) - zsm (zbd s (h k) h) y k) - nI (y k))))) := by
        generalize hR : nI (f (h k) - zsm (zbd s (h k) h) y k) - nI (y k) = R
        have z4 : g_go (u_le (u_le σ le) (upd (g_le (u_le σ le)) (h k) R)) k = nI (h k) := y2
        have z5 : g_le (u_le (u_le σ le) (upd (g_le (u_le σ le)) (h k) R)) (h k) = R := upd_same _ _ _
        unfold b_F_isEnoughFor_17
        rw [z0, if_neg (show ¬ nI n ≤ nI k from nI_ge hk (by omega)), isInSet_e hs64 (by omega), mb1_b2i, nI_1, if_pos hb, mrd_nI (show k < 6 by omega) (by decide), z1, mrd_nI y4 (by decide), z2, mrd_nI (show k < 6 by omega) (by decide), z3, mck_nI y4 (by decide), mlet_e, nI_clamp (by omega), hR, mrd_nI (show k < 6 by omega) (by decide), z4, mrd_nI y4 (by decide), z5]
      rw [B]
      have bk : zbd s (h k) h k = true := by unfold zbd; rw [hb, decide_eq_true rfl]; rfl
      have s1 : zsm (zbd s (h k) h) y (k + 1) = zsm (zbd s (h k) h) y k + y k := by show _ + _ = _; rw [if_pos bk]
      by_cases c : y k ≤ f (h k) - zsm (zbd s (h k) h) y k
      · rw [pk_sub c, if_pos (nI_pos' (by omega))]
        refine Or.inl ⟨_, rfl, _, rfl, fun d zhd => ?_⟩
        by_cases e : d = h k
        · subst e
          rw [upd_same, s1]
          exact ⟨by omega, congrArg nI (by omega)⟩
        · have nb : ¬ zbd s d h k = true := by
            unfold zbd
            rw [Bool.and_eq_true, decide_eq_true_iff]
            exact fun z => e z.2.symm
          have s2 : zsm (zbd s d h) y (k + 1) = zsm (zbd s d h) y k := by show _ + _ = _; rw [if_neg nb]; rfl
          rw [upd_ne _ _ e, s2]
          exact q d zhd
      · rw [if_neg (Int32.not_le.mpr (pk_sneg (by omega) (by omega)))]
        refine Or.inr ⟨_, rfl, _, _, Or.inr ⟨rfl, h k, y4, ?_⟩⟩
        have := sm_le (zbd s (h k) h) y (show k + 1 ≤ n by omega)
        omega
    · have B : b_F_isEnoughFor_17 (nI s) (nI k) (u_le σ le) = some (.inl (nI (k + 1), u_le σ le)) := by
        unfold b_F_isEnoughFor_17
        rw [z0, if_neg (show ¬ nI n ≤ nI k from nI_ge hk (by omega)), isInSet_e hs64 (by omega), mb1_b2i, nI_1, if_neg hb]
      rw [B]
      refine Or.inl ⟨_, rfl, le, rfl, fun d zhd => ?_⟩
      have nb : ¬ zbd s d h k = true := by
        unfold zbd
        rw [Bool.and_eq_true]
        exact fun z => hb z.1
      have s2 : zsm (zbd s d h) y (k + 1) = zsm (zbd s d h) y k := by show _ + _ = _; rw [if_neg nb]; rfl
      rw [s2]
      exact q d zhd
  · rintro t ⟨le, rfl, q⟩
    have z0 : g_sz (u_le σ le) = nI n := csz
    refine ⟨(1, nI n, u_le σ le), ?_, nI n, le, Or.inl ⟨rfl, fun d zhd => (q d zhd).1⟩⟩
    show b_F_isEnoughFor_17 (nI s) (nI n) (u_le σ le) = _
    unfold b_F_isEnoughFor_17
    rw [z0, if_pos (Int32.le_refl _)]
  · refine ⟨Nat.zero_le _, ?_⟩
    show va_cpy (g_fr σ) (g_le σ) 0 0 6 d = nI (f d - 0)
    rw [pk_cpy_in (by omega) (by omega), show 0 + (d - 0) = d by omega, (cf d zhd).1]
    rfl
def zEn (n : Nat) (y h f : Nat → Nat) (s : Nat) : Prop := ∀ d, d < 6 → zsm (zbd s d h) y n ≤ f d
def zpop (s : Nat) : Nat := zcs (fun p => s.testBit p) 10
theorem subsets_e {σ : SP} {n : Nat} {y h f : Nat → Nat} (C : zChosen σ n y h f) : ∃ v x le, lp (fun t : Int32 × Int32 × SP => b_F_most_16 t.1 t.2.1 t.2.2) FU ((0 : Int32), (0 : Int32), σ) = some (nI v, x, u_le σ le) ∧ (∀ s, s < 2 ^ n → zEn n y h f s → zpop s ≤ v) ∧ (v = 0 ∨ ∃ s, s < 2 ^ n ∧ zEn n y h f s ∧ zpop s = v) := by
  have h6 := C.1
  have h64 : 2 ^ n ≤ 64 := Nat.pow_le_pow_right (n := 2) (by decide) h6
  have LL := lp_inv (body := fun t : Int32 × Int32 × SP => b_F_most_16 t.1 t.2.1 t.2.2) (2 ^ n) (fun k t => ∃ v le, t = (nI v, nI k, u_le σ le) ∧ v ≤ 10 ∧ (∀ s, s < k → zEn n y h f s → zpop s ≤ v) ∧ (v = 0 ∨ ∃ s, s < k ∧ zEn n y h f s ∧ zpop s = v)) (fun t => ∃ v x le, t = (nI v, x, u_le σ le) ∧ (∀ s, s < 2 ^ n → zEn n y h f s → zpop s ≤ v) ∧ (v = 0 ∨ ∃ s, s < 2 ^ n ∧ zEn n y h f s ∧ zpop s = v)) ?_ ?_ (s := ((0 : Int32), (0 : Int32), σ)) ⟨0, g_le σ, rfl, by omega, fun s h => absurd h (Nat.not_lt_zero s), Or.inl rfl⟩ (n := FU) (FU_lt (by omega))
  · obtain ⟨t, p1, v, x, le, rfl, p2, p3⟩ := LL
    exact ⟨v, x, le, p1, p2, p3⟩
  · rintro s t hs ⟨v, le, rfl, q1, q2, q3⟩
    have z0 : g_sz (u_le σ le) = nI n := C.2.1
    have ps : m_JI_bitCount (nI s) = some (nI (zpop s)) := pop_tab s (by omega)
    have p10 : zpop s ≤ 10 := cs_le _ 10
    show ∃ t', b_F_most_16 (nI v) (nI s) (u_le σ le) = _ ∧ _
    unfold b_F_most_16
    rw [z0, shl_tab n (by omega), if_neg (nI_ge hs (by omega)), ps, mb1_e, nI_1]
    have up : ∀ v', v ≤ v' → (zEn n y h f s → zpop s ≤ v') → ∀ s', s' < s + 1 → zEn n y h f s' → zpop s' ≤ v' := by
      intro v' h1 h2 s' h3 h4
      by_cases e : s' = s
      · subst e; exact h2 h4
      · exact Nat.le_trans (q2 s' (by omega) h4) h1
    by_cases c : zpop s ≤ v
    · rw [if_pos (nI_le c (by omega))]
      refine ⟨_, rfl, v, le, rfl, q1, up v (Nat.le_refl _) (fun _ => c), ?_⟩
      rcases q3 with q3 | ⟨s', q3, q4⟩
      · exact Or.inl q3
      · exact Or.inr ⟨s', by omega, q4⟩
    · rw [if_neg (nI_ge (by omega) (by omega))]
      have C' : zChosen (u_le σ le) n y h f := C
      obtain ⟨le2, ⟨e1, e2⟩ | ⟨e1, d, e2, e3⟩⟩ := enough_e C' hs
      · rw [e1, mb2_e, if_neg (show ¬ (1 : Int32) = 0 by decide), mb1_e]
        exact ⟨_, rfl, zpop s, le2, rfl, p10, up _ (by omega) (fun _ => Nat.le_refl _), Or.inr ⟨s, by omega, e2, rfl⟩⟩
      · rw [e1, mb2_e, if_pos rfl]
        refine ⟨_, rfl, v, le2, rfl, q1, up v (Nat.le_refl _) (fun z => absurd (z d e2) (by omega)), ?_⟩
        rcases q3 with q3 | ⟨s', q3, q4⟩
        · exact Or.inl q3
        · exact Or.inr ⟨s', by omega, q4⟩
  · rintro t ⟨v, le, rfl, q1, q2, q3⟩
    have z0 : g_sz (u_le σ le) = nI n := C.2.1
    refine ⟨(nI v, nI (2 ^ n), u_le σ le), ?_, v, _, le, rfl, q2, q3⟩
    show b_F_most_16 (nI v) (nI (2 ^ n)) (u_le σ le) = _
    unfold b_F_most_16
    rw [z0, shl_tab n (by omega), if_pos (Int32.le_refl _)]
