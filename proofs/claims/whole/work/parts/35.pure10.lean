theorem keep_e {σ : SP} {e : Nat} (he : e < 60) (hec : g_ec σ = nI e) (k a b c : Int32) : ∃ σ', m_P_keep k a b c σ = some σ' ∧ g_ec σ' = nI (e + 1) ∧ g_rc σ' = g_rc σ ∧ g_row σ' = upd (upd (upd (upd (g_row σ) (4 * e) k) (4 * e + 1) a) (4 * e + 2) b) (4 * e + 3) c := by
  obtain ⟨row, ec, rest⟩ := σ
  have hec : ec = nI e := hec
  subst hec
  unfold m_P_keep
  simp only [mlet_e]
  show ∃ σ', mck 240 (nI e * (4 : Int32)) (mck 240 (nI e * (4 : Int32) + nI 1) (mck 240 (nI e * (4 : Int32) + nI 2) (mck 240 (nI e * (4 : Int32) + nI 3) (some ((upd (upd (upd (upd row (nI e * (4 : Int32)).toNatClampNeg k) (nI e * (4 : Int32) + nI 1).toNatClampNeg a) (nI e * (4 : Int32) + nI 2).toNatClampNeg b) (nI e * (4 : Int32) + nI 3).toNatClampNeg c, nI e + 1, rest) : SP))))) = some σ' ∧ _
  rw [ixr, ixr, ixr, ixr0, mck_nI (by omega) (by decide), mck_nI (by omega) (by decide), mck_nI (by omega) (by decide), mck_nI (by omega) (by decide), nI_clamp (by omega), nI_clamp (by omega), nI_clamp (by omega), nI_clamp (by omega), nI_1]
  exact ⟨_, rfl, rfl, rfl, rfl⟩
theorem row_lo {f : Nat → Int32} {e i : Nat} {k a b c : Int32} (h : i < 4 * e) : upd (upd (upd (upd f (4 * e) k) (4 * e + 1) a) (4 * e + 2) b) (4 * e + 3) c i = f i := by
  rw [upd_ne _ _ (by omega), upd_ne _ _ (by omega), upd_ne _ _ (by omega), upd_ne _ _ (by omega)]
theorem row_at {f : Nat → Int32} {e : Nat} {k a b c : Int32} : upd (upd (upd (upd f (4 * e) k) (4 * e + 1) a) (4 * e + 2) b) (4 * e + 3) c (4 * e) = k ∧ upd (upd (upd (upd f (4 * e) k) (4 * e + 1) a) (4 * e + 2) b) (4 * e + 3) c (4 * e + 1) = a ∧ upd (upd (upd (upd f (4 * e) k) (4 * e + 1) a) (4 * e + 2) b) (4 * e + 3) c (4 * e + 2) = b ∧ upd (upd (upd (upd f (4 * e) k) (4 * e + 1) a) (4 * e + 2) b) (4 * e + 3) c (4 * e + 3) = c := by
  refine ⟨?_, ?_, ?_, ?_⟩
  · rw [upd_ne _ _ (by omega), upd_ne _ _ (by omega), upd_ne _ _ (by omega), upd_same]
  · rw [upd_ne _ _ (by omega), upd_ne _ _ (by omega), upd_same]
  · rw [upd_ne _ _ (by omega), upd_same]
  · rw [upd_same]
abbrev IAE : String := "java/lang/IllegalArgumentException"
abbrev UOE : String := "java/lang/UnsupportedOperationException"
abbrev NSE : String := "java/util/NoSuchElementException"
abbrev ISE : String := "java/lang/IllegalStateException"
/-- both answer alike, and stand alike behind it -/
def Agree (x1 x2 : String) (p : Option (Int32 × String × SP)) (q : Option (Int32 × SM)) : Prop := ∃ r ex σ' rM μ' e', p = some (r, ex, σ') ∧ q = some (rM, μ') ∧ Inv σ' μ' e' ∧ ((ex = "" ∧ g_mcode μ' = 0 ∧ rM = r) ∨ (ex = x1 ∧ g_mcode μ' = 1) ∨ (ex = x2 ∧ g_mcode μ' = 2))
theorem event_ok {σ : SP} {μ : SM} {e : Nat} (I : Inv σ μ e) (k a b c : Int32) : Agree IAE UOE (m_P_event k a b c σ) (m_M_event k a b c μ) := by
  obtain ⟨r1, p1, q1⟩ := e_isInRange k a b c
  obtain ⟨r2, p2, q2⟩ := e_isSaid k a b c
  unfold m_P_event m_M_event
  rw [p1, p2, mb1_e, mb1_e]
  by_cases ok : EvOK k a b c
  · have z1 : r1 = 1 := q1.elim (fun h => h.1) (fun h => absurd ok h.2)
    have z2 : r2 = 1 := q2.elim (fun h => h.1) (fun h => absurd ok h.2)
    subst z1
    subst z2
    have I0 := I
    obtain ⟨h60, hec, hev, hrc, hat, hrep⟩ := I0
    rw [if_neg (show ¬ ((1 : Int32) = 0) by decide), if_neg (show ¬ ((1 : Int32) = 0) by decide), hec, hev]
    by_cases he : e < 60
    · rw [if_pos (show nI e < 60 from nI_lt (b := 60) he (by decide)), if_neg (show ¬ nI e = 60 from fun z => by have := (nI_eq (b := 60) (by omega) (by decide)).mp z; omega)]
      obtain ⟨σ3, hr3, R3, K3⟩ := I.replay (Nat.le_refl e)
      rw [hr3, mb1_e, Mev_go he hev]
      obtain ⟨r, c1, c2, -⟩ := can_eq (μ := u_mcode μ 0) (t := e) (by omega) R3 ok
      rw [c2, mb1_e]
      have hcp : RelS σ3 (u_mev (cpM e (e + 1) 20 10 4 100 (mkM μ e k a b c)) (nI (e + 1))) (e + 1) := cp_rel (μ := mkM μ e k a b c) R3
      rcases step_eq (t := e + 1) (by omega) hcp ok with ⟨s1, s2⟩ | ⟨σ6, μ6, s1, s2, s3, R6, K6, KM6, SL6⟩
      · have hr0 : r = 0 := by
          unfold m_H_take at s1
          rw [c1, mb1_e] at s1
          by_cases z : r = 0
          · exact z
          · rw [if_neg z] at s1
            cases hh : m_H_happen k a b c σ3 with
            | none => rw [hh] at s1; cases s1
            | some v => rw [hh, mb1_e] at s1; exact absurd s1 (by intro w; cases w)
        rw [s1, mb2_e, if_pos rfl, mlet_e, if_pos hr0]
        refine ⟨_, _, _, _, _, e, rfl, rfl, ?_, Or.inl ⟨rfl, rfl, rfl⟩⟩
        obtain ⟨k1, k2, k3⟩ := K3
        have I3 := Inv.keepP ⟨k1, k2, k3⟩ I
        obtain ⟨j1, j2, j3, j4, j5, j6⟩ := I3
        exact ⟨j1, j2, j3, by show g_rc σ3 + 1 = g_mrf μ + 1; rw [j4], j5, j6⟩
      · have hr1 : ¬ r = 0 := by
          intro z
          unfold m_H_take at s1
          rw [c1, mb1_e, if_pos z] at s1
          exact absurd s1 (by intro w; cases w)
        have hec6 : g_ec σ6 = nI e := by rw [K6.2.1, K3.2.1]; exact hec
        obtain ⟨σ8, t1, t2, t3, t4⟩ := keep_e he hec6 k a b c
        rw [s1, mb2_e, if_neg (by decide), t1, mb1_e, if_neg hr1, nI_1, copy_eq (by omega) (by omega) (by omega), mb1_e]
        have hq : m_M_apply (g_mev (cpM e (e + 1) 20 10 4 100 (mkM μ e k a b c)) + 1) k a b c (u_mev (cpM e (e + 1) 20 10 4 100 (mkM μ e k a b c)) (g_mev (cpM e (e + 1) 20 10 4 100 (mkM μ e k a b c)) + 1)) = some μ6 := by
          have z : g_mev (cpM e (e + 1) 20 10 4 100 (mkM μ e k a b c)) + 1 = nI (e + 1) := by
            show g_mev μ + 1 = nI (e + 1)
            rw [hev, nI_1]
          rw [z]
          exact s3
        rw [hq, mb1_e]
        refine ⟨_, _, _, _, _, e + 1, rfl, rfl, ?_, Or.inl ⟨rfl, KM6.1, rfl⟩⟩
        have hrow : g_row σ6 = g_row σ := K6.1.trans K3.1
        rw [hrow] at t4
        obtain ⟨m1, m2, m3, m4, m5, m6, m7⟩ := KM6
        have m4 : g_mkd μ6 = upd (g_mkd μ) (nI e).toNatClampNeg k := m4
        have m5 : g_mxa μ6 = upd (g_mxa μ) (nI e).toNatClampNeg a := m5
        have m6 : g_mxb μ6 = upd (g_mxb μ) (nI e).toNatClampNeg b := m6
        have m7 : g_mxc μ6 = upd (g_mxc μ) (nI e).toNatClampNeg c := m7
        rw [nI_clamp (show e < 2 ^ 31 by omega)] at m4 m5 m6 m7
        refine ⟨by omega, t2, m2, ?_, fun i hi => ?_, fun n hn => ?_⟩
        · rw [t3, K6.2.2, K3.2.2, hrc]
          exact m3.symm
        · unfold EvAt
          rw [t4, m4, m5, m6, m7]
          by_cases hie : i = e
          · subst hie
            obtain ⟨x1, x2, x3, x4⟩ := row_at (f := g_row σ) (e := i) (k := k) (a := a) (b := b) (c := c)
            rw [x1, x2, x3, x4, upd_same, upd_same, upd_same, upd_same]
            exact ⟨rfl, rfl, rfl, rfl, ok⟩
          · have hlt : i < e := by omega
            rw [row_lo (by omega), row_lo (by omega), row_lo (by omega), row_lo (by omega), upd_ne _ _ hie, upd_ne _ _ hie, upd_ne _ _ hie, upd_ne _ _ hie]
            exact hat i hlt
        · rcases Nat.lt_or_ge e n with hne | hne
          · have hn1 : n = e + 1 := by omega
            subst hn1
            intro σx hx
            obtain ⟨σ1, g1, R1, K1⟩ := hrep e (Nat.le_refl e) σx (fun i hi => by rw [hx i (by omega), t4]; exact row_lo hi)
            have hcp1 : RelS σ1 (u_mev (cpM e (e + 1) 20 10 4 100 (mkM μ e k a b c)) (nI (e + 1))) (e + 1) := cp_rel (μ := mkM μ e k a b c) R1
            rcases step_eq (t := e + 1) (by omega) hcp1 ok with ⟨-, v2⟩ | ⟨σ7, μ7, v1, v2, v3, R7, K7, -, -⟩
            · rw [s2] at v2; exact absurd v2 (by decide)
            · have hμ : μ7 = μ6 := Option.some.inj (v3.symm.trans s3)
              subst hμ
              obtain ⟨x1, x2, x3, x4⟩ := row_at (f := g_row σ) (e := e) (k := k) (a := a) (b := b) (c := c)
              refine ⟨σ7, rep_step g1 (r := 1) ?_, R7, K1.tr K7⟩
              rw [takeKept_e he, K1.1, hx (4 * e) (by omega), hx (4 * e + 1) (by omega), hx (4 * e + 2) (by omega), hx (4 * e + 3) (by omega), t4, x1, x2, x3, x4, v1, mb2_e]
              exact mzr_1 _
          · have h1 : RepOK (g_row σ8) μ n := (hrep n (by omega)).row (fun i hi => by rw [t4]; exact row_lo (by omega))
            exact h1.slot (SlotEq.tr (μ' := u_mev (cpM e (e + 1) 20 10 4 100 (mkM μ e k a b c)) (nI (e + 1))) (cp_other (t := e) (s := e + 1) (r := n) (by omega) (mkM μ e k a b c)) (SL6 n (by omega)))
    · rw [if_neg (show ¬ nI e < 60 from nI_nlt (b := 60) (by omega) (by omega)), if_pos (show nI e = 60 from by rw [show e = 60 by omega]; rfl), Mev_no _ _ _ _ _ _ (by decide)]
      exact ⟨_, _, _, _, _, e, rfl, rfl, I.code 2, Or.inr (Or.inr ⟨rfl, rfl⟩)⟩
  · have z1 : r1 = 0 := q1.elim (fun h => absurd h.2 ok) (fun h => h.1)
    have z2 : r2 = 0 := q2.elim (fun h => absurd h.2 ok) (fun h => h.1)
    subst z1
    subst z2
    rw [if_pos rfl, if_pos rfl, Mev_no _ _ _ _ _ _ (by decide)]
    exact ⟨_, _, _, _, _, e, rfl, rfl, I.code 1, Or.inr (Or.inl ⟨rfl, rfl⟩)⟩
