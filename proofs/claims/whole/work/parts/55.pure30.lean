/-! promise, both sides -/
theorem told_data {σ : SP} {μ : SM} {e m : Nat} (he : e ≤ 60) (hev : g_mev μ = nI e) (R : RelS σ μ e) (h : ∀ v, v < 10 → m.testBit v = true → ztold σ v) : ∃ w g dd : Nat → Nat, OrdP σ m w g dd ∧ OrdM μ e m w g dd := by
  have X : ∀ o, o < 10 → m.testBit o = true → (g_wa σ o = nI (g_wa σ o).toNatClampNeg ∧ g_gt σ o = nI (g_gt σ o).toNatClampNeg ∧ g_gw σ o = nI (g_gw σ o).toNatClampNeg ∧ (g_gt σ o).toNatClampNeg ≤ (g_wa σ o).toNatClampNeg ∧ (g_wa σ o).toNatClampNeg < 10 ∧ (g_gw σ o).toNatClampNeg < 6) ∧ g_mwa μ (10 * e + o) = g_wa σ o ∧ g_mgt μ (10 * e + o) = g_gt σ o ∧ g_mog μ (10 * e + o) = g_gw σ o := by
    intro o ho hb
    rcases told_any he hev R (nI o) with ⟨t1, -⟩ | ⟨o', w, g, d, ho', eo, -, -, v0, v9, gv, d6, q1, q2, q3, q4, q5, q6⟩
    · have := h o ho hb
      unfold ztold at this
      rw [t1] at this
      exact absurd (Option.some.inj this) (by decide)
    · rw [nI_eq (by omega) (by omega)] at eo
      subst eo
      rw [q1, q2, q3, q4, q5, q6, nI_clamp (by omega), nI_clamp (by omega), nI_clamp (by omega)]
      exact ⟨⟨rfl, rfl, rfl, gv, v9, d6⟩, rfl, rfl, rfl⟩
  refine ⟨fun o => (g_wa σ o).toNatClampNeg, fun o => (g_gt σ o).toNatClampNeg, fun o => (g_gw σ o).toNatClampNeg, fun o ho hb => (X o ho hb).1, fun o ho hb => ?_⟩
  obtain ⟨⟨a1, a2, a3, a4, a5, a6⟩, b1, b2, b3⟩ := X o ho hb
  exact ⟨b1.trans a1, b2.trans a2, b3.trans a3, a4, a5, a6⟩
theorem most_e {σ : SP} {μ : SM} {e m : Nat} {w g dd : Nat → Nat} (he : e ≤ 60) (hev : g_mev μ = nI e) (R : RelS σ μ e) (hm : m < 1024) (h6 : zcs (fun p => m.testBit p) 10 ≤ 6) (DP : OrdP σ m w g dd) (DM : OrdM μ e m w g dd) : ∃ v σ', m_F_most (nI m) σ = some (nI v, σ') ∧ KeepP σ σ' ∧ lp (fun s : Int32 × Int32 => b_M_promise_96 (nI m) μ s.1 s.2) FU ((0 : Int32), (0 : Int32)) = some (nI v, nI 6) := by
  obtain ⟨fr, f1, f2⟩ := countFree_e σ
  have DP' : OrdP (u_fr σ fr) m w g dd := DP
  obtain ⟨la, go, c1, c2⟩ := choose_e hm h6 DP'
  have c6 : zcs (opA m w g) 10 ≤ 6 := Nat.le_trans (cs_sub 10 (fun o _ h => by
    have h : (m.testBit o && decide (g o < w o)) = true := h
    rw [Bool.and_eq_true] at h
    exact h.1)) h6
  have bitA : ∀ o, opA m w g o = true → m.testBit o = true := fun o z => by
    have z : (m.testBit o && decide (g o < w o)) = true := z
    rw [Bool.and_eq_true] at z
    exact z.1
  have C : zChosen (u_sz (u_go (u_la (u_fr σ fr) la) go) (nI (zcs (opA m w g) 10))) (zcs (opA m w g) 10) (fun i => (la i).toNatClampNeg) (fun i => (go i).toNatClampNeg) (fun d => zcs (frU (g_pl σ) (g_gv σ) (g_gd σ) (nI d)) 20) := by
    refine ⟨c6, rfl, fun i hi => ?_, fun d zhd => ⟨f2 d zhd, cs_le _ 20⟩⟩
    obtain ⟨o, o1, o2, o3⟩ := cs_inv (opA m w g) 10 i hi
    obtain ⟨l1, l2⟩ := c2 o o1 o2
    obtain ⟨-, -, -, d4, d5, d6⟩ := DP o o1 (bitA o o2)
    rw [o3] at l1 l2
    show la i = nI (la i).toNatClampNeg ∧ go i = nI (go i).toNatClampNeg ∧ (la i).toNatClampNeg < 10 ∧ (go i).toNatClampNeg < 6
    rw [l1, l2, nI_clamp (by omega), nI_clamp (by omega)]
    exact ⟨rfl, rfl, by omega, d6⟩
  obtain ⟨v, x, le, s1, s2, s3⟩ := subsets_e C
  obtain ⟨κ, k1, k2⟩ := fill_all (f := fun d => zcs (frU (g_pl σ) (g_gv σ) (g_gd σ) (nI d)) 20) he hev hm DM (fun d zhd => by
    have q := free_eq R (nI d)
    rw [cnt_cs, cnt_cs] at q
    have l1 := cs_le (frU (g_pl σ) (g_gv σ) (g_gd σ) (nI d)) 20
    have l2 := cs_le (frU (fun u => g_mpl μ (20 * e + u)) (fun u => g_mgv μ (20 * e + u)) (fun u => g_mgd μ (20 * e + u)) (nI d)) 20
    exact ((nI_eq (by omega) (by omega)).mp q).symm)
  have P := promise_eq (v := v) (fun o ho hb => (DP o ho hb).2.2.2.2.2) c6 (fun o ho hA => by
    obtain ⟨l1, l2⟩ := c2 o ho hA
    obtain ⟨-, -, -, d4, d5, d6⟩ := DP o ho (bitA o hA)
    show (la (zcs (opA m w g) o)).toNatClampNeg = _ ∧ (go (zcs (opA m w g) o)).toNatClampNeg = _
    rw [l1, l2, nI_clamp (by omega), nI_clamp (by omega)]
    exact ⟨rfl, rfl⟩) k2 s2 s3
  rw [← P] at k1
  refine ⟨v, u_le (u_sz (u_go (u_la (u_fr σ fr) la) go) (nI (zcs (opA m w g) 10))) le, ?_, ?_, k1⟩
  · unfold m_F_most
    rw [f1, mb1_e, c1, mb1_e, s1, mb3_e]
  · exact ⟨rfl, rfl, rfl⟩
theorem promise_ok {σ : SP} {μ : SM} {e : Nat} (I : Inv σ μ e) (a : Int32) : Agree1 NSE (m_P_promise a σ) (m_M_promise a μ) := by
  have I0 := I
  obtain ⟨h60, hec, hev, hrc, hat, hrep⟩ := I0
  obtain ⟨σ1, p1, R, K⟩ := I.replay (Nat.le_refl e)
  have J := Inv.keepP K I
  obtain ⟨m, hm, rfl⟩ := nI_toNat a
  unfold m_P_promise m_M_promise
  rw [hec, p1, mb1_e]
  have hi : ∀ v, 10 ≤ v → v < 32 → ¬ ztold σ1 v := fun v h1 h2 => not_told_hi h1 (by omega)
  have small : m < 1024 → ¬ nI m < 0 ∧ nI m >>> ((10 : Int32) &&& 31) = 0 := by
    intro h
    refine ⟨nI_pos (by omega), ?_⟩
    rw [pk_shrN (by omega) ((10 : Int32) &&& 31) 10 (by decide), show m / 2 ^ 10 = 0 by omega]
    rfl
  have neg : ∀ rr : Int32, Agree1 NSE (some (0, NSE, σ1)) (some (rr, u_mcode μ 1)) := fun rr => ⟨_, _, _, _, _, e, rfl, rfl, J.code 1, Or.inr ⟨rfl, rfl⟩⟩
  rcases areAll_e h60 hev R hm with ⟨t1, t2⟩ | ⟨t1, v, t2, t3, t4⟩
  · have lt : m < 1024 := by
      by_cases c : m < 1024
      · exact c
      · obtain ⟨i, i1, i2⟩ := Nat.exists_ge_and_testBit_of_ge_two_pow (n := 10) (x := m) (by omega)
        have i3 : i < 32 := bit_lt hm i2
        exact absurd (t2 i i3 i2) (hi i i1 i3)
    obtain ⟨z1, z2⟩ := small lt
    have all : ∀ v, v < 10 → m.testBit v = true → ztold σ1 v := fun v hv => t2 v (by omega)
    have c10 : zcs (fun p => m.testBit p) 10 ≤ 10 := cs_le _ 10
    rw [t1, mb1_e, if_neg (show ¬ (1 : Int32) = 0 by decide), pop_tab m lt, mb1_e, if_neg z1, if_pos z2]
    unfold k_M_promise_17 k_M_promise_74
    rw [mlet_e]
    obtain ⟨x, y, ⟨l1, -⟩ | ⟨-, v, l2, l3, l4⟩⟩ := look_e h60 hev R lt
    · rw [l1, mb3_e, if_pos (show g_mcode (u_mcode μ 0) ≤ 0 from Int32.le_refl _)]
      by_cases c : zcs (fun p => m.testBit p) 10 ≤ 6
      · rw [if_pos (show nI (zcs (fun p => m.testBit p) 10) ≤ 6 from nI_le (b := 6) c (by decide)), if_pos (show nI (zcs (fun p => m.testBit p) 10) ≤ 6 from nI_le (b := 6) c (by decide))]
        obtain ⟨w, g, dd, DP, DM⟩ := told_data h60 hev R all
        obtain ⟨v, σ', q1, q2, q3⟩ := most_e (μ := u_mcode μ 0) h60 hev R lt c DP DM
        rw [q1, mb2_e, q3, mb2_e]
        exact ⟨_, _, _, _, _, e, rfl, rfl, Inv.keepP q2 (J.code 0), Or.inl ⟨rfl, rfl, rfl⟩⟩
      · rw [if_neg (show ¬ nI (zcs (fun p => m.testBit p) 10) ≤ 6 from nI_ge (a := 6) (by omega) (by omega)), if_neg (show ¬ nI (zcs (fun p => m.testBit p) 10) ≤ 6 from nI_ge (a := 6) (by omega) (by omega))]
        exact ⟨_, _, _, _, _, e, rfl, rfl, J.code 0, Or.inl ⟨rfl, rfl, rfl⟩⟩
    · exact absurd (all v l2 l3) l4
  · rw [t1, mb1_e, if_pos rfl]
    by_cases lt : m < 1024
    · obtain ⟨z1, z2⟩ := small lt
      rw [if_neg z1, if_pos z2]
      unfold k_M_promise_17 k_M_promise_74
      rw [mlet_e]
      obtain ⟨x, y, ⟨-, l1⟩ | ⟨l1, -⟩⟩ := look_e h60 hev R lt
      · exact absurd (l1 v (bit_lt (k := 10) lt t3) t3) t4
      · rw [l1, mb3_e, if_neg (show ¬ g_mcode (u_mcode μ 1) ≤ 0 by show ¬ (1 : Int32) ≤ 0; decide)]
        exact neg _
    · rw [look_bad]
      by_cases n : nI m < 0
      · rw [if_pos n]; exact neg _
      · obtain ⟨j, j1, j2⟩ := nI_of n
        have ej : m = j := by
          have := congrArg (fun z : Int32 => z.toBitVec.toNat) j2
          have this : (nI m).toBitVec.toNat = (nI j).toBitVec.toNat := this
          rw [pk_tn hm, pk_tn (by omega)] at this
          exact this
        rw [if_neg n, pk_shrN (by omega) ((10 : Int32) &&& 31) 10 (by decide), if_neg (nI_ne0 (by omega) (by omega))]
        exact neg _
