/-! order -/
def frU (pl gv gd : Nat → Int32) (g : Int32) (u : Nat) : Bool := decide (¬ pl u = -1 ∧ gv u = -1 ∧ gd u = g)
theorem freeUnits_e (σ : SP) (g : Int32) : m_H_freeUnits g σ = some (cnt (frU (g_pl σ) (g_gv σ) (g_gd σ) g) 20) := by
  unfold m_H_freeUnits
  rw [lp_cnt 20 (frU (g_pl σ) (g_gv σ) (g_gd σ) g) ?_ ?_ (by decide), mb2_e]
  · intro k v hk
    show b_H_freeUnits_4 g σ v (nI k) = _
    unfold b_H_freeUnits_4
    rw [if_neg (show ¬ (20 : Int32) ≤ nI k from nI_ge (b := 20) hk (by decide)), e_isFree hk, mb1_b2i]
    simp only [mrd_nI hk (by decide : 20 < 2 ^ 31), nI_1]
    by_cases h1 : ¬ g_pl σ k = -1 ∧ g_gv σ k = -1
    · rw [if_pos h1]
      by_cases h2 : g_gd σ k = g
      · rw [if_pos h2, show frU (g_pl σ) (g_gv σ) (g_gd σ) g k = true from decide_eq_true ⟨h1.1, h1.2, h2⟩]
        simp
      · rw [if_neg h2, show frU (g_pl σ) (g_gv σ) (g_gd σ) g k = false from decide_eq_false (fun z => h2 z.2.2)]
        simp [i0]
    · rw [if_neg h1, show frU (g_pl σ) (g_gv σ) (g_gd σ) g k = false from decide_eq_false (fun z => h1 ⟨z.1, z.2.1⟩)]
      simp [i0]
  · intro v
    show b_H_freeUnits_4 g σ v (nI 20) = _
    unfold b_H_freeUnits_4
    rw [if_pos (show (20 : Int32) ≤ nI 20 from nI_le (Nat.le_refl _) (by decide))]
theorem freeOf_e {μ : SM} {e : Nat} (he : e ≤ 60) (hev : g_mev μ = nI e) (g : Int32) : m_M_freeOf g μ = some (cnt (frU (fun u => g_mpl μ (20 * e + u)) (fun u => g_mgv μ (20 * e + u)) (fun u => g_mgd μ (20 * e + u)) g) 20) := by
  unfold m_M_freeOf
  rw [lp_cnt 20 (frU (fun u => g_mpl μ (20 * e + u)) (fun u => g_mgv μ (20 * e + u)) (fun u => g_mgd μ (20 * e + u)) g) ?_ ?_ (by decide), mb2_e]
  · intro k v hk
    show b_M_freeOf_4 g μ v (nI k) = _
    unfold b_M_freeOf_4
    rw [if_neg (show ¬ (20 : Int32) ≤ nI k from nI_ge (b := 20) hk (by decide))]
    simp only [hev, ix20, mrd_nI (show 20 * e + k < 1240 by omega) (by decide : 1240 < 2 ^ 31), nI_1]
    by_cases h1 : g_mpl μ (20 * e + k) = -1
    · rw [if_pos h1, show frU (fun u => g_mpl μ (20 * e + u)) (fun u => g_mgv μ (20 * e + u)) (fun u => g_mgd μ (20 * e + u)) g k = false from decide_eq_false (fun z => z.1 h1)]
      rfl
    · rw [if_neg h1]
      by_cases h2 : g_mgv μ (20 * e + k) = -1
      · rw [if_pos h2]
        by_cases h3 : g_mgd μ (20 * e + k) = g
        · rw [if_pos h3, show frU (fun u => g_mpl μ (20 * e + u)) (fun u => g_mgv μ (20 * e + u)) (fun u => g_mgd μ (20 * e + u)) g k = true from decide_eq_true ⟨h1, h2, h3⟩]
          rfl
        · rw [if_neg h3, show frU (fun u => g_mpl μ (20 * e + u)) (fun u => g_mgv μ (20 * e + u)) (fun u => g_mgd μ (20 * e + u)) g k = false from decide_eq_false (fun z => h3 z.2.2)]
          rfl
      · rw [if_neg h2, show frU (fun u => g_mpl μ (20 * e + u)) (fun u => g_mgv μ (20 * e + u)) (fun u => g_mgd μ (20 * e + u)) g k = false from decide_eq_false (fun z => h2 z.2.1)]
        rfl
  · intro v
    show b_M_freeOf_4 g μ v (nI 20) = _
    unfold b_M_freeOf_4
    rw [if_pos (show (20 : Int32) ≤ nI 20 from nI_le (Nat.le_refl _) (by decide))]
theorem free_eq {σ : SP} {μ : SM} {e : Nat} (R : RelS σ μ e) (g : Int32) : cnt (frU (g_pl σ) (g_gv σ) (g_gd σ) g) 20 = cnt (frU (fun u => g_mpl μ (20 * e + u)) (fun u => g_mgv μ (20 * e + u)) (fun u => g_mgd μ (20 * e + u)) g) 20 := by
  refine cnt_congr (fun k hk => ?_)
  obtain ⟨e1, e2, e3, -⟩ := R.1 k hk
  refine decide_eq_decide.mpr ?_
  show _ ↔ ¬ g_mpl μ (20 * e + k) = -1 ∧ g_mgv μ (20 * e + k) = -1 ∧ g_mgd μ (20 * e + k) = g
  rw [← e1, ← e2]
  by_cases h : g_pl σ k = -1
  · simp [h]
  · rw [← (e3.resolve_left (fun z => h z.1)).2.1]
/-- told, at any number -/
theorem told_any {σ : SP} {μ : SM} {e : Nat} (he : e ≤ 60) (hev : g_mev μ = nI e) (R : RelS σ μ e) (a : Int32) : (m_H_isTold a σ = some 0 ∧ m_M_isOrder a μ = some 0) ∨ (∃ o w g d, o < 10 ∧ a = nI o ∧ m_H_isTold a σ = some 1 ∧ m_M_isOrder a μ = some 1 ∧ 0 < w ∧ w < 10 ∧ g ≤ w ∧ d < 6 ∧ g_wa σ o = nI w ∧ g_gt σ o = nI g ∧ g_gw σ o = nI d ∧ g_mwa μ (10 * e + o) = nI w ∧ g_mgt μ (10 * e + o) = nI g ∧ g_mog μ (10 * e + o) = nI d) := by
  by_cases h : Wi a 0 9
  · obtain ⟨o, ho, rfl⟩ := wi9 h
    obtain ⟨w1, w2, w, g, hw9, hgw, hw, hg, hd⟩ := R.2.1 o ho
    unfold m_M_isOrder
    rw [e_in, mb1_b2i, if_pos h, hev, ix10, mrd_nI (show 10 * e + o < 620 by omega) (by decide), e_isTold ho, ← w1, hw]
    rcases Nat.eq_zero_or_pos w with z | z
    · subst z
      exact Or.inl ⟨by rw [b2i_f (by decide)], by rw [if_pos (by decide)]⟩
    · obtain ⟨d1, d, d2, d3⟩ := hd.resolve_left (by omega)
      refine Or.inr ⟨o, w, g, d, ho, rfl, ?_, ?_, z, hw9, hgw, d2, hw, hg, d3, by rw [← w1, hw], ?_, ?_⟩
      · rw [b2i_t (show (0 : Int32) < nI w from nI_lt (a := 0) z (by omega))]
      · rw [if_neg (show ¬ nI w ≤ 0 from nI_nle z (by omega))]
      · rw [← w2, hg]
      · rw [← d1, d3]
  · refine Or.inl ⟨?_, ?_⟩
    · unfold m_H_isTold
      by_cases h1 : a < 0
      · rw [if_pos h1]
      · rw [if_neg h1]
        by_cases h2 : (10 : Int32) ≤ a
        · rw [if_pos h2]
        · exfalso
          apply h
          refine ⟨Int32.not_lt.mp h1, ?_⟩
          rw [Int32.le_iff_toInt_le] at h2 ⊢
          rw [show (10 : Int32).toInt = 10 by decide] at h2
          rw [show (9 : Int32).toInt = 9 by decide]
          omega
    · unfold m_M_isOrder
      rw [e_in, mb1_b2i, if_neg h]
theorem isFull_e {σ : SP} {o w g : Nat} (ho : o < 10) (hw : g_wa σ o = nI w) (hg : g_gt σ o = nI g) (hw0 : 0 < w) (hw9 : w < 10) (hgw : g ≤ w) : m_H_isFull (nI o) σ = some (b2i (¬ g < w)) := by
  unfold m_H_isFull
  rw [e_isTold ho, mb1_b2i, hw, if_pos (show (0 : Int32) < nI w from nI_lt (a := 0) hw0 (by omega)), mrd_nI ho (by decide), mrd_nI ho (by decide), hw, hg]
  by_cases h : g < w
  · rw [if_pos (nI_lt h (by omega)), b2i_f (fun z => z h)]
  · rw [if_neg (nI_nlt (by omega) (by omega)), b2i_t h]
theorem order_ok {σ : SP} {μ : SM} {e : Nat} (I : Inv σ μ e) (a w : Int32) : Agree NSE IAE (m_P_order a w σ) (m_M_order a w μ) := by
  have I0 := I
  obtain ⟨h60, hec, hev, hrc, hat, hrep⟩ := I0
  obtain ⟨σ1, p1, R, K⟩ := I.replay (Nat.le_refl e)
  have J := Inv.keepP K I
  unfold m_P_order m_M_order k_M_order_27
  rw [hec, p1, mb1_e]
  simp only [mlet_e]
  rcases told_any h60 hev R a with ⟨t1, t2⟩ | ⟨o, v, g, d, ho, rfl, t1, t2, v0, v9, gv, d6, q1, q2, q3, q4, q5, q6⟩
  · rw [t1, t2, mb1_e, mb1_e, if_pos rfl, if_pos rfl]
    exact ⟨_, _, _, _, _, e, rfl, if_neg (show ¬ (1 : Int32) ≤ 0 by decide), J.code 1, Or.inr (Or.inl ⟨rfl, rfl⟩)⟩
  · rw [t1, t2, mb1_e, mb1_e, if_neg (show ¬ ((1 : Int32) = 0) by decide), if_neg (show ¬ ((1 : Int32) = 0) by decide), e_in, mb1_b2i]
    by_cases h : Wi w 0 3
    · rw [if_pos h, if_pos (show g_mcode (u_mcode μ 0) ≤ 0 from Int32.le_refl _)]
      have hev' : g_mev (u_mcode μ 0) = nI e := hev
      have fin : ∀ r, Agree NSE IAE (some (r, "", σ1)) (some (r, u_mcode μ 0)) := fun r => ⟨_, _, _, _, _, e, rfl, rfl, J.code 0, Or.inl ⟨rfl, rfl, rfl⟩⟩
      have fo := freeOf_e (μ := u_mcode μ 0) h60 hev' (nI d)
      have m1 : g_mgt (u_mcode μ 0) (10 * e + o) = nI g := q5
      have m2 : g_mog (u_mcode μ 0) (10 * e + o) = nI d := q6
      obtain ⟨j, hj, rfl⟩ := wi3 h
      rw [hev', ix10, mrd_nI (show 10 * e + o < 620 by omega) (by decide), mrd_nI (show 10 * e + o < 620 by omega) (by decide), mrd_nI (show 10 * e + o < 620 by omega) (by decide), mrd_nI ho (by decide), mrd_nI ho (by decide), mrd_nI ho (by decide), m1, m2, q2, q3]
      rcases (show j = 0 ∨ j = 1 ∨ j = 2 ∨ j = 3 by omega) with rfl | rfl | rfl | rfl
      · rw [if_pos (show nI 0 = 0 from rfl), if_pos (show nI 0 = 0 from rfl), isFull_e ho q1 q2 v0 v9 gv, mb1_b2i, e_MisOpen (μ := u_mcode μ 0) (by omega) ho q4 q5 v9 gv, mb1_b2i]
        by_cases z : g < v
        · rw [if_pos z, if_neg (fun y => y z)]; exact fin 0
        · rw [if_neg z, if_pos z]; exact fin 1
      · rw [if_neg (show ¬ nI 1 = 0 by decide), if_pos (show nI 1 = 1 from rfl), if_neg (show ¬ nI 1 = 0 by decide), if_pos (show nI 1 = 1 from rfl)]
        exact fin _
      · rw [if_neg (show ¬ nI 2 = 0 by decide), if_neg (show ¬ nI 2 = 1 by decide), if_pos (show nI 2 = 2 from rfl), if_neg (show ¬ nI 2 = 0 by decide), if_neg (show ¬ nI 2 = 1 by decide), if_pos (show nI 2 = 2 from rfl)]
        exact fin _
      · rw [if_neg (show ¬ nI 3 = 0 by decide), if_neg (show ¬ nI 3 = 1 by decide), if_neg (show ¬ nI 3 = 2 by decide), if_pos (show nI 3 = 3 from rfl), if_neg (show ¬ nI 3 = 0 by decide), if_neg (show ¬ nI 3 = 1 by decide), if_neg (show ¬ nI 3 = 2 by decide), freeUnits_e, mb1_e, fo, mb1_e, free_eq R]
        exact fin _
    · rw [if_neg h, if_neg (show ¬ g_mcode (u_mcode μ 2) ≤ 0 by show ¬ (2 : Int32) ≤ 0; decide)]
      have ne : ∀ x : Int32, Wi x 0 3 → ¬ w = x := fun x hx z => h (z ▸ hx)
      rw [if_neg (ne 0 ⟨by decide, by decide⟩), if_neg (ne 1 ⟨by decide, by decide⟩), if_neg (ne 2 ⟨by decide, by decide⟩), if_neg (ne 3 ⟨by decide, by decide⟩)]
      exact ⟨_, _, _, _, _, e, rfl, rfl, J.code 2, Or.inr (Or.inr ⟨rfl, rfl⟩)⟩
