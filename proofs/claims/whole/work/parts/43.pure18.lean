theorem count_ok {σ : SP} {μ : SM} {e : Nat} (I : Inv σ μ e) (a : Int32) : ∃ r σ' μ', m_P_count a σ = some (r, σ') ∧ m_M_count a μ = some (r, μ') ∧ Inv σ' μ' e ∧ g_mcode μ' = 0 := by
  have I0 := I
  obtain ⟨h60, hec, hev, hrc, hat, hrep⟩ := I0
  obtain ⟨σ1, p1, R, K⟩ := I.replay (Nat.le_refl e)
  have J := Inv.keepP K I
  have hev' : g_mev (u_mcode μ 0) = nI e := hev
  have R' : RelS σ1 (u_mcode μ 0) e := R
  have fin : ∀ r, m_P_count a σ = some (r, σ1) → m_M_count a μ = some (r, u_mcode μ 0) → ∃ r σ' μ', m_P_count a σ = some (r, σ') ∧ m_M_count a μ = some (r, μ') ∧ Inv σ' μ' e ∧ g_mcode μ' = 0 := fun r h1 h2 => ⟨r, σ1, u_mcode μ 0, h1, h2, J.code 0, rfl⟩
  unfold m_P_count m_M_count k_M_count_71 k_M_count_137 at *
  simp only [mlet_e, e_in, mb1_b2i] at *
  rw [hec, p1, mb1_e] at *
  by_cases a0 : a = 0
  · subst a0
    refine fin (nI e) ?_ ?_
    · rw [if_pos rfl, J.2.1]
    · rw [if_pos rfl, hev']
  rw [if_neg a0, if_neg a0] at *
  by_cases a1 : a = 1
  · subst a1
    refine fin (g_rc σ1) ?_ ?_
    · rw [if_pos rfl]
    · rw [if_pos rfl, J.2.2.2.1]
  rw [if_neg a1, if_neg a1] at *
  by_cases a2 : a = 2
  · subst a2
    refine fin (cnt (askU (g_pl σ1) (g_gd σ1) (-1) (-1)) 20) ?_ ?_
    · rw [if_pos rfl, unitsAt_e, mb1_e]
    · rw [Mc28_2 h60 hev', mb2_e, Mc73_no (by decide) (by decide), mb2_e, Mc139_no (by decide), mb2_e, if_pos (by decide)]
      refine congrArg (fun z => some (z, u_mcode μ 0)) (cnt_congr (fun k hk => ?_))
      refine decide_eq_decide.mpr ?_
      rw [← (R'.1 k hk).1]
      simp
  rw [Mc28_no a2, mb2_e, if_neg a2] at *
  by_cases a3 : a = 3
  · subst a3
    refine fin (cnt (fun o => decide (0 < g_wa σ1 o)) 10) ?_ ?_
    · rw [if_pos rfl, toldOrders_e, mb1_e]
    · rw [Mc73_3 h60 hev', mb2_e, Mc139_no (by decide), mb2_e, if_pos (by decide)]
      refine congrArg (fun z => some (z, u_mcode μ 0)) (cnt_congr (fun k hk => ?_))
      refine decide_eq_decide.mpr ?_
      rw [← (R'.2.1 k hk).1]
  rw [if_neg a3] at *
  by_cases a4 : a = 4
  · subst a4
    refine fin (cnt (fun o => decide (0 < g_wa σ1 o ∧ ¬ g_gt σ1 o < g_wa σ1 o)) 10) ?_ ?_
    · rw [if_pos rfl, fullOrders_e, mb1_e]
    · rw [Mc73_4 h60 hev' R', mb2_e, Mc139_no (by decide), mb2_e, if_pos (by decide)]
  rw [if_neg a4, Mc73_no a3 a4, mb2_e] at *
  by_cases a5 : a = 5
  · subst a5
    refine fin (cnt (lkU (g_lk σ1)) 100) ?_ ?_
    · rw [if_pos rfl, linkedPairs_e, mb1_e]
    · rw [Mc139_5 h60 hev', mb2_e, if_pos (by decide)]
      refine congrArg (fun z => some (z, u_mcode μ 0)) (cnt_congr (fun k hk => ?_))
      refine decide_eq_decide.mpr ?_
      show _ ∧ ¬ g_mlk (u_mcode μ 0) (100 * e + k) ≤ 0 ↔ _
      rw [← (R'.2.2.2 k hk).1]
  rw [if_neg a5, Mc139_no a5, mb2_e] at *
  refine fin (-1) rfl ?_
  rw [if_neg]
  rintro ⟨x1, x2⟩
  obtain ⟨j, hj, rfl⟩ := wi_nat (n := 5) (by decide) (⟨Int32.le_trans (by decide) x1, x2⟩ : Wi a 0 5)
  rcases (show j = 0 ∨ j = 1 ∨ j = 2 ∨ j = 3 ∨ j = 4 ∨ j = 5 by omega) with rfl | rfl | rfl | rfl | rfl | rfl
  · exact a0 rfl
  · exact a1 rfl
  · exact a2 rfl
  · exact a3 rfl
  · exact a4 rfl
  · exact a5 rfl
