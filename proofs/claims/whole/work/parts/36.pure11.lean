theorem hasSoMany_e (a : Int32) (σ : SP) : m_P_hasSoMany a σ = some (b2i (Wi a 0 (g_ec σ))) := by unfold m_P_hasSoMany; rw [e_isWithin, mb1_e, b2i_z]
theorem isEvent_e (a : Int32) (σ : SP) : m_P_isEvent a σ = some (b2i (Wi a 0 (g_ec σ - 1))) := by unfold m_P_isEvent; rw [e_isWithin, mb1_e, b2i_z]
theorem MisEvent_e (a : Int32) (μ : SM) : m_M_isEvent a μ = some (b2i (Wi a 0 (g_mev μ - 1))) := by unfold m_M_isEvent; rw [e_in, mb1_e, b2i_z]
theorem wiE {a : Int32} {e : Nat} (he : e ≤ 60) (h : Wi a 0 (nI e)) : ∃ n, n ≤ e ∧ a = nI n := wi_nat (nI_toInt (by omega)) h
theorem where_ok {σ : SP} {μ : SM} {e : Nat} (I : Inv σ μ e) (u n : Int32) : Agree NSE IAE (m_P_where u n σ) (m_M_where u n μ) := by
  have I0 := I
  obtain ⟨h60, hec, hev, hrc, hat, hrep⟩ := I0
  unfold m_P_where m_M_where
  rw [hasSoMany_e, mb1_b2i, e_isUnit, mb1_b2i, e_in, mb1_b2i, e_MisUnit, mb1_b2i, hec, hev]
  unfold k_M_where_29
  simp only [mlet_e]
  by_cases h1 : Wi n 0 (nI e)
  · rw [if_pos h1, if_pos h1]
    by_cases h2 : Wi u 0 19
    · rw [if_pos h2, if_pos h2]
      obtain ⟨m, hm, rfl⟩ := wiE h60 h1
      obtain ⟨j, hj, rfl⟩ := wi19 h2
      obtain ⟨σ5, p1, R, K⟩ := I.replay hm
      rw [p1, mb1_e, mrd_nI hj (by decide), if_pos (show g_mcode (u_mcode μ 0) ≤ 0 from Int32.le_refl _), ix20, mrd_nI (by omega) (by decide)]
      refine ⟨_, _, _, _, _, e, rfl, rfl, (Inv.keepP K I).code 0, Or.inl ⟨rfl, rfl, ?_⟩⟩
      exact ((R.1 j hj).1).symm
    · rw [if_neg h2, if_neg h2]
      exact ⟨_, _, _, _, _, e, rfl, if_neg (show ¬ (2 : Int32) ≤ 0 by decide), I.code 2, Or.inr (Or.inr ⟨rfl, rfl⟩)⟩
  · rw [if_neg h1, if_neg h1]
    exact ⟨_, _, _, _, _, e, rfl, if_neg (show ¬ (1 : Int32) ≤ 0 by decide), I.code 1, Or.inr (Or.inl ⟨rfl, rfl⟩)⟩
theorem money_ok {σ : SP} {μ : SM} {e : Nat} (I : Inv σ μ e) (u n : Int32) : Agree NSE IAE (m_P_money u n σ) (m_M_money u n μ) := by
  have I0 := I
  obtain ⟨h60, hec, hev, hrc, hat, hrep⟩ := I0
  unfold m_P_money m_M_money
  rw [hasSoMany_e, mb1_b2i, e_isOwner, mb1_b2i, e_in, mb1_b2i, e_in, mb1_b2i, hec, hev]
  unfold k_M_money_31
  simp only [mlet_e]
  by_cases h1 : Wi n 0 (nI e)
  · rw [if_pos h1, if_pos h1]
    by_cases h2 : Wi u 0 3
    · rw [if_pos h2, if_pos h2]
      obtain ⟨m, hm, rfl⟩ := wiE h60 h1
      obtain ⟨j, hj, rfl⟩ := wi3 h2
      obtain ⟨σ5, p1, R, K⟩ := I.replay hm
      rw [p1, mb1_e, mrd_nI hj (by decide), if_pos (show g_mcode (u_mcode μ 0) ≤ 0 from Int32.le_refl _), ix4, mrd_nI (by omega) (by decide)]
      refine ⟨_, _, _, _, _, e, rfl, rfl, (Inv.keepP K I).code 0, Or.inl ⟨rfl, rfl, ?_⟩⟩
      exact (R.2.2.1 j hj).symm
    · rw [if_neg h2, if_neg h2]
      exact ⟨_, _, _, _, _, e, rfl, if_neg (show ¬ (2 : Int32) ≤ 0 by decide), I.code 2, Or.inr (Or.inr ⟨rfl, rfl⟩)⟩
  · rw [if_neg h1, if_neg h1]
    exact ⟨_, _, _, _, _, e, rfl, if_neg (show ¬ (1 : Int32) ≤ 0 by decide), I.code 1, Or.inr (Or.inl ⟨rfl, rfl⟩)⟩
