theorem back_ok {σ : SP} {μ : SM} {e : Nat} (I : Inv σ μ e) : ∃ ex σ' μ' e', m_P_back σ = some (ex, σ') ∧ m_M_back μ = some μ' ∧ Inv σ' μ' e' ∧ ((ex = "" ∧ g_mcode μ' = 0) ∨ (ex = ISE ∧ g_mcode μ' = 1)) := by
  have I0 := I
  obtain ⟨h60, hec, hev, hrc, hat, hrep⟩ := I0
  unfold m_P_back m_M_back k_M_back_13
  simp only [mlet_e]
  rw [hec, hev]
  rcases Nat.eq_zero_or_pos e with h | h
  · subst h
    rw [if_pos (show nI 0 = 0 from rfl), if_pos (show nI 0 = 0 from rfl), if_neg (show ¬ g_mcode (u_mcode μ 1) = 0 by show ¬ ((1 : Int32) = 0); decide)]
    exact ⟨_, _, _, 0, rfl, rfl, I.code 1, Or.inr ⟨rfl, rfl⟩⟩
  · obtain ⟨d, rfl⟩ : ∃ d, e = d + 1 := ⟨e - 1, by omega⟩
    rw [if_neg (nI_ne0 h (by omega)), if_neg (nI_ne0 h (by omega)), if_pos trivial, nI_pred]
    refine ⟨_, _, _, d, rfl, rfl, ?_, Or.inl ⟨rfl, rfl⟩⟩
    exact ⟨by omega, rfl, rfl, hrc, fun i hi => hat i (by omega), fun n hn => hrep n (by omega)⟩
theorem wiE1 {a : Int32} {e : Nat} (he : e ≤ 60) (h : Wi a 0 (nI e - 1)) : ∃ i, i < e ∧ a = nI i := by
  rcases Nat.eq_zero_or_pos e with h0 | h0
  · subst h0
    have h1 : (0 : Int32) ≤ nI 0 - 1 := Int32.le_trans h.1 h.2
    exact absurd h1 (by decide)
  · obtain ⟨d, rfl⟩ : ∃ d, e = d + 1 := ⟨e - 1, by omega⟩
    rw [nI_pred] at h
    obtain ⟨i, h1, h2⟩ := wi_nat (nI_toInt (show d < 2 ^ 31 by omega)) h
    exact ⟨i, by omega, h2⟩
theorem told_ok {σ : SP} {μ : SM} {e : Nat} (I : Inv σ μ e) (i w : Int32) : ∃ r ex rM μ', m_P_told i w σ = some (r, ex) ∧ m_M_told i w μ = some (rM, μ') ∧ Inv σ μ' e ∧ ((ex = "" ∧ g_mcode μ' = 0 ∧ rM = r) ∨ (ex = NSE ∧ g_mcode μ' = 1) ∨ (ex = IAE ∧ g_mcode μ' = 2)) := by
  have I0 := I
  obtain ⟨h60, hec, hev, hrc, hat, hrep⟩ := I0
  unfold m_P_told m_M_told
  rw [isEvent_e, mb1_b2i, e_isWithin, mb1_b2i, MisEvent_e, mb1_b2i, e_in, mb1_b2i, hec, hev]
  unfold k_M_told_27
  simp only [mlet_e]
  by_cases h1 : Wi i 0 (nI e - 1)
  · rw [if_pos h1, if_pos h1]
    by_cases h2 : Wi w 0 3
    · rw [if_pos h2, if_pos h2]
      obtain ⟨m, hm, rfl⟩ := wiE1 h60 h1
      obtain ⟨j, hj, rfl⟩ := wi3 h2
      obtain ⟨e0, e1, e2, e3, -⟩ := hat m hm
      rw [ixr, mrd_nI (show 4 * m + j < 240 by omega) (by decide), if_pos (show g_mcode (u_mcode μ 0) ≤ 0 from Int32.le_refl _), mrd_nI (show m < 60 by omega) (by decide), mrd_nI (show m < 60 by omega) (by decide), mrd_nI (show m < 60 by omega) (by decide), mrd_nI (show m < 60 by omega) (by decide)]
      rcases (show j = 0 ∨ j = 1 ∨ j = 2 ∨ j = 3 by omega) with rfl | rfl | rfl | rfl
      · exact ⟨_, _, _, _, rfl, if_pos rfl, I.code 0, Or.inl ⟨rfl, rfl, e0.symm⟩⟩
      · exact ⟨_, _, _, _, rfl, (if_neg (by decide)).trans (if_pos rfl), I.code 0, Or.inl ⟨rfl, rfl, e1.symm⟩⟩
      · exact ⟨_, _, _, _, rfl, (if_neg (by decide)).trans ((if_neg (by decide)).trans (if_pos rfl)), I.code 0, Or.inl ⟨rfl, rfl, e2.symm⟩⟩
      · exact ⟨_, _, _, _, rfl, (if_neg (by decide)).trans ((if_neg (by decide)).trans (if_neg (by decide))), I.code 0, Or.inl ⟨rfl, rfl, e3.symm⟩⟩
    · rw [if_neg h2, if_neg h2]
      exact ⟨_, _, _, _, rfl, if_neg (show ¬ (2 : Int32) ≤ 0 by decide), I.code 2, Or.inr (Or.inr ⟨rfl, rfl⟩)⟩
  · rw [if_neg h1, if_neg h1]
    exact ⟨_, _, _, _, rfl, if_neg (show ¬ (1 : Int32) ≤ 0 by decide), I.code 1, Or.inr (Or.inl ⟨rfl, rfl⟩)⟩
