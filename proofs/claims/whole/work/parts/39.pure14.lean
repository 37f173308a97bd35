/-- -1 or in range: the reference's question, and the class's -/
theorem wiM {a M : Int32} : Wi a (-1) M ∧ ¬ a = -1 → (0 : Int32) ≤ a := by
  rintro ⟨⟨h1, -⟩, h2⟩
  rw [Int32.le_iff_toInt_le] at h1 ⊢
  have e : (-1 : Int32).toInt = -1 := by decide
  have e0 : (0 : Int32).toInt = 0 := by decide
  have n : a.toInt ≠ -1 := tiNe e h2
  omega
theorem wim_iff {a M : Int32} (hM : (-1 : Int32) ≤ M) : Wi a (-1) M ↔ (a = -1 ∨ Wi a 0 M) := by
  constructor
  · intro h
    by_cases e : a = -1
    · exact Or.inl e
    · exact Or.inr ⟨wiM ⟨h, e⟩, h.2⟩
  · rintro (e | h)
    · rw [e]; exact ⟨Int32.le_refl _, hM⟩
    · exact ⟨Int32.le_trans (by decide) h.1, h.2⟩
theorem neg_iff {a M : Int32} (h : a = -1 ∨ Wi a 0 M) : a < 0 ↔ a = -1 := by
  constructor
  · intro z
    rcases h with h | h
    · exact h
    · exact absurd z (Int32.not_lt.mpr h.1)
  · intro z; rw [z]; decide
theorem Mstock_e {μ : SM} {e : Nat} (he : e ≤ 60) (hev : g_mev μ = nI e) {p g : Int32} (hp : p = -1 ∨ Wi p 0 9) (hg : g = -1 ∨ Wi g 0 5) : k_M_stock_25 p g 0 μ = some (cnt (askU (fun u => g_mpl μ (20 * e + u)) (fun u => g_mgd μ (20 * e + u)) p g) 20, u_mcode μ 0) := by
  unfold k_M_stock_25
  rw [mlet_e, lp_cnt 20 (askU (fun u => g_mpl μ (20 * e + u)) (fun u => g_mgd μ (20 * e + u)) p g) ?_ ?_ (by decide), mb2_e]
  · intro k v hk
    show b_M_stock_33 p g (u_mcode μ 0) v (nI k) = _
    unfold b_M_stock_33
    rw [if_neg (show ¬ (20 : Int32) ≤ nI k from nI_ge (b := 20) hk (by decide)), if_pos (show g_mcode (u_mcode μ 0) = 0 from rfl)]
    have hev' : g_mev (u_mcode μ 0) = nI e := hev
    simp only [hev', ix20, mrd_nI (show 20 * e + k < 1240 by omega) (by decide : 1240 < 2 ^ 31), nI_1, neg_iff hp, neg_iff hg]
    show (if g_mpl μ (20 * e + k) = -1 then _ else _) = _
    by_cases h1 : g_mpl μ (20 * e + k) = -1
    · rw [if_pos h1, show askU (fun u => g_mpl μ (20 * e + u)) (fun u => g_mgd μ (20 * e + u)) p g k = false from decide_eq_false (fun z => z.1 h1)]
      rfl
    · rw [if_neg h1]
      by_cases h2 : p = -1
      · rw [if_pos h2]
        by_cases h3 : g = -1
        · rw [if_pos h3, show askU (fun u => g_mpl μ (20 * e + u)) (fun u => g_mgd μ (20 * e + u)) p g k = true from decide_eq_true ⟨h1, Or.inl h2, Or.inl h3⟩]
          rfl
        · rw [if_neg h3]
          by_cases h4 : g_mgd μ (20 * e + k) = g
          · rw [show askU (fun u => g_mpl μ (20 * e + u)) (fun u => g_mgd μ (20 * e + u)) p g k = true from decide_eq_true ⟨h1, Or.inl h2, Or.inr h4.symm⟩]
            exact if_pos h4
          · rw [show askU (fun u => g_mpl μ (20 * e + u)) (fun u => g_mgd μ (20 * e + u)) p g k = false from decide_eq_false (fun z => z.2.2.elim h3 (fun w => h4 w.symm))]
            exact if_neg h4
      · rw [if_neg h2]
        by_cases h5 : g_mpl μ (20 * e + k) = p
        · rw [if_pos h5]
          by_cases h3 : g = -1
          · rw [if_pos h3, show askU (fun u => g_mpl μ (20 * e + u)) (fun u => g_mgd μ (20 * e + u)) p g k = true from decide_eq_true ⟨h1, Or.inr h5.symm, Or.inl h3⟩]
            rfl
          · rw [if_neg h3]
            by_cases h4 : g_mgd μ (20 * e + k) = g
            · rw [show askU (fun u => g_mpl μ (20 * e + u)) (fun u => g_mgd μ (20 * e + u)) p g k = true from decide_eq_true ⟨h1, Or.inr h5.symm, Or.inr h4.symm⟩]
              exact if_pos h4
            · rw [show askU (fun u => g_mpl μ (20 * e + u)) (fun u => g_mgd μ (20 * e + u)) p g k = false from decide_eq_false (fun z => z.2.2.elim h3 (fun w => h4 w.symm))]
              exact if_neg h4
        · rw [if_neg h5, show askU (fun u => g_mpl μ (20 * e + u)) (fun u => g_mgd μ (20 * e + u)) p g k = false from decide_eq_false (fun z => z.2.1.elim h2 (fun w => h5 w.symm))]
          rfl
  · intro v
    show b_M_stock_33 p g (u_mcode μ 0) v (nI 20) = _
    unfold b_M_stock_33
    rw [if_pos (show (20 : Int32) ≤ nI 20 from nI_le (Nat.le_refl _) (by decide))]
