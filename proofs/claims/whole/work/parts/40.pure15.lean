def Agree1 (x1 : String) (p : Option (Int32 × String × SP)) (q : Option (Int32 × SM)) : Prop := ∃ r ex σ' rM μ' e', p = some (r, ex, σ') ∧ q = some (rM, μ') ∧ Inv σ' μ' e' ∧ ((ex = "" ∧ g_mcode μ' = 0 ∧ rM = r) ∨ (ex = x1 ∧ g_mcode μ' = 1))
theorem ask_eq {σ : SP} {μ : SM} {e : Nat} (R : RelS σ μ e) (p g : Int32) : cnt (askU (g_pl σ) (g_gd σ) p g) 20 = cnt (askU (fun u => g_mpl μ (20 * e + u)) (fun u => g_mgd μ (20 * e + u)) p g) 20 := by
  refine cnt_congr (fun k hk => ?_)
  obtain ⟨e1, -, e3, -⟩ := R.1 k hk
  refine decide_eq_decide.mpr ?_
  show _ ↔ ¬ g_mpl μ (20 * e + k) = -1 ∧ (p = -1 ∨ p = g_mpl μ (20 * e + k)) ∧ (g = -1 ∨ g = g_mgd μ (20 * e + k))
  rw [← e1]
  by_cases h : g_pl σ k = -1
  · simp [h]
  · rw [← (e3.resolve_left (fun z => h z.1)).2.1]
theorem Mstock_1 (μ : SM) (p g : Int32) : k_M_stock_25 p g 1 μ = some (0, u_mcode μ 1) := by
  unfold k_M_stock_25
  rw [mlet_e]
  have h := lp_for (body := fun s : Int32 × Int32 => b_M_stock_33 p g (u_mcode μ 1) s.1 s.2) 0 (fun _ => (0, 0)) (0, 0) (fun k hk => absurd hk (by omega)) (by
    show b_M_stock_33 p g (u_mcode μ 1) 0 0 = _
    unfold b_M_stock_33
    rw [if_neg (show ¬ (20 : Int32) ≤ 0 by decide)]
    exact if_neg (show ¬ ((1 : Int32) = 0) by decide)) FU (FU_lt (by decide))
  rw [h, mb2_e]
theorem stock_ok {σ : SP} {μ : SM} {e : Nat} (I : Inv σ μ e) (p g : Int32) : Agree1 IAE (m_P_stock p g σ) (m_M_stock p g μ) := by
  have I0 := I
  obtain ⟨h60, hec, hev, hrc, hat, hrep⟩ := I0
  unfold m_P_stock m_M_stock k_M_stock_20 k_P_stock_22
  rw [e_in, mb1_b2i, e_in, mb1_b2i, e_isPlace, mb1_b2i, e_isGood, mb1_b2i, Mstock_1]
  have good : ∀ (hp : p = -1 ∨ Wi p 0 9) (hg : g = -1 ∨ Wi g 0 5), Agree1 IAE (k_P_stock_44 p g σ) (k_M_stock_25 p g 0 μ) := by
    intro hp hg
    obtain ⟨σ1, p1, R, K⟩ := I.replay (Nat.le_refl e)
    unfold k_P_stock_44
    rw [hec, p1, mb1_e, unitsAt_e, mb1_e, Mstock_e h60 hev hp hg]
    exact ⟨_, _, _, _, _, e, rfl, rfl, (Inv.keepP K I).code 0, Or.inl ⟨rfl, rfl, (ask_eq R p g).symm⟩⟩
  have bad : Agree1 IAE (some (0, "java/lang/IllegalArgumentException", σ)) (some (0, u_mcode μ 1)) := ⟨_, _, _, _, _, e, rfl, rfl, I.code 1, Or.inr ⟨rfl, rfl⟩⟩
  have w1 := wim_iff (a := p) (M := 9) (by decide)
  have w2 := wim_iff (a := g) (M := 5) (by decide)
  by_cases hp : p = -1 ∨ Wi p 0 9
  · rw [if_pos (w1.mpr hp)]
    by_cases hg : g = -1 ∨ Wi g 0 5
    · rw [if_pos (w2.mpr hg)]
      have G := good hp hg
      by_cases a1 : p = -1
      · rw [if_pos a1]
        by_cases a2 : g = -1
        · rw [if_pos a2]; exact G
        · rw [if_neg a2, if_pos (hg.resolve_left a2)]; exact G
      · rw [if_neg a1, if_pos (hp.resolve_left a1)]
        by_cases a2 : g = -1
        · rw [if_pos a2]; exact G
        · rw [if_neg a2, if_pos (hg.resolve_left a2)]; exact G
    · rw [if_neg (fun z => hg (w2.mp z)), if_neg (fun z => hg (Or.inl z)), if_neg (fun z => hg (Or.inr z))]
      by_cases a1 : p = -1
      · rw [if_pos a1]; exact bad
      · rw [if_neg a1, if_pos (hp.resolve_left a1)]; exact bad
  · rw [if_neg (fun z => hp (w1.mp z)), if_neg (fun z => hp (Or.inl z)), if_neg (fun z => hp (Or.inr z))]
    exact bad
