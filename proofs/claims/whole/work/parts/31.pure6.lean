/-! one event asked and, if it is possible, done: on both sides alike -/
theorem step_eq {σ : SP} {μ : SM} {t : Nat} (ht : t < 62) (R : RelS σ μ t) {k a b c : Int32} (ok : EvOK k a b c) :
    (m_H_take k a b c σ = some (0, σ) ∧ m_M_can (nI t) k a b μ = some 0) ∨
    ∃ σ' μ', m_H_take k a b c σ = some (1, σ') ∧ m_M_can (nI t) k a b μ = some 1 ∧ m_M_apply (nI t) k a b c μ = some μ' ∧ RelS σ' μ' t ∧ KeepP σ σ' ∧ KeepM μ μ' ∧ ∀ s, s ≠ t → SlotEq μ μ' s := by
  obtain ⟨r, h1, h2, hr⟩ := can_eq ht R ok
  rcases hr with rfl | rfl
  · left
    exact ⟨by unfold m_H_take; rw [h1, mb1_e, if_pos rfl], h2⟩
  · right
    have A : App σ μ t k a b c := by
      have h1' := h1
      unfold m_H_isPossible at h1'
      rcases ok with ⟨rfl, ha, hb, hc⟩ | ⟨rfl, ha, hb, rfl⟩ | ⟨rfl, ha, rfl, rfl⟩ | ⟨rfl, ha, hb, hc⟩ | ⟨rfl, ha, hb, rfl⟩ | ⟨rfl, ha, -, -, rfl⟩ | ⟨rfl, ha, hb, hc⟩
      · obtain ⟨u, hu, rfl⟩ := wi19 ha
        obtain ⟨g, hg, rfl⟩ := wi5 hb
        obtain ⟨p, hp, rfl⟩ := wi9 hc
        rw [if_pos rfl, e_isInside hu, mb1_b2i] at h1'
        by_cases h : g_pl σ u = -1
        · exact app0 ht R hu hg hp h
        · rw [if_pos h] at h1'; exact absurd h1' (by decide)
      · obtain ⟨u, hu, rfl⟩ := wi19 ha
        obtain ⟨p, hp, rfl⟩ := wi9 hb
        rw [if_neg (by decide), if_pos rfl, e_isInside hu, mb1_e, b2i_z] at h1'
        by_cases h : g_pl σ u = -1
        · rw [b2i_f (fun z => z h)] at h1'; exact absurd h1' (by decide)
        · exact app1 ht R hu hp h
      · obtain ⟨u, hu, rfl⟩ := wi19 ha
        exact app2 ht R hu
      · obtain ⟨o, ho, rfl⟩ := wi9 ha
        obtain ⟨n, hn0, hn, rfl⟩ := wiP (n := 9) (by decide) hb
        obtain ⟨g, hg, rfl⟩ := wi5 hc
        obtain ⟨-, -, w, q, hw9, hqw, hw, hq, -⟩ := R.2.1 o ho
        rw [if_neg (by decide), if_neg (by decide), if_neg (by decide), if_pos rfl, e_isTold ho, mb1_b2i] at h1'
        by_cases h : 0 < g_wa σ o
        · rw [if_pos h] at h1'; exact absurd h1' (by decide)
        · have h0 : w = 0 := by
            rcases Nat.eq_zero_or_pos w with e | e
            · exact e
            · exact absurd (show (0 : Int32) < g_wa σ o by rw [hw]; exact nI_lt (a := 0) e (by omega)) h
          exact app3 ht R ho (by omega) hg (by rw [hw, h0]; rfl)
      · obtain ⟨u, hu, rfl⟩ := wi19 ha
        obtain ⟨o, ho, rfl⟩ := wi9 hb
        obtain ⟨-, -, w, q, hw9, hqw, hw, hq, -⟩ := R.2.1 o ho
        rw [if_neg (by decide), if_neg (by decide), if_neg (by decide), if_neg (by decide), if_pos rfl, e_isFree hu, mb1_b2i, e_isOpen ho hw hq hw9 hqw, mb1_b2i] at h1'
        by_cases h : ¬ g_pl σ u = -1 ∧ g_gv σ u = -1
        · rw [if_pos h] at h1'
          by_cases h3 : q < w
          · exact app4 ht R hu ho h.1 hw hq hw9 h3
          · rw [if_neg h3] at h1'; exact absurd h1' (by decide)
        · rw [if_neg h] at h1'; exact absurd h1' (by decide)
      · obtain ⟨o, ho, rfl⟩ := wi3 ha
        exact app5 ht R ho
      · obtain ⟨x, hx, rfl⟩ := wi9 ha
        obtain ⟨y, hy, rfl⟩ := wi9 hb
        obtain ⟨n, hn0, hn, rfl⟩ := wiP (n := 99) (by decide) hc
        exact app6 ht R hx hy (by omega)
    obtain ⟨σ', μ', a1, a2, a3, a4, a5, a6⟩ := A
    exact ⟨σ', μ', by unfold m_H_take; rw [h1, mb1_e, if_neg (by decide), a1, mb1_e], h2, a2, a3, a4, a5, a6⟩
/-! a slot copied -/
def cpK (N t s k : Nat) (f : Nat → Int32) : Nat → Int32 := fun i => if N * s ≤ i ∧ i < N * s + k then f (N * t + (i - N * s)) else f i
theorem cpK_0 (N t s : Nat) (f : Nat → Int32) : cpK N t s 0 f = f := by
  funext i; unfold cpK; rw [if_neg (by omega)]
theorem cpK_s {N t s k : Nat} {f : Nat → Int32} (h : cpK N t s k f (N * t + k) = f (N * t + k)) : upd (cpK N t s k f) (N * s + k) (cpK N t s k f (N * t + k)) = cpK N t s (k + 1) f := by
  rw [h]
  funext i
  unfold upd cpK
  by_cases e : i = N * s + k
  · subst e
    rw [if_pos rfl, if_pos ⟨by omega, by omega⟩, Nat.add_sub_cancel_left]
  · rw [if_neg e]
    by_cases e2 : N * s ≤ i ∧ i < N * s + k
    · rw [if_pos e2, if_pos ⟨e2.1, by omega⟩]
    · rw [if_neg e2, if_neg (by omega)]
theorem cpK_in {N t s k j : Nat} {f : Nat → Int32} (h : j < k) : cpK N t s k f (N * s + j) = f (N * t + j) := by
  unfold cpK
  rw [if_pos ⟨by omega, by omega⟩, Nat.add_sub_cancel_left]
theorem cpK_out {N t s k i : Nat} {f : Nat → Int32} (h : i < N * s ∨ N * s + k ≤ i) : cpK N t s k f i = f i := by
  unfold cpK
  rw [if_neg (by omega)]
def cpM (t s a b c d : Nat) (μ : SM) : SM := (g_mcode μ, g_mev μ, g_mrf μ, g_mkd μ, g_mxa μ, g_mxb μ, g_mxc μ, cpK 20 t s a (g_mpl μ), cpK 20 t s a (g_mgd μ), cpK 20 t s a (g_mgv μ), cpK 10 t s b (g_mwa μ), cpK 10 t s b (g_mog μ), cpK 10 t s b (g_mgt μ), cpK 4 t s c (g_mce μ), cpK 100 t s d (g_mlk μ), g_mfa μ, g_mst μ, g_mco μ)
theorem cpM_0 (t s : Nat) (μ : SM) : cpM t s 0 0 0 0 μ = μ := by
  unfold cpM
  simp only [cpK_0]
theorem copy_1 {t s : Nat} (ht : t < 62) (hs : s < 62) (hts : t ≠ s) (μ : SM) : lp (fun z : Int32 × SM => b_M_copy_2 (nI t) (nI s) z.1 z.2) FU (0, μ) = some (nI 20, cpM t s 20 0 0 0 μ) := by
  have h := lp_for (body := fun z : Int32 × SM => b_M_copy_2 (nI t) (nI s) z.1 z.2) 20 (fun k => (nI k, cpM t s k 0 0 0 μ)) (nI 20, cpM t s 20 0 0 0 μ) ?_ ?_ FU (FU_lt (by decide))
  · have e : ((0 : Int32), μ) = (nI 0, cpM t s 0 0 0 0 μ) := by rw [cpM_0]; rfl
    rw [e]; exact h
  · intro k hk
    show b_M_copy_2 (nI t) (nI s) (nI k) (cpM t s k 0 0 0 μ) = _
    unfold b_M_copy_2
    simp only [if_neg (show ¬ (20 : Int32) ≤ nI k from nI_ge (b := 20) hk (by decide)), ix20, mrd_nI (show 20 * t + k < 1240 by omega) (by decide : 1240 < 2 ^ 31), mck_nI (show 20 * s + k < 1240 by omega) (by decide : 1240 < 2 ^ 31), mlet_e, nI_clamp (show 20 * s + k < 2 ^ 31 by omega)]
    have q : ∀ f : Nat → Int32, upd (cpK 20 t s k f) (20 * s + k) (cpK 20 t s k f (20 * t + k)) = cpK 20 t s (k + 1) f := fun f => cpK_s (cpK_out (by omega))
    rw [nI_1]
    show some (Sum.inl (nI (k + 1), ((g_mcode μ, g_mev μ, g_mrf μ, g_mkd μ, g_mxa μ, g_mxb μ, g_mxc μ, upd (cpK 20 t s k (g_mpl μ)) (20 * s + k) (cpK 20 t s k (g_mpl μ) (20 * t + k)), upd (cpK 20 t s k (g_mgd μ)) (20 * s + k) (cpK 20 t s k (g_mgd μ) (20 * t + k)), upd (cpK 20 t s k (g_mgv μ)) (20 * s + k) (cpK 20 t s k (g_mgv μ) (20 * t + k)), cpK 10 t s 0 (g_mwa μ), cpK 10 t s 0 (g_mog μ), cpK 10 t s 0 (g_mgt μ), cpK 4 t s 0 (g_mce μ), cpK 100 t s 0 (g_mlk μ), g_mfa μ, g_mst μ, g_mco μ) : SM))) = some (Sum.inl (nI (k + 1), cpM t s (k + 1) 0 0 0 μ))
    rw [q, q, q]
    rfl
  · show b_M_copy_2 (nI t) (nI s) (nI 20) (cpM t s 20 0 0 0 μ) = _
    unfold b_M_copy_2
    rw [if_pos (show (20 : Int32) ≤ nI 20 from nI_le (Nat.le_refl _) (by decide))]
