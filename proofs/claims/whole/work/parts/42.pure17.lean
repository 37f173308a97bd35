/-! count -/
theorem lp_end {S E : Type} {body : S → Option (S ⊕ E)} {s : S} {e : E} (h : body s = some (.inr e)) : lp body FU s = some e :=
  lp_for (body := body) 0 (fun _ => s) e (fun k hk => absurd hk (by omega)) h FU (FU_lt (by decide))
theorem toldOrders_e (σ : SP) : m_H_toldOrders σ = some (cnt (fun o => decide (0 < g_wa σ o)) 10) := by
  unfold m_H_toldOrders
  rw [lp_cnt 10 (fun o => decide (0 < g_wa σ o)) ?_ ?_ (by decide), mb2_e]
  · intro k v hk
    show b_H_toldOrders_4 σ v (nI k) = _
    unfold b_H_toldOrders_4
    rw [if_neg (show ¬ (10 : Int32) ≤ nI k from nI_ge (b := 10) hk (by decide)), e_isTold hk, mb1_b2i, nI_1]
    by_cases h1 : 0 < g_wa σ k
    · rw [if_pos h1]; simp [h1]
    · rw [if_neg h1]; simp [h1]
  · intro v
    show b_H_toldOrders_4 σ v (nI 10) = _
    unfold b_H_toldOrders_4
    rw [if_pos (show (10 : Int32) ≤ nI 10 from nI_le (Nat.le_refl _) (by decide))]
theorem isFull_any (σ : SP) {o : Nat} (ho : o < 10) : m_H_isFull (nI o) σ = some (b2i (0 < g_wa σ o ∧ ¬ g_gt σ o < g_wa σ o)) := by
  unfold m_H_isFull
  rw [e_isTold ho, mb1_b2i, mrd_nI ho (by decide), mrd_nI ho (by decide)]
  by_cases h : 0 < g_wa σ o
  · rw [if_pos h]
    by_cases h2 : g_gt σ o < g_wa σ o
    · rw [if_pos h2, b2i_f (fun z => z.2 h2)]
    · rw [if_neg h2, b2i_t ⟨h, h2⟩]
  · rw [if_neg h, b2i_f (fun z => h z.1)]
theorem fullOrders_e (σ : SP) : m_H_fullOrders σ = some (cnt (fun o => decide (0 < g_wa σ o ∧ ¬ g_gt σ o < g_wa σ o)) 10) := by
  unfold m_H_fullOrders
  rw [lp_cnt 10 (fun o => decide (0 < g_wa σ o ∧ ¬ g_gt σ o < g_wa σ o)) ?_ ?_ (by decide), mb2_e]
  · intro k v hk
    show b_H_fullOrders_4 σ v (nI k) = _
    unfold b_H_fullOrders_4
    rw [if_neg (show ¬ (10 : Int32) ≤ nI k from nI_ge (b := 10) hk (by decide)), isFull_any σ hk, mb1_b2i, nI_1]
    by_cases h1 : 0 < g_wa σ k ∧ ¬ g_gt σ k < g_wa σ k
    · rw [if_pos h1, if_pos (decide_eq_true h1)]
    · rw [if_neg h1, if_neg (show ¬ decide (0 < g_wa σ k ∧ ¬ g_gt σ k < g_wa σ k) = true from fun z => h1 (of_decide_eq_true z)), i0]
  · intro v
    show b_H_fullOrders_4 σ v (nI 10) = _
    unfold b_H_fullOrders_4
    rw [if_pos (show (10 : Int32) ≤ nI 10 from nI_le (Nat.le_refl _) (by decide))]
def lkU (lk : Nat → Int32) (i : Nat) : Bool := decide (¬ i % 10 ≤ i / 10 ∧ ¬ lk i ≤ 0)
theorem lk_skip (lk : Nat → Int32) (a : Nat) (ha : a < 10) : ∀ j, j ≤ a + 1 → j ≤ 10 → cnt (lkU lk) (10 * a + j) = cnt (lkU lk) (10 * a) := by
  intro j
  induction j with
  | zero => intro _ _; rfl
  | succ j ih =>
    intro h1 h2
    show cnt (lkU lk) (10 * a + j) + _ = _
    rw [ih (by omega) (by omega), if_neg, i0]
    unfold lkU
    exact fun z => (of_decide_eq_true z).1 (show (10 * a + j) % 10 ≤ (10 * a + j) / 10 by omega)
theorem linkedPairs_e (σ : SP) : m_H_linkedPairs σ = some (cnt (lkU (g_lk σ)) 100) := by
  unfold m_H_linkedPairs
  have h := lp_for (body := fun s : Int32 × Int32 => b_H_linkedPairs_4 σ s.1 s.2) 10 (fun a => (cnt (lkU (g_lk σ)) (10 * a), nI a)) (cnt (lkU (g_lk σ)) 100, nI 10) ?_ ?_ FU (FU_lt (by decide))
  · have h' : lp (fun s : Int32 × Int32 => b_H_linkedPairs_4 σ s.1 s.2) FU (0, 0) = _ := h
    rw [h', mb2_e]
  · intro a ha
    show b_H_linkedPairs_4 σ (cnt (lkU (g_lk σ)) (10 * a)) (nI a) = _
    unfold b_H_linkedPairs_4
    rw [if_neg (show ¬ (10 : Int32) ≤ nI a from nI_ge (b := 10) ha (by decide)), nI_1, ← lk_skip (g_lk σ) a ha (a + 1) (Nat.le_refl _) (by omega)]
    have g := lp_for (body := fun s : Int32 × Int32 => b_H_linkedPairs_14 (nI a) σ s.1 s.2) (9 - a) (fun k => (cnt (lkU (g_lk σ)) (10 * a + (a + 1 + k)), nI (a + 1 + k))) (cnt (lkU (g_lk σ)) (10 * (a + 1)), nI 10) ?_ ?_ FU (FU_lt (by omega))
    · rw [g, mb2_e]
    · intro k hk
      show b_H_linkedPairs_14 (nI a) σ _ (nI (a + 1 + k)) = _
      unfold b_H_linkedPairs_14
      rw [if_neg (show ¬ (10 : Int32) ≤ nI (a + 1 + k) from nI_ge (b := 10) (by omega) (by decide)), pair_e, mb1_e, mrd_nI (show 10 * a + (a + 1 + k) < 100 by omega) (by decide), nI_1]
      show _ = some (Sum.inl (cnt (lkU (g_lk σ)) (10 * a + (a + 1 + k)) + (if lkU (g_lk σ) (10 * a + (a + 1 + k)) = true then 1 else 0), nI (a + 1 + k + 1)))
      by_cases h2 : g_lk σ (10 * a + (a + 1 + k)) ≤ 0
      · rw [if_pos h2, if_neg (show ¬ lkU (g_lk σ) (10 * a + (a + 1 + k)) = true from fun z => (of_decide_eq_true z).2 h2), i0]
      · rw [if_neg h2, if_pos (show lkU (g_lk σ) (10 * a + (a + 1 + k)) = true from decide_eq_true ⟨by omega, h2⟩)]
    · show b_H_linkedPairs_14 (nI a) σ _ (nI (a + 1 + (9 - a))) = _
      unfold b_H_linkedPairs_14
      rw [show a + 1 + (9 - a) = 10 by omega, if_pos (show (10 : Int32) ≤ nI 10 from nI_le (Nat.le_refl _) (by decide))]
      rfl
  · show b_H_linkedPairs_4 σ _ (nI 10) = _
    unfold b_H_linkedPairs_4
    rw [if_pos (show (10 : Int32) ≤ nI 10 from nI_le (Nat.le_refl _) (by decide))]
theorem rem10 {k : Nat} (hk : k < 100) : nI k - nI k / (10 : Int32) * (10 : Int32) = nI (k % 10) ∧ nI k / (10 : Int32) = nI (k / 10) := by
  have h : ∀ k : Fin 100, nI k.1 - nI k.1 / (10 : Int32) * (10 : Int32) = nI (k.1 % 10) ∧ nI k.1 / (10 : Int32) = nI (k.1 / 10) := by decide
  exact h ⟨k, hk⟩
theorem Mc28_no {c : Int32} (hc : ¬ c = 2) (μ : SM) (v : Int32) : lp (fun s : Int32 × Int32 => b_M_count_28 c μ s.1 s.2) FU (v, 0) = some (v, 0) := by
  refine lp_end ?_
  show b_M_count_28 c μ v 0 = _
  unfold b_M_count_28
  rw [if_neg (show ¬ (20 : Int32) ≤ 0 by decide), if_neg hc]
theorem Mc73_no {c : Int32} (h3 : ¬ c = 3) (h4 : ¬ c = 4) (μ : SM) (v : Int32) : lp (fun s : Int32 × Int32 => b_M_count_73 c μ s.1 s.2) FU (v, 0) = some (v, 0) := by
  refine lp_end ?_
  show b_M_count_73 c μ v 0 = _
  unfold b_M_count_73
  rw [if_neg (show ¬ (10 : Int32) ≤ 0 by decide), if_neg h3, if_neg h4]
theorem Mc139_no {c : Int32} (hc : ¬ c = 5) (μ : SM) (v : Int32) : lp (fun s : Int32 × Int32 => b_M_count_139 c μ s.1 s.2) FU (v, 0) = some (v, 0) := by
  refine lp_end ?_
  show b_M_count_139 c μ v 0 = _
  unfold b_M_count_139
  rw [if_neg (show ¬ (100 : Int32) ≤ 0 by decide), if_neg hc]
theorem Mc28_2 {μ : SM} {e : Nat} (he : e ≤ 60) (hev : g_mev μ = nI e) : lp (fun s : Int32 × Int32 => b_M_count_28 2 μ s.1 s.2) FU (0, 0) = some (cnt (fun u => decide (¬ g_mpl μ (20 * e + u) = -1)) 20, nI 20) := by
  refine lp_cnt 20 _ ?_ ?_ (by decide)
  · intro k v hk
    show b_M_count_28 2 μ v (nI k) = _
    unfold b_M_count_28
    rw [if_neg (show ¬ (20 : Int32) ≤ nI k from nI_ge (b := 20) hk (by decide)), if_pos rfl, hev, ix20, mrd_nI (show 20 * e + k < 1240 by omega) (by decide), nI_1]
    by_cases h1 : g_mpl μ (20 * e + k) = -1
    · rw [if_pos h1, if_neg (show ¬ decide (¬ g_mpl μ (20 * e + k) = -1) = true from fun z => (of_decide_eq_true z) h1)]
    · rw [if_neg h1, if_pos (decide_eq_true h1)]
  · intro v
    show b_M_count_28 2 μ v (nI 20) = _
    unfold b_M_count_28
    rw [if_pos (show (20 : Int32) ≤ nI 20 from nI_le (Nat.le_refl _) (by decide))]
theorem Mc73_3 {μ : SM} {e : Nat} (he : e ≤ 60) (hev : g_mev μ = nI e) : lp (fun s : Int32 × Int32 => b_M_count_73 3 μ s.1 s.2) FU (0, 0) = some (cnt (fun o => decide (0 < g_mwa μ (10 * e + o))) 10, nI 10) := by
  refine lp_cnt 10 _ ?_ ?_ (by decide)
  · intro k v hk
    show b_M_count_73 3 μ v (nI k) = _
    unfold b_M_count_73
    rw [if_neg (show ¬ (10 : Int32) ≤ nI k from nI_ge (b := 10) hk (by decide)), if_pos rfl, hev, ix10, mrd_nI (show 10 * e + k < 620 by omega) (by decide), nI_1]
    by_cases h1 : g_mwa μ (10 * e + k) ≤ 0
    · rw [if_pos h1, if_neg (show ¬ decide (0 < g_mwa μ (10 * e + k)) = true from fun z => Int32.not_lt.mpr h1 (of_decide_eq_true z))]
    · rw [if_neg h1, if_pos rfl, if_pos (decide_eq_true (Int32.not_le.mp h1))]
  · intro v
    show b_M_count_73 3 μ v (nI 10) = _
    unfold b_M_count_73
    rw [if_pos (show (10 : Int32) ≤ nI 10 from nI_le (Nat.le_refl _) (by decide))]
theorem Mc73_4 {σ : SP} {μ : SM} {e : Nat} (he : e ≤ 60) (hev : g_mev μ = nI e) (R : RelS σ μ e) : lp (fun s : Int32 × Int32 => b_M_count_73 4 μ s.1 s.2) FU (0, 0) = some (cnt (fun o => decide (0 < g_wa σ o ∧ ¬ g_gt σ o < g_wa σ o)) 10, nI 10) := by
  refine lp_cnt 10 _ ?_ ?_ (by decide)
  · intro k v hk
    obtain ⟨w1, w2, w, g, hw9, hgw, hw, hg, -⟩ := R.2.1 k hk
    show b_M_count_73 4 μ v (nI k) = _
    unfold b_M_count_73
    rw [if_neg (show ¬ (10 : Int32) ≤ nI k from nI_ge (b := 10) hk (by decide)), if_neg (show ¬ (4 : Int32) = 3 by decide), if_pos rfl, hev, ix10, mrd_nI (show 10 * e + k < 620 by omega) (by decide), e_MisOpen (by omega) hk (w1.symm.trans hw) (w2.symm.trans hg) hw9 hgw, mb1_b2i, nI_1, ← w1, hw, hg]
    rcases Nat.eq_zero_or_pos w with z | z
    · subst z
      rw [if_pos (show nI 0 ≤ 0 by decide), if_neg (show ¬ decide ((0 : Int32) < nI 0 ∧ _) = true from fun z => absurd (of_decide_eq_true z).1 (by decide))]
    · rw [if_neg (show ¬ nI w ≤ 0 from nI_nle z (by omega)), if_neg (show ¬ (4 : Int32) = 3 by decide)]
      by_cases h : g < w
      · rw [if_pos h, if_neg (show ¬ decide ((0 : Int32) < nI w ∧ ¬ nI g < nI w) = true from fun z => (of_decide_eq_true z).2 (nI_lt h (by omega)))]
      · rw [if_neg h, if_pos (show decide ((0 : Int32) < nI w ∧ ¬ nI g < nI w) = true from decide_eq_true ⟨nI_lt (a := 0) z (by omega), nI_nlt (by omega) (by omega)⟩)]
  · intro v
    show b_M_count_73 4 μ v (nI 10) = _
    unfold b_M_count_73
    rw [if_pos (show (10 : Int32) ≤ nI 10 from nI_le (Nat.le_refl _) (by decide))]
theorem Mc139_5 {μ : SM} {e : Nat} (he : e ≤ 60) (hev : g_mev μ = nI e) : lp (fun s : Int32 × Int32 => b_M_count_139 5 μ s.1 s.2) FU (0, 0) = some (cnt (lkU (fun i => g_mlk μ (100 * e + i))) 100, nI 100) := by
  refine lp_cnt 100 _ ?_ ?_ (by decide)
  · intro k v hk
    show b_M_count_139 5 μ v (nI k) = _
    unfold b_M_count_139
    rw [if_neg (show ¬ (100 : Int32) ≤ nI k from nI_ge (b := 100) hk (by decide)), if_pos rfl, hev, ix100, mrd_nI (show 100 * e + k < 6200 by omega) (by decide), nI_1, (rem10 hk).1, (rem10 hk).2]
    by_cases h1 : k % 10 ≤ k / 10
    · rw [if_pos (nI_le h1 (by omega)), if_neg (show ¬ lkU (fun i => g_mlk μ (100 * e + i)) k = true from fun z => (of_decide_eq_true z).1 h1)]
    · rw [if_neg (nI_ge (by omega) (by omega))]
      by_cases h2 : g_mlk μ (100 * e + k) ≤ 0
      · rw [if_pos h2, if_neg (show ¬ lkU (fun i => g_mlk μ (100 * e + i)) k = true from fun z => (of_decide_eq_true z).2 h2)]
      · rw [if_neg h2, if_pos (show lkU (fun i => g_mlk μ (100 * e + i)) k = true from decide_eq_true ⟨h1, h2⟩)]
  · intro v
    show b_M_count_139 5 μ v (nI 100) = _
    unfold b_M_count_139
    rw [if_pos (show (100 : Int32) ≤ nI 100 from nI_le (Nat.le_refl _) (by decide))]
