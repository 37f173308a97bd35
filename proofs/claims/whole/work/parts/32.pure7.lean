theorem copy_2 {t s : Nat} (ht : t < 62) (hs : s < 62) (hts : t ≠ s) (μ : SM) : lp (fun z : Int32 × SM => b_M_copy_82 (nI t) (nI s) z.1 z.2) FU (0, cpM t s 20 0 0 0 μ) = some (nI 10, cpM t s 20 10 0 0 μ) := by
  have h := lp_for (body := fun z : Int32 × SM => b_M_copy_82 (nI t) (nI s) z.1 z.2) 10 (fun k => (nI k, cpM t s 20 k 0 0 μ)) (nI 10, cpM t s 20 10 0 0 μ) ?_ ?_ FU (FU_lt (by decide))
  · exact h
  · intro k hk
    show b_M_copy_82 (nI t) (nI s) (nI k) (cpM t s 20 k 0 0 μ) = _
    unfold b_M_copy_82
    simp only [if_neg (show ¬ (10 : Int32) ≤ nI k from nI_ge (b := 10) hk (by decide)), ix10, mrd_nI (show 10 * t + k < 620 by omega) (by decide : 620 < 2 ^ 31), mck_nI (show 10 * s + k < 620 by omega) (by decide : 620 < 2 ^ 31), mlet_e, nI_clamp (show 10 * s + k < 2 ^ 31 by omega)]
    have q : ∀ f : Nat → Int32, upd (cpK 10 t s k f) (10 * s + k) (cpK 10 t s k f (10 * t + k)) = cpK 10 t s (k + 1) f := fun f => cpK_s (cpK_out (by omega))
    rw [nI_1]
    show some (Sum.inl (nI (k + 1), ((g_mcode μ, g_mev μ, g_mrf μ, g_mkd μ, g_mxa μ, g_mxb μ, g_mxc μ, cpK 20 t s 20 (g_mpl μ), cpK 20 t s 20 (g_mgd μ), cpK 20 t s 20 (g_mgv μ), upd (cpK 10 t s k (g_mwa μ)) (10 * s + k) (cpK 10 t s k (g_mwa μ) (10 * t + k)), upd (cpK 10 t s k (g_mog μ)) (10 * s + k) (cpK 10 t s k (g_mog μ) (10 * t + k)), upd (cpK 10 t s k (g_mgt μ)) (10 * s + k) (cpK 10 t s k (g_mgt μ) (10 * t + k)), cpK 4 t s 0 (g_mce μ), cpK 100 t s 0 (g_mlk μ), g_mfa μ, g_mst μ, g_mco μ) : SM))) = some (Sum.inl (nI (k + 1), cpM t s 20 (k + 1) 0 0 μ))
    rw [q, q, q]
    rfl
  · show b_M_copy_82 (nI t) (nI s) (nI 10) (cpM t s 20 10 0 0 μ) = _
    unfold b_M_copy_82
    rw [if_pos (show (10 : Int32) ≤ nI 10 from nI_le (Nat.le_refl _) (by decide))]
theorem copy_3 {t s : Nat} (ht : t < 62) (hs : s < 62) (hts : t ≠ s) (μ : SM) : lp (fun z : Int32 × SM => b_M_copy_162 (nI t) (nI s) z.1 z.2) FU (0, cpM t s 20 10 0 0 μ) = some (nI 4, cpM t s 20 10 4 0 μ) := by
  have h := lp_for (body := fun z : Int32 × SM => b_M_copy_162 (nI t) (nI s) z.1 z.2) 4 (fun k => (nI k, cpM t s 20 10 k 0 μ)) (nI 4, cpM t s 20 10 4 0 μ) ?_ ?_ FU (FU_lt (by decide))
  · exact h
  · intro k hk
    show b_M_copy_162 (nI t) (nI s) (nI k) (cpM t s 20 10 k 0 μ) = _
    unfold b_M_copy_162
    simp only [if_neg (show ¬ (4 : Int32) ≤ nI k from nI_ge (b := 4) hk (by decide)), ix4, mrd_nI (show 4 * t + k < 248 by omega) (by decide : 248 < 2 ^ 31), mck_nI (show 4 * s + k < 248 by omega) (by decide : 248 < 2 ^ 31), mlet_e, nI_clamp (show 4 * s + k < 2 ^ 31 by omega)]
    have q : ∀ f : Nat → Int32, upd (cpK 4 t s k f) (4 * s + k) (cpK 4 t s k f (4 * t + k)) = cpK 4 t s (k + 1) f := fun f => cpK_s (cpK_out (by omega))
    rw [nI_1]
    show some (Sum.inl (nI (k + 1), ((g_mcode μ, g_mev μ, g_mrf μ, g_mkd μ, g_mxa μ, g_mxb μ, g_mxc μ, cpK 20 t s 20 (g_mpl μ), cpK 20 t s 20 (g_mgd μ), cpK 20 t s 20 (g_mgv μ), cpK 10 t s 10 (g_mwa μ), cpK 10 t s 10 (g_mog μ), cpK 10 t s 10 (g_mgt μ), upd (cpK 4 t s k (g_mce μ)) (4 * s + k) (cpK 4 t s k (g_mce μ) (4 * t + k)), cpK 100 t s 0 (g_mlk μ), g_mfa μ, g_mst μ, g_mco μ) : SM))) = some (Sum.inl (nI (k + 1), cpM t s 20 10 (k + 1) 0 μ))
    rw [q]
    rfl
  · show b_M_copy_162 (nI t) (nI s) (nI 4) (cpM t s 20 10 4 0 μ) = _
    unfold b_M_copy_162
    rw [if_pos (show (4 : Int32) ≤ nI 4 from nI_le (Nat.le_refl _) (by decide))]
theorem copy_4 {t s : Nat} (ht : t < 62) (hs : s < 62) (hts : t ≠ s) (μ : SM) : lp (fun z : Int32 × SM => b_M_copy_195 (nI t) (nI s) z.1 z.2) FU (0, cpM t s 20 10 4 0 μ) = some (nI 100, cpM t s 20 10 4 100 μ) := by
  have h := lp_for (body := fun z : Int32 × SM => b_M_copy_195 (nI t) (nI s) z.1 z.2) 100 (fun k => (nI k, cpM t s 20 10 4 k μ)) (nI 100, cpM t s 20 10 4 100 μ) ?_ ?_ FU (FU_lt (by decide))
  · exact h
  · intro k hk
    show b_M_copy_195 (nI t) (nI s) (nI k) (cpM t s 20 10 4 k μ) = _
    unfold b_M_copy_195
    simp only [if_neg (show ¬ (100 : Int32) ≤ nI k from nI_ge (b := 100) hk (by decide)), ix100, mrd_nI (show 100 * t + k < 6200 by omega) (by decide : 6200 < 2 ^ 31), mck_nI (show 100 * s + k < 6200 by omega) (by decide : 6200 < 2 ^ 31), mlet_e, nI_clamp (show 100 * s + k < 2 ^ 31 by omega)]
    have q : ∀ f : Nat → Int32, upd (cpK 100 t s k f) (100 * s + k) (cpK 100 t s k f (100 * t + k)) = cpK 100 t s (k + 1) f := fun f => cpK_s (cpK_out (by omega))
    rw [nI_1]
    show some (Sum.inl (nI (k + 1), ((g_mcode μ, g_mev μ, g_mrf μ, g_mkd μ, g_mxa μ, g_mxb μ, g_mxc μ, cpK 20 t s 20 (g_mpl μ), cpK 20 t s 20 (g_mgd μ), cpK 20 t s 20 (g_mgv μ), cpK 10 t s 10 (g_mwa μ), cpK 10 t s 10 (g_mog μ), cpK 10 t s 10 (g_mgt μ), cpK 4 t s 4 (g_mce μ), upd (cpK 100 t s k (g_mlk μ)) (100 * s + k) (cpK 100 t s k (g_mlk μ) (100 * t + k)), g_mfa μ, g_mst μ, g_mco μ) : SM))) = some (Sum.inl (nI (k + 1), cpM t s 20 10 4 (k + 1) μ))
    rw [q]
    rfl
  · show b_M_copy_195 (nI t) (nI s) (nI 100) (cpM t s 20 10 4 100 μ) = _
    unfold b_M_copy_195
    rw [if_pos (show (100 : Int32) ≤ nI 100 from nI_le (Nat.le_refl _) (by decide))]
theorem copy_eq {t s : Nat} (ht : t < 62) (hs : s < 62) (hts : t ≠ s) (μ : SM) : m_M_copy (nI t) (nI s) μ = some (cpM t s 20 10 4 100 μ) := by
  unfold m_M_copy
  rw [copy_1 ht hs hts, mb2_e, copy_2 ht hs hts, mb2_e, copy_3 ht hs hts, mb2_e, copy_4 ht hs hts, mb2_e]
theorem cp_keep (t s : Nat) (μ : SM) : KeepM μ (cpM t s 20 10 4 100 μ) := ⟨rfl, rfl, rfl, rfl, rfl, rfl, rfl⟩
theorem cp_other {t s r : Nat} (hr : r ≠ s) (μ : SM) : SlotEq μ (cpM t s 20 10 4 100 μ) r :=
  ⟨fun u hu => ⟨cpK_out (by omega), cpK_out (by omega), cpK_out (by omega)⟩, fun u hu => ⟨cpK_out (by omega), cpK_out (by omega), cpK_out (by omega)⟩, fun u hu => cpK_out (by omega), fun u hu => cpK_out (by omega)⟩
theorem cp_rel {σ : SP} {t s : Nat} {μ : SM} (R : RelS σ μ t) : RelS σ (cpM t s 20 10 4 100 μ) s := by
  obtain ⟨RU, RO, RC, RL⟩ := R
  refine ⟨fun u hu => ?_, fun u hu => ?_, fun u hu => ?_, fun u hu => ?_⟩
  · obtain ⟨e1, e2, e3, e4⟩ := RU u hu
    show g_pl σ u = cpK 20 t s 20 (g_mpl μ) (20 * s + u) ∧ g_gv σ u = cpK 20 t s 20 (g_mgv μ) (20 * s + u) ∧ ((g_pl σ u = -1 ∧ g_gv σ u = -1) ∨ (∃ q, q < 10 ∧ g_pl σ u = nI q) ∧ g_gd σ u = cpK 20 t s 20 (g_mgd μ) (20 * s + u) ∧ ∃ d, d < 6 ∧ g_gd σ u = nI d) ∧ (g_gv σ u = -1 ∨ ∃ o, o < 10 ∧ g_gv σ u = nI o)
    rw [cpK_in hu, cpK_in hu, cpK_in hu]
    exact ⟨e1, e2, e3, e4⟩
  · have h := RO u hu
    show g_wa σ u = cpK 10 t s 10 (g_mwa μ) (10 * s + u) ∧ g_gt σ u = cpK 10 t s 10 (g_mgt μ) (10 * s + u) ∧ ∃ w g, w < 10 ∧ g ≤ w ∧ g_wa σ u = nI w ∧ g_gt σ u = nI g ∧ (w = 0 ∨ (g_gw σ u = cpK 10 t s 10 (g_mog μ) (10 * s + u) ∧ ∃ d, d < 6 ∧ g_gw σ u = nI d))
    rw [cpK_in hu, cpK_in hu, cpK_in hu]
    exact h
  · show g_ce σ u = cpK 4 t s 4 (g_mce μ) (4 * s + u)
    rw [cpK_in hu]
    exact RC u hu
  · have h := RL u hu
    show g_lk σ u = cpK 100 t s 100 (g_mlk μ) (100 * s + u) ∧ _
    rw [cpK_in hu]
    exact h
theorem RelS.slot {σ : SP} {t : Nat} {μ μ' : SM} (h : SlotEq μ μ' t) (R : RelS σ μ t) : RelS σ μ' t := by
  obtain ⟨RU, RO, RC, RL⟩ := R
  obtain ⟨HU, HO, HC, HL⟩ := h
  refine ⟨fun u hu => ?_, fun u hu => ?_, fun u hu => ?_, fun u hu => ?_⟩
  · have a := RU u hu
    unfold RelU at a ⊢
    rw [(HU u hu).1, (HU u hu).2.1, (HU u hu).2.2]
    exact a
  · have a := RO u hu
    unfold RelO at a ⊢
    rw [(HO u hu).1, (HO u hu).2.1, (HO u hu).2.2]
    exact a
  · rw [HC u hu]; exact RC u hu
  · have a := RL u hu
    unfold RelL at a ⊢
    rw [HL u hu]
    exact a
theorem SlotEq.tr {μ μ' μ'' : SM} {s : Nat} (h1 : SlotEq μ μ' s) (h2 : SlotEq μ' μ'' s) : SlotEq μ μ'' s :=
  ⟨fun u hu => ⟨(h2.1 u hu).1.trans (h1.1 u hu).1, (h2.1 u hu).2.1.trans (h1.1 u hu).2.1, (h2.1 u hu).2.2.trans (h1.1 u hu).2.2⟩, fun u hu => ⟨(h2.2.1 u hu).1.trans (h1.2.1 u hu).1, (h2.2.1 u hu).2.1.trans (h1.2.1 u hu).2.1, (h2.2.1 u hu).2.2.trans (h1.2.1 u hu).2.2⟩, fun u hu => (h2.2.2.1 u hu).trans (h1.2.2.1 u hu), fun u hu => (h2.2.2.2 u hu).trans (h1.2.2.2 u hu)⟩
theorem KeepP.tr {a b c : SP} (h1 : KeepP a b) (h2 : KeepP b c) : KeepP a c := ⟨h2.1.trans h1.1, h2.2.1.trans h1.2.1, h2.2.2.trans h1.2.2⟩
theorem KeepM.tr {a b c : SM} (h1 : KeepM a b) (h2 : KeepM b c) : KeepM a c := ⟨h2.1.trans h1.1, h2.2.1.trans h1.2.1, h2.2.2.1.trans h1.2.2.1, h2.2.2.2.1.trans h1.2.2.2.1, h2.2.2.2.2.1.trans h1.2.2.2.2.1, h2.2.2.2.2.2.1.trans h1.2.2.2.2.2.1, h2.2.2.2.2.2.2.trans h1.2.2.2.2.2.2⟩
/-! the row replayed -/
def rep : Nat → SP → Option SP
  | 0, σ => m_H_empty σ
  | k + 1, σ => (rep k σ).bind fun σ1 => (m_P_takeKept (nI k) σ1).map (·.2)
theorem rep_le {σ σ' : SP} : ∀ {n : Nat}, rep n σ = some σ' → ∀ k, k ≤ n → ∃ τ, rep k σ = some τ := by
  intro n
  induction n generalizing σ' with
  | zero =>
    intro h k hk
    have e : k = 0 := by omega
    subst e
    exact ⟨_, h⟩
  | succ n ih =>
    intro h k hk
    rcases Nat.lt_or_ge n k with e | e
    · have e2 : k = n + 1 := by omega
      subst e2
      exact ⟨_, h⟩
    · unfold rep at h
      obtain ⟨τ, h1, -⟩ := Option.bind_eq_some_iff.mp h
      exact ih h1 k e
theorem replay_of {σ σ' : SP} {n : Nat} (hn : n ≤ 60) (h : rep n σ = some σ') : m_P_replay (nI n) σ = some σ' := by
  unfold m_P_replay
  obtain ⟨τ0, h0⟩ := rep_le h 0 (Nat.zero_le _)
  have h00 : m_H_empty σ = some τ0 := h0
  rw [h00, mb1_e]
  have hl := lp_for (body := fun s : Int32 × SP => b_P_replay_9 (nI n) s.1 s.2) n (fun k => (nI k, (rep k σ).getD σ)) (nI n, σ') ?_ ?_ FU (FU_lt (by omega))
  · have e : ((0 : Int32), τ0) = (nI 0, (rep 0 σ).getD σ) := by rw [h0]; rfl
    rw [e, hl, mb2_e]
  · intro k hk
    show b_P_replay_9 (nI n) (nI k) ((rep k σ).getD σ) = _
    obtain ⟨τ, h1⟩ := rep_le h k (by omega)
    obtain ⟨τ', h2⟩ := rep_le h (k + 1) (by omega)
    have h3 := h2
    unfold rep at h3
    rw [h1] at h3
    obtain ⟨⟨r, τ2⟩, h4, h5⟩ := Option.map_eq_some_iff.mp (show (m_P_takeKept (nI k) τ).map (·.2) = some τ' from h3)
    unfold b_P_replay_9
    rw [if_neg (nI_ge hk (by omega)), h1, h2]
    show (mb2 (m_P_takeKept (nI k) τ) fun r3 σ4 => some (Sum.inl (nI k + 1, σ4))) = _
    rw [h4, mb2_e, nI_1]
    have h6 : τ2 = τ' := h5
    rw [h6]
    rfl
  · show b_P_replay_9 (nI n) (nI n) ((rep n σ).getD σ) = _
    unfold b_P_replay_9
    rw [if_pos (nI_le (Nat.le_refl _) (by omega)), h]
    rfl
