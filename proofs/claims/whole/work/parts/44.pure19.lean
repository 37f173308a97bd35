/-! needs and explained: slot 61 -/
theorem lp_s {S E : Type} {body : S → Option (S ⊕ E)} {s s' : S} {n : Nat} (h : body s = some (.inl s')) : lp body (n + 1) s = lp body n s' := by
  conv => lhs; unfold lp
  rw [h]
theorem lp_x {S E : Type} {body : S → Option (S ⊕ E)} {s : S} {e : E} {n : Nat} (h : body s = some (.inr e)) : lp body (n + 1) s = some e := by
  unfold lp
  rw [h]
def Sep (μ μ' : SM) : Prop := KeepM μ μ' ∧ ∀ s, s ≠ 61 → SlotEq μ μ' s
theorem Sep.tr {μ μ' μ'' : SM} (h : Sep μ μ') (h' : Sep μ' μ'') : Sep μ μ'' := ⟨KeepM.tr h.1 h'.1, fun s hs => SlotEq.tr (h.2 s hs) (h'.2 s hs)⟩
theorem Inv.sep {σ : SP} {μ μ' : SM} {e : Nat} (h : Inv σ μ e) (k : Sep μ μ') : Inv σ μ' e := by
  obtain ⟨h1, h2, h3, h4, h5, h6⟩ := h
  obtain ⟨⟨k1, k2, k3, k4, k5, k6, k7⟩, ks⟩ := k
  refine ⟨h1, h2, k2.trans h3, h4.trans k3.symm, fun i hi => ?_, fun n hn => (h6 n hn).slot (ks n (by omega))⟩
  have a := h5 i hi
  unfold EvAt at a ⊢
  rw [k4, k5, k6, k7]
  exact a
/-- one event at slot 61 -/
theorem try_one {σ : SP} {μ : SM} {e j : Nat} (I : Inv σ μ e) (hj : j < e) (R : RelS σ μ 61) :
    (m_P_takeKept (nI j) σ = some (0, σ) ∧ m_M_can 61 (g_mkd μ j) (g_mxa μ j) (g_mxb μ j) μ = some 0) ∨
    ∃ σ' μ', m_P_takeKept (nI j) σ = some (1, σ') ∧ m_M_can 61 (g_mkd μ j) (g_mxa μ j) (g_mxb μ j) μ = some 1 ∧ m_M_apply 61 (g_mkd μ j) (g_mxa μ j) (g_mxb μ j) (g_mxc μ j) μ = some μ' ∧ RelS σ' μ' 61 ∧ KeepP σ σ' ∧ Sep μ μ' := by
  obtain ⟨h1, h2, h3, h4, h5, h6⟩ := I
  obtain ⟨e0, e1, e2, e3, ok⟩ := h5 j hj
  rw [takeKept_e (by omega), e0, e1, e2, e3]
  rcases step_eq (t := 61) (by decide) R ok with ⟨s1, s2⟩ | ⟨σ', μ', s1, s2, s3, s4, s5, s6, s7⟩
  · exact Or.inl ⟨by rw [s1, mb2_e, mzr_0], s2⟩
  · exact Or.inr ⟨σ', μ', by rw [s1, mb2_e, mzr_1], s2, s3, s4, s5, s6, s7⟩
theorem needs_loop : ∀ (d j : Nat) (v : Int32) (σ : SP) (μ : SM) (e n : Nat), j + d = e → d < n → Inv σ μ e → RelS σ μ 61 → ∃ v' σ' μ', lp (fun s : Int32 × Int32 × SP => b_P_needs_29 s.1 s.2.1 s.2.2) n (v, nI j, σ) = some (v', nI e, σ') ∧ lp (fun s : Int32 × Int32 × SM => b_M_without_14 0 s.1 s.2.1 s.2.2) n (v, nI j, μ) = some (1, v', nI e, μ') ∧ KeepP σ σ' ∧ Sep μ μ' := by
  intro d
  induction d with
  | zero =>
    intro j v σ μ e n hj hn I R
    obtain ⟨n, rfl⟩ : ∃ z, n = z + 1 := ⟨n - 1, by omega⟩
    have hje : j = e := by omega
    subst hje
    refine ⟨v, σ, μ, lp_x ?_, lp_x ?_, ⟨rfl, rfl, rfl⟩, ⟨⟨rfl, rfl, rfl, rfl, rfl, rfl, rfl⟩, fun s _ => SlotEq.rf μ s⟩⟩
    · show b_P_needs_29 v (nI j) σ = _
      unfold b_P_needs_29
      rw [I.2.1, if_pos (Int32.le_refl _)]
    · show b_M_without_14 0 v (nI j) μ = _
      unfold b_M_without_14
      rw [I.2.2.1, if_pos (Int32.le_refl _)]
  | succ d ih =>
    intro j v σ μ e n hj hn I R
    obtain ⟨n, rfl⟩ : ∃ z, n = z + 1 := ⟨n - 1, by omega⟩
    have h60 := I.1
    have nle : ¬ nI e ≤ nI j := nI_ge (by omega) (by omega)
    have rd : ∀ (f : Nat → Int32) (B : Int32 → Option ((Int32 × Int32 × SM) ⊕ (Nat × Int32 × Int32 × SM))), mrd 60 f (nI j) B = B (f j) := fun f B => mrd_nI (by omega) (by decide)
    rcases try_one I (j := j) (by omega) R with ⟨s1, s2⟩ | ⟨σ1, μ1, s1, s2, s3, s4, s5, s6⟩
    · obtain ⟨v', σ', μ', p, q, k, s⟩ := ih (j + 1) (v + 1) σ μ e n (by omega) (by omega) I R
      refine ⟨v', σ', μ', (lp_s ?_).trans p, (lp_s ?_).trans q, k, s⟩
      · show b_P_needs_29 v (nI j) σ = _
        unfold b_P_needs_29
        rw [I.2.1, if_neg nle, s1, mb2_e, if_pos rfl, nI_1]
      · show b_M_without_14 0 v (nI j) μ = _
        unfold b_M_without_14
        rw [I.2.2.1, if_neg nle, rd, rd, rd, s2, mb1_e, if_pos rfl, if_pos rfl, nI_1]
    · obtain ⟨v', σ', μ', p, q, k, s⟩ := ih (j + 1) v σ1 μ1 e n (by omega) (by omega) (Inv.sep (Inv.keepP s5 I) s6) s4
      refine ⟨v', σ', μ', (lp_s ?_).trans p, (lp_s ?_).trans q, s5.tr k, s6.tr s⟩
      · show b_P_needs_29 v (nI j) σ = _
        unfold b_P_needs_29
        rw [I.2.1, if_neg nle, s1, mb2_e, if_neg (show ¬ (1 : Int32) = 0 by decide), nI_1]
      · show b_M_without_14 0 v (nI j) μ = _
        unfold b_M_without_14
        rw [I.2.2.1, if_neg nle, rd, rd, rd, s2, mb1_e, if_neg (show ¬ (1 : Int32) = 0 by decide), rd, rd, rd, rd, s3, mb1_e, nI_1]
theorem expl_loop : ∀ (d j : Nat) (v : Int32) (σ : SP) (μ : SM) (e n : Nat), j + d = e → d < n → Inv σ μ e → RelS σ μ 61 → ∃ tg w σ' μ', lp (fun s : Int32 × SP => b_P_explained_27 s.1 s.2) n (nI j, σ) = some (tg, w, σ') ∧ lp (fun s : Int32 × Int32 × SM => b_M_without_14 1 s.1 s.2.1 s.2.2) n (v, nI j, μ) = some (tg, v, w, μ') ∧ KeepP σ σ' ∧ Sep μ μ' := by
  intro d
  induction d with
  | zero =>
    intro j v σ μ e n hj hn I R
    obtain ⟨n, rfl⟩ : ∃ z, n = z + 1 := ⟨n - 1, by omega⟩
    have hje : j = e := by omega
    subst hje
    refine ⟨1, nI j, σ, μ, lp_x ?_, lp_x ?_, ⟨rfl, rfl, rfl⟩, ⟨⟨rfl, rfl, rfl, rfl, rfl, rfl, rfl⟩, fun s _ => SlotEq.rf μ s⟩⟩
    · show b_P_explained_27 (nI j) σ = _
      unfold b_P_explained_27
      rw [I.2.1, if_pos (Int32.le_refl _)]
    · show b_M_without_14 1 v (nI j) μ = _
      unfold b_M_without_14
      rw [I.2.2.1, if_pos (Int32.le_refl _)]
  | succ d ih =>
    intro j v σ μ e n hj hn I R
    obtain ⟨n, rfl⟩ : ∃ z, n = z + 1 := ⟨n - 1, by omega⟩
    have h60 := I.1
    have nle : ¬ nI e ≤ nI j := nI_ge (by omega) (by omega)
    have rd : ∀ (f : Nat → Int32) (B : Int32 → Option ((Int32 × Int32 × SM) ⊕ (Nat × Int32 × Int32 × SM))), mrd 60 f (nI j) B = B (f j) := fun f B => mrd_nI (by omega) (by decide)
    rcases try_one I (j := j) (by omega) R with ⟨s1, s2⟩ | ⟨σ1, μ1, s1, s2, s3, s4, s5, s6⟩
    · refine ⟨0, nI j, σ, μ, lp_x ?_, lp_x ?_, ⟨rfl, rfl, rfl⟩, ⟨⟨rfl, rfl, rfl, rfl, rfl, rfl, rfl⟩, fun s _ => SlotEq.rf μ s⟩⟩
      · show b_P_explained_27 (nI j) σ = _
        unfold b_P_explained_27
        rw [I.2.1, if_neg nle, s1, mb2_e, if_pos rfl]
      · show b_M_without_14 1 v (nI j) μ = _
        unfold b_M_without_14
        rw [I.2.2.1, if_neg nle, rd, rd, rd, s2, mb1_e, if_pos rfl, if_neg (show ¬ (1 : Int32) = 0 by decide)]
    · obtain ⟨tg, w, σ', μ', p, q, k, s⟩ := ih (j + 1) v σ1 μ1 e n (by omega) (by omega) (Inv.sep (Inv.keepP s5 I) s6) s4
      refine ⟨tg, w, σ', μ', (lp_s ?_).trans p, (lp_s ?_).trans q, s5.tr k, s6.tr s⟩
      · show b_P_explained_27 (nI j) σ = _
        unfold b_P_explained_27
        rw [I.2.1, if_neg nle, s1, mb2_e, if_neg (show ¬ (1 : Int32) = 0 by decide), nI_1]
      · show b_M_without_14 1 v (nI j) μ = _
        unfold b_M_without_14
        rw [I.2.2.1, if_neg nle, rd, rd, rd, s2, mb1_e, if_neg (show ¬ (1 : Int32) = 0 by decide), rd, rd, rd, rd, s3, mb1_e, nI_1]
theorem try_at {σ σ3 : SP} {μ : SM} {e i : Nat} (I : Inv σ μ e) (hi : i < e) (R : RelS σ3 μ i) (K : KeepP σ σ3) : ∃ μ1, m_M_copy (nI i) 61 (u_mcode μ 0) = some μ1 ∧ Inv σ3 μ1 e ∧ RelS σ3 μ1 61 ∧ Sep (u_mcode μ 0) μ1 := by
  have h60 := I.1
  have c := copy_eq (t := i) (s := 61) (by omega) (by omega) (by omega) (u_mcode μ 0)
  have S : Sep (u_mcode μ 0) (cpM i 61 20 10 4 100 (u_mcode μ 0)) := ⟨cp_keep i 61 (u_mcode μ 0), fun s hs => cp_other hs (u_mcode μ 0)⟩
  exact ⟨_, c, Inv.sep ((Inv.keepP K I).code 0) S, cp_rel (μ := u_mcode μ 0) R, S⟩
theorem needs_ok {σ : SP} {μ : SM} {e : Nat} (I : Inv σ μ e) (a : Int32) : Agree1 NSE (m_P_needs a σ) (m_M_needs a μ) := by
  have I0 := I
  obtain ⟨h60, hec, hev, hrc, hat, hrep⟩ := I0
  unfold m_P_needs m_M_needs k_M_needs_14
  rw [isEvent_e, MisEvent_e, mb1_b2i, mb1_b2i, hec, hev]
  simp only [mlet_e]
  by_cases h : Wi a 0 (nI e - 1)
  · rw [if_pos h, if_pos h, if_pos (show g_mcode (u_mcode μ 0) ≤ 0 from Int32.le_refl _)]
    obtain ⟨i, hi, rfl⟩ := wiE1 h60 h
    obtain ⟨σ3, p1, R, K⟩ := I.replay (n := i) (by omega)
    obtain ⟨μ1, c1, I1, R1, S1⟩ := try_at I hi R K
    unfold m_M_without
    obtain ⟨v', σ', μ', q1, q2, k, s⟩ := needs_loop (e - (i + 1)) (i + 1) 0 σ3 μ1 e FU (by omega) (FU_lt (by omega)) I1 R1
    rw [p1, mb1_e, c1, mb1_e, show (1 : Int32) = nI 1 from rfl, nI_add, q1, mb3_e, q2, mb4_e, if_neg (show ¬ (1 : Nat) = 0 by decide), if_pos rfl, mb2_e]
    refine ⟨_, _, _, _, _, e, rfl, rfl, Inv.sep (Inv.keepP k I1) s, Or.inl ⟨rfl, ?_, rfl⟩⟩
    rw [s.1.1, S1.1.1]
  · rw [if_neg h, if_neg h, if_neg (show ¬ g_mcode (u_mcode μ 1) ≤ 0 by show ¬ (1 : Int32) ≤ 0; decide)]
    exact ⟨_, _, _, _, _, e, rfl, rfl, I.code 1, Or.inr ⟨rfl, rfl⟩⟩
theorem explained_ok {σ : SP} {μ : SM} {e : Nat} (I : Inv σ μ e) (a : Int32) : Agree1 NSE (m_P_explained a σ) (m_M_explained a μ) := by
  have I0 := I
  obtain ⟨h60, hec, hev, hrc, hat, hrep⟩ := I0
  unfold m_P_explained m_M_explained k_M_explained_14
  rw [isEvent_e, MisEvent_e, mb1_b2i, mb1_b2i, hec, hev]
  simp only [mlet_e]
  by_cases h : Wi a 0 (nI e - 1)
  · rw [if_pos h, if_pos h, if_pos (show g_mcode (u_mcode μ 0) ≤ 0 from Int32.le_refl _)]
    obtain ⟨i, hi, rfl⟩ := wiE1 h60 h
    obtain ⟨σ3, p1, R, K⟩ := I.replay (n := i) (by omega)
    obtain ⟨μ1, c1, I1, R1, S1⟩ := try_at I hi R K
    unfold m_M_without
    obtain ⟨tg, w, σ', μ', q1, q2, k, s⟩ := expl_loop (e - (i + 1)) (i + 1) 0 σ3 μ1 e FU (by omega) (FU_lt (by omega)) I1 R1
    rw [p1, mb1_e, c1, mb1_e, show nI i + (1 : Int32) = nI (i + 1) from nI_1 i, q1, mb3_e, q2, mb4_e, if_neg (show ¬ (1 : Int32) = 0 by decide)]
    have hc : g_mcode μ' = 0 := by
      rw [s.1.1, S1.1.1]
    by_cases z : tg = 0
    · rw [if_pos z, if_pos z, mb2_e]
      exact ⟨_, _, _, _, _, e, rfl, rfl, Inv.sep (Inv.keepP k I1) s, Or.inl ⟨rfl, hc, rfl⟩⟩
    · rw [if_neg z, if_neg z, mb2_e]
      exact ⟨_, _, _, _, _, e, rfl, rfl, Inv.sep (Inv.keepP k I1) s, Or.inl ⟨rfl, hc, rfl⟩⟩
  · rw [if_neg h, if_neg h, if_neg (show ¬ g_mcode (u_mcode μ 1) ≤ 0 by show ¬ (1 : Int32) ≤ 0; decide)]
    exact ⟨_, _, _, _, _, e, rfl, rfl, I.code 1, Or.inr ⟨rfl, rfl⟩⟩
