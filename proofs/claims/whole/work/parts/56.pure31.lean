/-! a line of the script, both sides -/
theorem lgc (x : Int64) : lg_cmp x x = 0 := by unfold lg_cmp; simp
def zW2 (x1 x2 : String) (f : Nat → Int64) (p : Option (Int32 × String × SP)) : Option (Int32 × SP × (Nat → Int64)) :=
  mb3 p fun r ex σ1 => (if ex = "" then (mck 1 (0 : Int32) (mlet (vp_updL f (0 : Int32).toNatClampNeg r.toInt64) fun f1 => some (0, σ1, f1))) else (if ex = x1 then some (1, σ1, f) else (if ex = x2 then some (2, σ1, f) else none)))
def zW1 (x1 : String) (f : Nat → Int64) (p : Option (Int32 × String × SP)) : Option (Int32 × SP × (Nat → Int64)) :=
  mb3 p fun r ex σ1 => (if ex = "" then (mck 1 (0 : Int32) (mlet (vp_updL f (0 : Int32).toNatClampNeg r.toInt64) fun f1 => some (0, σ1, f1))) else (if ex = x1 then some (1, σ1, f) else none))
def zT3 (v : Int32) (w : Option (Int32 × SP × (Nat → Int64))) (q : Option (Int32 × SM)) : Option (SL ⊕ Bool) :=
  mb3 w fun k7 σ8 f9 => (mb2 q fun r15 μ16 => (mb1 (m_M_thrown μ16) fun r18 => (if r18 = k7 then (if k7 = 0 then (mrd 1 f9 (0 : Int32) fun l19 => (if (lg_cmp l19 (Int32.toInt64 r15)) = 0 then some (.inl (v, σ8, μ16, f9)) else some (.inr false))) else some (.inl (v, σ8, μ16, f9))) else some (.inr false))))
theorem T3_0 {v : Int32} {σ : SP} {μ : SM} {f : Nat → Int64} {r : Int32} (h : g_mcode μ = 0) : zT3 v (some (0, σ, vp_updL f (0 : Int32).toNatClampNeg r.toInt64)) (some (r, μ)) = some (.inl (v, σ, μ, vp_updL f (0 : Int32).toNatClampNeg r.toInt64)) := by
  unfold zT3 m_M_thrown
  have e : vp_updL f (0 : Int32).toNatClampNeg r.toInt64 0 = r.toInt64 := if_pos rfl
  have m0 : ∀ (g : Nat → Int64) (B : Int64 → Option (SL ⊕ Bool)), mrd 1 g (0 : Int32) B = B (g 0) := fun g B => mrd_nI (n := 1) (j := 0) (by decide) (by decide)
  rw [mb3_e, mb2_e, mb1_e, if_pos h, if_pos rfl, m0, e, lgc, if_pos rfl]
theorem T3_n {v k : Int32} {σ : SP} {μ : SM} {f : Nat → Int64} {r : Int32} (hk : ¬ k = 0) (h : g_mcode μ = k) : zT3 v (some (k, σ, f)) (some (r, μ)) = some (.inl (v, σ, μ, f)) := by
  unfold zT3 m_M_thrown
  rw [mb3_e, mb2_e, mb1_e, if_pos h, if_neg hk]
theorem tail2 {x1 x2 : String} {p : Option (Int32 × String × SP)} {q : Option (Int32 × SM)} (h1 : ¬ x1 = "") (h2 : ¬ x2 = "") (h3 : ¬ x2 = x1) (A : Agree x1 x2 p q) (v : Int32) (f : Nat → Int64) : ∃ σ' μ' f' e', zT3 v (zW2 x1 x2 f p) q = some (.inl (v, σ', μ', f')) ∧ Inv σ' μ' e' := by
  obtain ⟨r, ex, σ', rM, μ', e', rfl, rfl, I, ⟨rfl, c, rfl⟩ | ⟨rfl, c⟩ | ⟨rfl, c⟩⟩ := A
  · refine ⟨σ', μ', vp_updL f (0 : Int32).toNatClampNeg rM.toInt64, e', ?_, I⟩
    unfold zW2
    rw [mb3_e, if_pos rfl, show mck 1 (0 : Int32) _ = _ from mck_nI (n := 1) (j := 0) (by decide) (by decide), mlet_e]
    exact T3_0 c
  · refine ⟨σ', μ', f, e', ?_, I⟩
    unfold zW2
    rw [mb3_e, if_neg h1, if_pos rfl]
    exact T3_n (by decide) c
  · refine ⟨σ', μ', f, e', ?_, I⟩
    unfold zW2
    rw [mb3_e, if_neg h2, if_neg h3, if_pos rfl]
    exact T3_n (by decide) c
theorem tail1 {x1 : String} {p : Option (Int32 × String × SP)} {q : Option (Int32 × SM)} (h1 : ¬ x1 = "") (A : Agree1 x1 p q) (v : Int32) (f : Nat → Int64) : ∃ σ' μ' f' e', zT3 v (zW1 x1 f p) q = some (.inl (v, σ', μ', f')) ∧ Inv σ' μ' e' := by
  obtain ⟨r, ex, σ', rM, μ', e', rfl, rfl, I, ⟨rfl, c, rfl⟩ | ⟨rfl, c⟩⟩ := A
  · refine ⟨σ', μ', vp_updL f (0 : Int32).toNatClampNeg rM.toInt64, e', ?_, I⟩
    unfold zW1
    rw [mb3_e, if_pos rfl, show mck 1 (0 : Int32) _ = _ from mck_nI (n := 1) (j := 0) (by decide) (by decide), mlet_e]
    exact T3_0 c
  · refine ⟨σ', μ', f, e', ?_, I⟩
    unfold zW1
    rw [mb3_e, if_neg h1, if_pos rfl]
    exact T3_n (by decide) c
theorem told_tail {σ : SP} {μ : SM} {e : Nat} (I : Inv σ μ e) (a b v : Int32) (f : Nat → Int64) : ∃ σ' μ' f' e', zT3 v (m_L_told a b σ f) (m_M_told a b μ) = some (.inl (v, σ', μ', f')) ∧ Inv σ' μ' e' := by
  obtain ⟨r, ex, rM, μ', p1, p2, J, ⟨rfl, c, rfl⟩ | ⟨rfl, c⟩ | ⟨rfl, c⟩⟩ := told_ok I a b
  · refine ⟨σ, μ', vp_updL f (0 : Int32).toNatClampNeg rM.toInt64, e, ?_, J⟩
    unfold m_L_told
    rw [p1, p2, mb2_e, if_pos rfl, show mck 1 (0 : Int32) _ = _ from mck_nI (n := 1) (j := 0) (by decide) (by decide), mlet_e]
    exact T3_0 c
  · refine ⟨σ, μ', f, e, ?_, J⟩
    unfold m_L_told
    rw [p1, p2, mb2_e, if_neg (by decide), if_pos rfl]
    exact T3_n (by decide) c
  · refine ⟨σ, μ', f, e, ?_, J⟩
    unfold m_L_told
    rw [p1, p2, mb2_e, if_neg (by decide), if_neg (by decide), if_pos rfl]
    exact T3_n (by decide) c
theorem law_step {L : Nat} {xs : Nat → Int32} {σ : SP} {μ : SM} {f : Nat → Int64} {k e : Nat} (I : Inv σ μ e) (hk : 5 * k + 5 ≤ L) (hL : L ≤ 2560) : ∃ σ' μ' f' e', b_law L xs (nI (5 * k)) σ μ f = some (.inl (nI (5 * (k + 1)), σ', μ', f')) ∧ Inv σ' μ' e' := by
  have rd : ∀ (j : Nat), j < 5 → ∀ {α : Type} (B : Int32 → Option α), mrd L xs (nI (5 * k + j)) B = B (xs (5 * k + j)) := fun j hj α B => mrd_nI (by omega) (by omega)
  have n1 : nI (5 * k) + (1 : Int32) = nI (5 * k + 1) := nI_add _ 1
  have n2 : nI (5 * k) + (2 : Int32) = nI (5 * k + 2) := nI_add _ 2
  have n3 : nI (5 * k) + (3 : Int32) = nI (5 * k + 3) := nI_add _ 3
  have n4 : nI (5 * k) + (4 : Int32) = nI (5 * k + 4) := nI_add _ 4
  have n5 : nI (5 * k) + (5 : Int32) = nI (5 * (k + 1)) := nI_add _ 5
  have r0 : ∀ (B : Int32 → Option (SL ⊕ Bool)), mrd L xs (nI (5 * k)) B = B (xs (5 * k)) := fun B => rd 0 (by decide) B
  have r1 : ∀ (B : Int32 → Option (SL ⊕ Bool)), mrd L xs (nI (5 * k + 1)) B = B (xs (5 * k + 1)) := fun B => rd 1 (by decide) B
  have r2 : ∀ (B : Int32 → Option (SL ⊕ Bool)), mrd L xs (nI (5 * k + 2)) B = B (xs (5 * k + 2)) := fun B => rd 2 (by decide) B
  have r3 : ∀ (B : Int32 → Option (SL ⊕ Bool)), mrd L xs (nI (5 * k + 3)) B = B (xs (5 * k + 3)) := fun B => rd 3 (by decide) B
  have r4 : ∀ (B : Int32 → Option (SL ⊕ Bool)), mrd L xs (nI (5 * k + 4)) B = B (xs (5 * k + 4)) := fun B => rd 4 (by decide) B
  have go : ¬ nI L - (5 : Int32) < nI (5 * k) := by
    rw [show nI L - (5 : Int32) = nI (L - 5) from pk_sub (b := 5) (by omega)]
    exact nI_nlt (by omega) (by omega)
  unfold b_law
  rw [if_neg go]
  simp only [n1, n2, n3, n4, n5, r0, r1, r2, r3, r4]
  generalize xs (5 * k) &&& 15 = c
  generalize xs (5 * k + 1) = a1
  generalize xs (5 * k + 2) = a2
  generalize xs (5 * k + 3) = a3
  generalize xs (5 * k + 4) = a4
  generalize nI (5 * (k + 1)) = v
  by_cases c0 : c = 0
  · rw [if_pos c0]; exact tail2 (x1 := IAE) (x2 := UOE) (by decide) (by decide) (by decide) (event_ok I a1 a2 a3 a4) v f
  rw [if_neg c0]
  by_cases c1 : c = 1
  · rw [if_pos c1]; exact tail1 (x1 := IAE) (by decide) (stock_ok I a1 a2) v f
  rw [if_neg c1]
  by_cases c2 : c = 2
  · rw [if_pos c2]; exact tail2 (x1 := NSE) (x2 := IAE) (by decide) (by decide) (by decide) (where_ok I a1 a2) v f
  rw [if_neg c2]
  by_cases c3 : c = 3
  · rw [if_pos c3]; exact tail2 (x1 := NSE) (x2 := IAE) (by decide) (by decide) (by decide) (order_ok I a1 a2) v f
  rw [if_neg c3]
  by_cases c4 : c = 4
  · rw [if_pos c4]; exact tail1 (x1 := NSE) (by decide) (promise_ok I a1) v f
  rw [if_neg c4]
  by_cases c5 : c = 5
  · rw [if_pos c5]; exact tail1 (x1 := IAE) (by decide) (way_ok I a1 a2) v f
  rw [if_neg c5]
  by_cases c6 : c = 6
  · rw [if_pos c6]; exact tail2 (x1 := NSE) (x2 := IAE) (by decide) (by decide) (by decide) (walk_ok I a1 a2) v f
  rw [if_neg c6]
  by_cases c7 : c = 7
  · rw [if_pos c7]; exact tail2 (x1 := NSE) (x2 := IAE) (by decide) (by decide) (by decide) (money_ok I a1 a2) v f
  rw [if_neg c7]
  by_cases c8 : c = 8
  · rw [if_pos c8]; exact tail1 (x1 := NSE) (by decide) (needs_ok I a1) v f
  rw [if_neg c8]
  by_cases c9 : c = 9
  · rw [if_pos c9]; exact tail1 (x1 := NSE) (by decide) (explained_ok I a1) v f
  rw [if_neg c9]
  by_cases c10 : c = 10
  · rw [if_pos c10]; exact told_tail I a1 a2 v f
  rw [if_neg c10]
  by_cases c11 : c = 11
  · rw [if_pos c11]
    obtain ⟨ex, σ', μ', e', p1, p2, J, ⟨rfl, h⟩ | ⟨rfl, h⟩⟩ := back_ok I
    · refine ⟨σ', μ', f, e', ?_, J⟩
      unfold m_L_back m_M_thrown
      rw [p1, p2, mb2_e, if_pos rfl, mb2_e, mb1_e, mb1_e, if_pos h]
    · refine ⟨σ', μ', f, e', ?_, J⟩
      unfold m_L_back m_M_thrown
      rw [p1, p2, mb2_e, if_neg (by decide), if_pos rfl, mb2_e, mb1_e, mb1_e, if_pos h]
  rw [if_neg c11]
  by_cases c12 : c = 12
  · rw [if_pos c12]
    obtain ⟨r, σ', μ', p1, p2, J, -⟩ := count_ok I a1
    exact ⟨σ', μ', f, e, by rw [p1, p2, mb2_e, mb2_e, if_pos rfl], J⟩
  rw [if_neg c12]
  exact ⟨σ, μ, f, e, rfl, I⟩
theorem law_exit {L : Nat} {xs : Nat → Int32} {σ : SP} {μ : SM} {f : Nat → Int64} {k : Nat} (hk : ¬ 5 * k + 5 ≤ L) (hk2 : 5 * k ≤ L) (hL : L ≤ 2560) : b_law L xs (nI (5 * k)) σ μ f = some (.inr true) := by
  unfold b_law
  refine if_pos ?_
  rw [Int32.lt_iff_toInt_lt, show nI L - (5 : Int32) = nI L - nI 5 from rfl, pk_sub_toInt (by omega) (by decide), nI_toInt (by omega)]
  omega
