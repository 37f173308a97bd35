/-! the row of the class beside the events of the reference -/
theorem ixr (i j : Nat) : nI i * (4 : Int32) + nI j = nI (4 * i + j) := by rw [show (4 : Int32) = nI 4 from rfl, pk_mul, nI_add, Nat.mul_comm]
theorem ixr0 (i : Nat) : nI i * (4 : Int32) = nI (4 * i) := by rw [show (4 : Int32) = nI 4 from rfl, pk_mul, Nat.mul_comm]
theorem takeKept_e {σ : SP} {i : Nat} (hi : i < 60) : m_P_takeKept (nI i) σ = (mb2 (m_H_take (g_row σ (4 * i)) (g_row σ (4 * i + 1)) (g_row σ (4 * i + 2)) (g_row σ (4 * i + 3)) σ) fun r5 σ6 => (mzr r5 (some (r5, σ6)))) := by
  unfold m_P_takeKept
  rw [show (1 : Int32) = nI 1 from rfl, show (2 : Int32) = nI 2 from rfl, show (3 : Int32) = nI 3 from rfl, ixr, ixr, ixr, ixr0, mrd_nI (by omega) (by decide), mrd_nI (by omega) (by decide), mrd_nI (by omega) (by decide), mrd_nI (by omega) (by decide)]
/-- event i stands alike on both sides, in its ranges -/
def EvAt (σ : SP) (μ : SM) (i : Nat) : Prop := g_row σ (4 * i) = g_mkd μ i ∧ g_row σ (4 * i + 1) = g_mxa μ i ∧ g_row σ (4 * i + 2) = g_mxb μ i ∧ g_row σ (4 * i + 3) = g_mxc μ i ∧ EvOK (g_mkd μ i) (g_mxa μ i) (g_mxb μ i) (g_mxc μ i)
theorem empty_e (σ : SP) : ∃ σ', m_H_empty σ = some σ' ∧ KeepP σ σ' ∧ (∀ u, u < 20 → g_pl σ' u = -1 ∧ g_gv σ' u = -1) ∧ (∀ o, o < 10 → g_wa σ' o = 0 ∧ g_gt σ' o = 0) ∧ (∀ w, w < 4 → g_ce σ' w = 0) ∧ (∀ i, i < 100 → g_lk σ' i = 0) := by
  unfold m_H_empty
  simp only [mlet_e]
  refine ⟨_, rfl, ⟨rfl, rfl, rfl⟩, fun u hu => ⟨if_pos hu, if_pos hu⟩, fun o ho => ⟨if_pos ho, if_pos ho⟩, fun w hw => if_pos hw, fun i hi => if_pos hi⟩
/-- slot 0 of the reference is the empty house -/
def Slot0 (μ : SM) : Prop := (∀ u, u < 20 → g_mpl μ u = -1 ∧ g_mgv μ u = -1) ∧ (∀ o, o < 10 → g_mwa μ o = 0 ∧ g_mgt μ o = 0) ∧ (∀ w, w < 4 → g_mce μ w = 0) ∧ (∀ i, i < 100 → g_mlk μ i = 0)
theorem empty_rel {σ : SP} {μ : SM} (h0 : Slot0 μ) : ∃ σ', m_H_empty σ = some σ' ∧ KeepP σ σ' ∧ RelS σ' μ 0 := by
  obtain ⟨σ', h1, h2, hu, ho, hc, hl⟩ := empty_e σ
  obtain ⟨ku, ko, kc, kl⟩ := h0
  refine ⟨σ', h1, h2, fun u h => ?_, fun u h => ?_, fun u h => ?_, fun u h => ?_⟩
  · have e : 20 * 0 + u = u := by omega
    unfold RelU
    rw [e]
    exact ⟨by rw [(hu u h).1, (ku u h).1], by rw [(hu u h).2, (ku u h).2], Or.inl (hu u h), Or.inl (hu u h).2⟩
  · have e : 10 * 0 + u = u := by omega
    unfold RelO
    rw [e]
    exact ⟨by rw [(ho u h).1, (ko u h).1], by rw [(ho u h).2, (ko u h).2], 0, 0, by decide, Nat.le_refl _, (ho u h).1, (ho u h).2, Or.inl rfl⟩
  · have e : 4 * 0 + u = u := by omega
    rw [e, hc u h, kc u h]
  · have e : 100 * 0 + u = u := by omega
    unfold RelL
    rw [e]
    exact ⟨by rw [hl u h, kl u h], 0, by decide, hl u h⟩
/-- what n events replayed give, for every class state with this row -/
def RepOK (row : Nat → Int32) (μ : SM) (n : Nat) : Prop := ∀ σ : SP, (∀ i, i < 4 * n → g_row σ i = row i) → ∃ σ', rep n σ = some σ' ∧ RelS σ' μ n ∧ KeepP σ σ'
theorem RepOK.row {row row' : Nat → Int32} {μ : SM} {n : Nat} (h : RepOK row μ n) (e : ∀ i, i < 4 * n → row' i = row i) : RepOK row' μ n := fun σ hσ => h σ (fun i hi => (hσ i hi).trans (e i hi))
theorem RepOK.slot {row : Nat → Int32} {μ μ' : SM} {n : Nat} (h : RepOK row μ n) (e : SlotEq μ μ' n) : RepOK row μ' n := fun σ hσ => by
  obtain ⟨σ', h1, h2, h3⟩ := h σ hσ
  exact ⟨σ', h1, h2.slot e, h3⟩
theorem rep_step {σ σ' : SP} {n : Nat} (h : rep n σ = some σ') {r : Int32} {τ : SP} (ht : m_P_takeKept (nI n) σ' = some (r, τ)) : rep (n + 1) σ = some τ := by
  unfold rep
  rw [h]
  show (m_P_takeKept (nI n) σ').map (·.2) = some τ
  rw [ht]
  rfl
