/-! the two sides together -/
def Inv (σ : SP) (μ : SM) (e : Nat) : Prop := e ≤ 60 ∧ g_ec σ = nI e ∧ g_mev μ = nI e ∧ g_rc σ = g_mrf μ ∧ (∀ i, i < e → EvAt σ μ i) ∧ (∀ n, n ≤ e → RepOK (g_row σ) μ n)
theorem Inv.code {σ : SP} {μ : SM} {e : Nat} (h : Inv σ μ e) (v : Int32) : Inv σ (u_mcode μ v) e := h
theorem Inv.keepP {σ σ' : SP} {μ : SM} {e : Nat} (k : KeepP σ σ') (h : Inv σ μ e) : Inv σ' μ e := by
  obtain ⟨k1, k2, k3⟩ := k
  obtain ⟨h1, h2, h3, h4, h5, h6⟩ := h
  refine ⟨h1, k2.trans h2, h3, k3.trans h4, fun i hi => ?_, fun n hn => by rw [k1]; exact h6 n hn⟩
  have a := h5 i hi
  unfold EvAt at a ⊢
  rw [k1]
  exact a
theorem Inv.replay {σ : SP} {μ : SM} {e n : Nat} (h : Inv σ μ e) (hn : n ≤ e) : ∃ σ', m_P_replay (nI n) σ = some σ' ∧ RelS σ' μ n ∧ KeepP σ σ' := by
  obtain ⟨σ', h1, h2, h3⟩ := h.2.2.2.2.2 n hn σ (fun _ _ => rfl)
  exact ⟨σ', replay_of (by have := h.1; omega) h1, h2, h3⟩
theorem inv_0 : Inv S0 M1 0 := by
  refine ⟨by decide, rfl, rfl, rfl, fun i hi => absurd hi (by omega), fun n hn => ?_⟩
  have e : n = 0 := by omega
  subst e
  intro σ _
  have z : Slot0 M1 := ⟨fun u hu => ⟨if_pos hu, if_pos hu⟩, fun _ _ => ⟨rfl, rfl⟩, fun _ _ => rfl, fun _ _ => rfl⟩
  obtain ⟨σ', h1, h2, h3⟩ := empty_rel (σ := σ) z
  exact ⟨σ', h1, h3, h2⟩
/-- the reference's event, its code set -/
theorem Mev_no (k a b c s : Int32) (μ : SM) (hs : ¬ s ≤ 0) : k_M_event_30 k a b c s μ = some (0, u_mcode μ s) := by
  unfold k_M_event_30
  rw [mlet_e]
  exact if_neg hs
def mkM (μ : SM) (e : Nat) (k a b c : Int32) : SM := u_mxc (u_mxb (u_mxa (u_mkd (u_mcode μ 0) (upd (g_mkd μ) (nI e).toNatClampNeg k)) (upd (g_mxa μ) (nI e).toNatClampNeg a)) (upd (g_mxb μ) (nI e).toNatClampNeg b)) (upd (g_mxc μ) (nI e).toNatClampNeg c)
theorem Mev_go {k a b c : Int32} {μ : SM} {e : Nat} (he : e < 60) (hev : g_mev μ = nI e) : k_M_event_30 k a b c 0 μ = (mb1 (m_M_can (nI e) k a b (u_mcode μ 0)) fun r4 => (if r4 = 0 then some (0, u_mrf (u_mcode μ 0) (g_mrf μ + 1)) else (mb1 (m_M_copy (nI e) (nI e + 1) (mkM μ e k a b c)) fun σ10 => (mb1 (m_M_apply (g_mev σ10 + 1) k a b c (u_mev σ10 (g_mev σ10 + 1))) fun σ13 => some (1, σ13))))) := by
  obtain ⟨mc, mev, rest⟩ := μ
  have hev : mev = nI e := hev
  subst hev
  unfold k_M_event_30
  simp only [mlet_e]
  rw [if_pos (show g_mcode (u_mcode (mc, nI e, rest) 0) ≤ 0 from Int32.le_refl _)]
  show (mb1 (m_M_can (nI e) k a b (u_mcode (mc, nI e, rest) 0)) fun r4 => _) = _
  congr 1
  funext r4
  by_cases h : r4 = 0
  · rw [if_pos h, if_pos h]
  · rw [if_neg h, if_neg h]
    show mck 60 (nI e) (mck 60 (nI e) (mck 60 (nI e) (mck 60 (nI e) _))) = _
    rw [mck_nI he (by decide), mck_nI he (by decide), mck_nI he (by decide), mck_nI he (by decide)]
    rfl
