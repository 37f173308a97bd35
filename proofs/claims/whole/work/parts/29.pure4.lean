/-! an event that happens, on both sides -/
def SlotEq (μ μ' : SM) (s : Nat) : Prop := (∀ u, u < 20 → g_mpl μ' (20 * s + u) = g_mpl μ (20 * s + u) ∧ g_mgd μ' (20 * s + u) = g_mgd μ (20 * s + u) ∧ g_mgv μ' (20 * s + u) = g_mgv μ (20 * s + u)) ∧ (∀ o, o < 10 → g_mwa μ' (10 * s + o) = g_mwa μ (10 * s + o) ∧ g_mog μ' (10 * s + o) = g_mog μ (10 * s + o) ∧ g_mgt μ' (10 * s + o) = g_mgt μ (10 * s + o)) ∧ (∀ w, w < 4 → g_mce μ' (4 * s + w) = g_mce μ (4 * s + w)) ∧ (∀ i, i < 100 → g_mlk μ' (100 * s + i) = g_mlk μ (100 * s + i))
def KeepP (σ σ' : SP) : Prop := g_row σ' = g_row σ ∧ g_ec σ' = g_ec σ ∧ g_rc σ' = g_rc σ
def KeepM (μ μ' : SM) : Prop := g_mcode μ' = g_mcode μ ∧ g_mev μ' = g_mev μ ∧ g_mrf μ' = g_mrf μ ∧ g_mkd μ' = g_mkd μ ∧ g_mxa μ' = g_mxa μ ∧ g_mxb μ' = g_mxb μ ∧ g_mxc μ' = g_mxc μ
theorem upd_rel {f g : Nat → Int32} {N t j u : Nat} {v : Int32} (h : f u = g (N * t + u)) : upd f j v u = upd g (N * t + j) v (N * t + u) := by
  unfold upd
  by_cases e : u = j
  · rw [if_pos e, if_pos (by rw [e])]
  · rw [if_neg e, if_neg (by omega)]; exact h
theorem upd_o20 {g : Nat → Int32} {t s j u : Nat} {v : Int32} (hs : s ≠ t) (hj : j < 20) (hu : u < 20) : upd g (20 * t + j) v (20 * s + u) = g (20 * s + u) := upd_ne _ _ (by omega)
theorem upd_o10 {g : Nat → Int32} {t s j u : Nat} {v : Int32} (hs : s ≠ t) (hj : j < 10) (hu : u < 10) : upd g (10 * t + j) v (10 * s + u) = g (10 * s + u) := upd_ne _ _ (by omega)
theorem upd_o4 {g : Nat → Int32} {t s j u : Nat} {v : Int32} (hs : s ≠ t) (hj : j < 4) (hu : u < 4) : upd g (4 * t + j) v (4 * s + u) = g (4 * s + u) := upd_ne _ _ (by omega)
theorem upd_o100 {g : Nat → Int32} {t s j u : Nat} {v : Int32} (hs : s ≠ t) (hj : j < 100) (hu : u < 100) : upd g (100 * t + j) v (100 * s + u) = g (100 * s + u) := upd_ne _ _ (by omega)
def App (σ : SP) (μ : SM) (t : Nat) (k a b c : Int32) : Prop := ∃ σ' μ', m_H_happen k a b c σ = some σ' ∧ m_M_apply (nI t) k a b c μ = some μ' ∧ RelS σ' μ' t ∧ KeepP σ σ' ∧ KeepM μ μ' ∧ ∀ s, s ≠ t → SlotEq μ μ' s
theorem SlotEq.rf (μ : SM) (s : Nat) : SlotEq μ μ s := ⟨fun _ _ => ⟨rfl, rfl, rfl⟩, fun _ _ => ⟨rfl, rfl, rfl⟩, fun _ _ => rfl, fun _ _ => rfl⟩
theorem app0 {σ : SP} {μ : SM} {t : Nat} (ht : t < 62) (R : RelS σ μ t) {j g p : Nat} (hj : j < 20) (hg : g < 6) (hp : p < 10) (out : g_pl σ j = -1) : App σ μ t 0 (nI j) (nI g) (nI p) := by
  obtain ⟨RU, RO, RC, RL⟩ := R
  unfold App m_H_happen m_M_apply m_H_come
  simp only [if_true, ix20, mck_nI hj (by decide : 20 < 2 ^ 31), mck_nI (show 20 * t + j < 1240 by omega) (by decide : 1240 < 2 ^ 31), mlet_e, mb1_e, nI_clamp (show j < 2 ^ 31 by omega), nI_clamp (show 20 * t + j < 2 ^ 31 by omega)]
  refine ⟨_, _, rfl, rfl, ⟨fun u hu => ?_, RO, RC, RL⟩, ⟨rfl, rfl, rfl⟩, ⟨rfl, rfl, rfl, rfl, rfl, rfl, rfl⟩, fun s hs => ⟨fun u hu => ⟨upd_o20 hs hj hu, upd_o20 hs hj hu, upd_o20 hs hj hu⟩, fun _ _ => ⟨rfl, rfl, rfl⟩, fun _ _ => rfl, fun _ _ => rfl⟩⟩
  obtain ⟨e1, e2, e3, e4⟩ := RU u hu
  show upd (g_pl σ) j (nI p) u = upd (g_mpl μ) (20 * t + j) (nI p) (20 * t + u) ∧ g_gv σ u = upd (g_mgv μ) (20 * t + j) (-1) (20 * t + u) ∧ ((upd (g_pl σ) j (nI p) u = -1 ∧ g_gv σ u = -1) ∨ (∃ q, q < 10 ∧ upd (g_pl σ) j (nI p) u = nI q) ∧ upd (g_gd σ) j (nI g) u = upd (g_mgd μ) (20 * t + j) (nI g) (20 * t + u) ∧ ∃ d, d < 6 ∧ upd (g_gd σ) j (nI g) u = nI d) ∧ (g_gv σ u = -1 ∨ ∃ o, o < 10 ∧ g_gv σ u = nI o)
  by_cases h : u = j
  · subst h
    have hgv : g_gv σ u = -1 := by
      rcases e3 with e | ⟨⟨q, hq, e⟩, -⟩
      · exact e.2
      · rw [out] at e; exact absurd e.symm (nI_ne_m1 (by omega))
    simp only [upd_same]
    exact ⟨trivial, hgv, Or.inr ⟨⟨p, hp, rfl⟩, trivial, g, hg, rfl⟩, Or.inl hgv⟩
  · simp only [upd_ne _ _ h, upd_ne _ _ (show 20 * t + u ≠ 20 * t + j by omega)]
    exact ⟨e1, e2, e3, e4⟩
theorem app1 {σ : SP} {μ : SM} {t : Nat} (ht : t < 62) (R : RelS σ μ t) {j p : Nat} (hj : j < 20) (hp : p < 10) (inn : ¬ g_pl σ j = -1) : App σ μ t 1 (nI j) (nI p) 0 := by
  obtain ⟨RU, RO, RC, RL⟩ := R
  unfold App m_H_happen m_M_apply
  simp only [show ¬ ((1 : Int32) = 0) by decide, if_false, if_true, ix20, mck_nI hj (by decide : 20 < 2 ^ 31), mck_nI (show 20 * t + j < 1240 by omega) (by decide : 1240 < 2 ^ 31), mlet_e, mb1_e, nI_clamp (show j < 2 ^ 31 by omega), nI_clamp (show 20 * t + j < 2 ^ 31 by omega)]
  refine ⟨_, _, rfl, rfl, ⟨fun u hu => ?_, RO, RC, RL⟩, ⟨rfl, rfl, rfl⟩, ⟨rfl, rfl, rfl, rfl, rfl, rfl, rfl⟩, fun s hs => ⟨fun u hu => ⟨upd_o20 hs hj hu, rfl, rfl⟩, fun _ _ => ⟨rfl, rfl, rfl⟩, fun _ _ => rfl, fun _ _ => rfl⟩⟩
  obtain ⟨e1, e2, e3, e4⟩ := RU u hu
  show upd (g_pl σ) j (nI p) u = upd (g_mpl μ) (20 * t + j) (nI p) (20 * t + u) ∧ g_gv σ u = g_mgv μ (20 * t + u) ∧ ((upd (g_pl σ) j (nI p) u = -1 ∧ g_gv σ u = -1) ∨ (∃ q, q < 10 ∧ upd (g_pl σ) j (nI p) u = nI q) ∧ g_gd σ u = g_mgd μ (20 * t + u) ∧ ∃ d, d < 6 ∧ g_gd σ u = nI d) ∧ (g_gv σ u = -1 ∨ ∃ o, o < 10 ∧ g_gv σ u = nI o)
  by_cases h : u = j
  · subst h
    simp only [upd_same]
    exact ⟨trivial, e2, Or.inr ⟨⟨p, hp, rfl⟩, (e3.resolve_left (fun z => inn z.1)).2⟩, e4⟩
  · simp only [upd_ne _ _ h, upd_ne _ _ (show 20 * t + u ≠ 20 * t + j by omega)]
    exact ⟨e1, e2, e3, e4⟩
theorem app2 {σ : SP} {μ : SM} {t : Nat} (ht : t < 62) (R : RelS σ μ t) {j : Nat} (hj : j < 20) : App σ μ t 2 (nI j) 0 0 := by
  obtain ⟨RU, RO, RC, RL⟩ := R
  unfold App m_H_happen m_M_apply m_H_leave
  simp only [show ¬ ((2 : Int32) = 0) by decide, show ¬ ((2 : Int32) = 1) by decide, if_false, if_true, ix20, mck_nI hj (by decide : 20 < 2 ^ 31), mck_nI (show 20 * t + j < 1240 by omega) (by decide : 1240 < 2 ^ 31), mlet_e, mb1_e, nI_clamp (show j < 2 ^ 31 by omega), nI_clamp (show 20 * t + j < 2 ^ 31 by omega)]
  refine ⟨_, _, rfl, rfl, ⟨fun u hu => ?_, RO, RC, RL⟩, ⟨rfl, rfl, rfl⟩, ⟨rfl, rfl, rfl, rfl, rfl, rfl, rfl⟩, fun s hs => ⟨fun u hu => ⟨upd_o20 hs hj hu, rfl, upd_o20 hs hj hu⟩, fun _ _ => ⟨rfl, rfl, rfl⟩, fun _ _ => rfl, fun _ _ => rfl⟩⟩
  obtain ⟨e1, e2, e3, e4⟩ := RU u hu
  show upd (g_pl σ) j (-1) u = upd (g_mpl μ) (20 * t + j) (-1) (20 * t + u) ∧ upd (g_gv σ) j (-1) u = upd (g_mgv μ) (20 * t + j) (-1) (20 * t + u) ∧ ((upd (g_pl σ) j (-1) u = -1 ∧ upd (g_gv σ) j (-1) u = -1) ∨ (∃ q, q < 10 ∧ upd (g_pl σ) j (-1) u = nI q) ∧ g_gd σ u = g_mgd μ (20 * t + u) ∧ ∃ d, d < 6 ∧ g_gd σ u = nI d) ∧ (upd (g_gv σ) j (-1) u = -1 ∨ ∃ o, o < 10 ∧ upd (g_gv σ) j (-1) u = nI o)
  by_cases h : u = j
  · subst h
    simp only [upd_same]
    exact ⟨trivial, trivial, Or.inl ⟨trivial, trivial⟩, Or.inl trivial⟩
  · simp only [upd_ne _ _ h, upd_ne _ _ (show 20 * t + u ≠ 20 * t + j by omega)]
    exact ⟨e1, e2, e3, e4⟩
