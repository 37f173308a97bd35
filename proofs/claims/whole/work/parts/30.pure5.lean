theorem app3 {σ : SP} {μ : SM} {t : Nat} (ht : t < 62) (R : RelS σ μ t) {j n g : Nat} (hj : j < 10) (hn : n < 10) (hg : g < 6) (un : g_wa σ j = 0) : App σ μ t 3 (nI j) (nI n) (nI g) := by
  obtain ⟨RU, RO, RC, RL⟩ := R
  unfold App m_H_happen m_M_apply
  simp only [show ¬ ((3 : Int32) = 0) by decide, show ¬ ((3 : Int32) = 1) by decide, show ¬ ((3 : Int32) = 2) by decide, if_false, if_true, ix10, mck_nI hj (by decide : 10 < 2 ^ 31), mck_nI (show 10 * t + j < 620 by omega) (by decide : 620 < 2 ^ 31), mlet_e, mb1_e, nI_clamp (show j < 2 ^ 31 by omega), nI_clamp (show 10 * t + j < 2 ^ 31 by omega)]
  refine ⟨_, _, rfl, rfl, ⟨RU, fun u hu => ?_, RC, RL⟩, ⟨rfl, rfl, rfl⟩, ⟨rfl, rfl, rfl, rfl, rfl, rfl, rfl⟩, fun s hs => ⟨fun _ _ => ⟨rfl, rfl, rfl⟩, fun u hu => ⟨upd_o10 hs hj hu, upd_o10 hs hj hu, upd_o10 hs hj hu⟩, fun _ _ => rfl, fun _ _ => rfl⟩⟩
  obtain ⟨e1, e2, w, q, hw9, hqw, hw, hq, hd⟩ := RO u hu
  show upd (g_wa σ) j (nI n) u = upd (g_mwa μ) (10 * t + j) (nI n) (10 * t + u) ∧ g_gt σ u = upd (g_mgt μ) (10 * t + j) 0 (10 * t + u) ∧ ∃ w q, w < 10 ∧ q ≤ w ∧ upd (g_wa σ) j (nI n) u = nI w ∧ g_gt σ u = nI q ∧ (w = 0 ∨ (upd (g_gw σ) j (nI g) u = upd (g_mog μ) (10 * t + j) (nI g) (10 * t + u) ∧ ∃ d, d < 6 ∧ upd (g_gw σ) j (nI g) u = nI d))
  by_cases h : u = j
  · subst h
    have h0 : w = 0 := by
      rw [un] at hw
      exact ((nI_eq (a := 0) (b := w) (by decide) (by omega)).mp hw).symm
    have h1 : q = 0 := by omega
    subst h1
    simp only [upd_same]
    exact ⟨trivial, hq, n, 0, hn, Nat.zero_le _, rfl, hq, Or.inr ⟨trivial, g, hg, rfl⟩⟩
  · simp only [upd_ne _ _ h, upd_ne _ _ (show 10 * t + u ≠ 10 * t + j by omega)]
    exact ⟨e1, e2, w, q, hw9, hqw, hw, hq, hd⟩
theorem app4 {σ : SP} {μ : SM} {t : Nat} (ht : t < 62) (R : RelS σ μ t) {j o : Nat} (hj : j < 20) (ho : o < 10) (inn : ¬ g_pl σ j = -1) {w g : Nat} (hw : g_wa σ o = nI w) (hg : g_gt σ o = nI g) (hw9 : w < 10) (hgw : g < w) : App σ μ t 4 (nI j) (nI o) 0 := by
  obtain ⟨RU, RO, RC, RL⟩ := R
  obtain ⟨o1, o2, -⟩ := RO o ho
  unfold App m_H_happen m_M_apply
  simp only [show ¬ ((4 : Int32) = 0) by decide, show ¬ ((4 : Int32) = 1) by decide, show ¬ ((4 : Int32) = 2) by decide, show ¬ ((4 : Int32) = 3) by decide, if_false, if_true, ix10, ix20, mck_nI hj (by decide : 20 < 2 ^ 31), mck_nI ho (by decide : 10 < 2 ^ 31), mrd_nI ho (by decide : 10 < 2 ^ 31), mck_nI (show 20 * t + j < 1240 by omega) (by decide : 1240 < 2 ^ 31), mck_nI (show 10 * t + o < 620 by omega) (by decide : 620 < 2 ^ 31), mrd_nI (show 10 * t + o < 620 by omega) (by decide : 620 < 2 ^ 31), mlet_e, mb1_e, nI_clamp (show j < 2 ^ 31 by omega), nI_clamp (show o < 2 ^ 31 by omega), nI_clamp (show 20 * t + j < 2 ^ 31 by omega), nI_clamp (show 10 * t + o < 2 ^ 31 by omega)]
  refine ⟨_, _, rfl, rfl, ⟨fun u hu => ?_, fun u hu => ?_, RC, RL⟩, ⟨rfl, rfl, rfl⟩, ⟨rfl, rfl, rfl, rfl, rfl, rfl, rfl⟩, fun s hs => ⟨fun u hu => ⟨rfl, rfl, upd_o20 hs hj hu⟩, fun u hu => ⟨rfl, rfl, upd_o10 hs ho hu⟩, fun _ _ => rfl, fun _ _ => rfl⟩⟩
  · obtain ⟨e1, e2, e3, e4⟩ := RU u hu
    show g_pl σ u = g_mpl μ (20 * t + u) ∧ upd (g_gv σ) j (nI o) u = upd (g_mgv μ) (20 * t + j) (nI o) (20 * t + u) ∧ ((g_pl σ u = -1 ∧ upd (g_gv σ) j (nI o) u = -1) ∨ (∃ q, q < 10 ∧ g_pl σ u = nI q) ∧ g_gd σ u = g_mgd μ (20 * t + u) ∧ ∃ d, d < 6 ∧ g_gd σ u = nI d) ∧ (upd (g_gv σ) j (nI o) u = -1 ∨ ∃ q, q < 10 ∧ upd (g_gv σ) j (nI o) u = nI q)
    by_cases h : u = j
    · subst h
      simp only [upd_same]
      exact ⟨e1, trivial, Or.inr (e3.resolve_left (fun z => inn z.1)), Or.inr ⟨o, ho, rfl⟩⟩
    · simp only [upd_ne _ _ h, upd_ne _ _ (show 20 * t + u ≠ 20 * t + j by omega)]
      exact ⟨e1, e2, e3, e4⟩
  · obtain ⟨e1, e2, w', q, hw9', hqw, hw', hq, hd⟩ := RO u hu
    show g_wa σ u = g_mwa μ (10 * t + u) ∧ upd (g_gt σ) o (g_gt σ o + 1) u = upd (g_mgt μ) (10 * t + o) (g_mgt μ (10 * t + o) + 1) (10 * t + u) ∧ ∃ w q, w < 10 ∧ q ≤ w ∧ g_wa σ u = nI w ∧ upd (g_gt σ) o (g_gt σ o + 1) u = nI q ∧ (w = 0 ∨ (g_gw σ u = g_mog μ (10 * t + u) ∧ ∃ d, d < 6 ∧ g_gw σ u = nI d))
    by_cases h : u = o
    · subst h
      simp only [upd_same]
      have hww : w' = w := (nI_eq (by omega) (by omega)).mp (hw'.symm.trans hw)
      refine ⟨e1, by rw [o2], w', g + 1, hw9', by omega, hw', by rw [hg]; exact nI_1 g, hd⟩
    · simp only [upd_ne _ _ h, upd_ne _ _ (show 10 * t + u ≠ 10 * t + o by omega)]
      exact ⟨e1, e2, w', q, hw9', hqw, hw', hq, hd⟩
theorem app5 {σ : SP} {μ : SM} {t : Nat} (ht : t < 62) (R : RelS σ μ t) {j : Nat} {b : Int32} (hj : j < 4) : App σ μ t 5 (nI j) b 0 := by
  obtain ⟨RU, RO, RC, RL⟩ := R
  unfold App m_H_happen m_M_apply
  simp only [show ¬ ((5 : Int32) = 0) by decide, show ¬ ((5 : Int32) = 1) by decide, show ¬ ((5 : Int32) = 2) by decide, show ¬ ((5 : Int32) = 3) by decide, show ¬ ((5 : Int32) = 4) by decide, if_false, if_true, ix4, mck_nI hj (by decide : 4 < 2 ^ 31), mrd_nI hj (by decide : 4 < 2 ^ 31), mck_nI (show 4 * t + j < 248 by omega) (by decide : 248 < 2 ^ 31), mrd_nI (show 4 * t + j < 248 by omega) (by decide : 248 < 2 ^ 31), mlet_e, mb1_e, nI_clamp (show j < 2 ^ 31 by omega), nI_clamp (show 4 * t + j < 2 ^ 31 by omega)]
  refine ⟨_, _, rfl, rfl, ⟨RU, RO, fun u hu => ?_, RL⟩, ⟨rfl, rfl, rfl⟩, ⟨rfl, rfl, rfl, rfl, rfl, rfl, rfl⟩, fun s hs => ⟨fun _ _ => ⟨rfl, rfl, rfl⟩, fun _ _ => ⟨rfl, rfl, rfl⟩, fun u hu => upd_o4 hs hj hu, fun _ _ => rfl⟩⟩
  show upd (g_ce σ) j (g_ce σ j + b) u = upd (g_mce μ) (4 * t + j) (g_mce μ (4 * t + j) + b) (4 * t + u)
  rw [RC j hj]
  exact upd_rel (RC u hu)
theorem pair_e (a b : Nat) : m_P_pair (nI a) (nI b) = some (nI (10 * a + b)) := by
  unfold m_P_pair
  rw [show (10 : Int32) = nI 10 from rfl, pk_mul, nI_add, Nat.mul_comm]
theorem ix10_0 (a : Nat) : (10 : Int32) * nI a = nI (10 * a) := by rw [show (10 : Int32) = nI 10 from rfl, pk_mul]
theorem ixL (t a b : Nat) : (100 : Int32) * nI t + (10 : Int32) * nI a + nI b = nI (100 * t + (10 * a + b)) := by
  rw [ix10_0 a, show (100 : Int32) = nI 100 from rfl, pk_mul, nI_add, nI_add, Nat.add_assoc]
theorem app6 {σ : SP} {μ : SM} {t : Nat} (ht : t < 62) (R : RelS σ μ t) {a b c : Nat} (ha : a < 10) (hb : b < 10) (hc : c < 100) : App σ μ t 6 (nI a) (nI b) (nI c) := by
  obtain ⟨RU, RO, RC, RL⟩ := R
  unfold App m_H_happen m_M_apply
  simp only [show ¬ ((6 : Int32) = 0) by decide, show ¬ ((6 : Int32) = 1) by decide, show ¬ ((6 : Int32) = 2) by decide, show ¬ ((6 : Int32) = 3) by decide, show ¬ ((6 : Int32) = 4) by decide, show ¬ ((6 : Int32) = 5) by decide, if_false, if_true, pair_e, ixL, mck_nI (show 10 * a + b < 100 by omega) (by decide : 100 < 2 ^ 31), mck_nI (show 10 * b + a < 100 by omega) (by decide : 100 < 2 ^ 31), mck_nI (show 100 * t + (10 * a + b) < 6200 by omega) (by decide : 6200 < 2 ^ 31), mck_nI (show 100 * t + (10 * b + a) < 6200 by omega) (by decide : 6200 < 2 ^ 31), mlet_e, mb1_e, nI_clamp (show 10 * a + b < 2 ^ 31 by omega), nI_clamp (show 10 * b + a < 2 ^ 31 by omega), nI_clamp (show 100 * t + (10 * a + b) < 2 ^ 31 by omega), nI_clamp (show 100 * t + (10 * b + a) < 2 ^ 31 by omega)]
  refine ⟨_, _, rfl, rfl, ⟨RU, RO, RC, fun u hu => ?_⟩, ⟨rfl, rfl, rfl⟩, ⟨rfl, rfl, rfl, rfl, rfl, rfl, rfl⟩, fun s hs => ⟨fun _ _ => ⟨rfl, rfl, rfl⟩, fun _ _ => ⟨rfl, rfl, rfl⟩, fun _ _ => rfl, fun u hu => ?_⟩⟩
  · obtain ⟨e1, q, hq, e2⟩ := RL u hu
    show upd (upd (g_lk σ) (10 * a + b) (nI c)) (10 * b + a) (nI c) u = upd (upd (g_mlk μ) (100 * t + (10 * a + b)) (nI c)) (100 * t + (10 * b + a)) (nI c) (100 * t + u) ∧ ∃ q, q < 100 ∧ upd (upd (g_lk σ) (10 * a + b) (nI c)) (10 * b + a) (nI c) u = nI q
    refine ⟨upd_rel (upd_rel e1), ?_⟩
    unfold upd
    split
    · exact ⟨c, hc, rfl⟩
    · split
      · exact ⟨c, hc, rfl⟩
      · exact ⟨q, hq, e2⟩
  · show upd (upd (g_mlk μ) (100 * t + (10 * a + b)) (nI c)) (100 * t + (10 * b + a)) (nI c) (100 * s + u) = _
    rw [upd_o100 hs (by omega) hu, upd_o100 hs (by omega) hu]
