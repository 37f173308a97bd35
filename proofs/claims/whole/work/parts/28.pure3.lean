/-! the class's house beside a slot of the reference -/
theorem wi_nat {a M : Int32} {n : Nat} (hM : M.toInt = n) (h : Wi a 0 M) : ∃ j : Nat, j ≤ n ∧ a = nI j := nI_of2 hM (Int32.not_lt.mpr h.1) h.2
theorem wi19 {a : Int32} (h : Wi a 0 19) : ∃ j : Nat, j < 20 ∧ a = nI j := by obtain ⟨j, h1, h2⟩ := wi_nat (n := 19) (by decide) h; exact ⟨j, by omega, h2⟩
theorem wi9 {a : Int32} (h : Wi a 0 9) : ∃ j : Nat, j < 10 ∧ a = nI j := by obtain ⟨j, h1, h2⟩ := wi_nat (n := 9) (by decide) h; exact ⟨j, by omega, h2⟩
theorem wi5 {a : Int32} (h : Wi a 0 5) : ∃ j : Nat, j < 6 ∧ a = nI j := by obtain ⟨j, h1, h2⟩ := wi_nat (n := 5) (by decide) h; exact ⟨j, by omega, h2⟩
theorem wi3 {a : Int32} (h : Wi a 0 3) : ∃ j : Nat, j < 4 ∧ a = nI j := by obtain ⟨j, h1, h2⟩ := wi_nat (n := 3) (by decide) h; exact ⟨j, by omega, h2⟩
theorem wiP {a M : Int32} {n : Nat} (hM : M.toInt = n) (h : Wi a 1 M) : ∃ j : Nat, 0 < j ∧ j ≤ n ∧ a = nI j := by
  have h0 : (0 : Int32) ≤ a := Int32.le_trans (by decide) h.1
  obtain ⟨j, h1, h2⟩ := wi_nat hM ⟨h0, h.2⟩
  refine ⟨j, ?_, h1, h2⟩
  rcases Nat.eq_zero_or_pos j with e | e
  · subst e; rw [h2] at h; exact absurd h.1 (by decide)
  · exact e
theorem nI_ne_m1 {j : Nat} (h : j < 2 ^ 31) : ¬ nI j = -1 := fun e => by
  have h1 := congrArg Int32.toInt e
  rw [nI_toInt h, show (-1 : Int32).toInt = -1 by decide] at h1
  omega
theorem ix20 (t j : Nat) : (20 : Int32) * nI t + nI j = nI (20 * t + j) := by rw [show (20 : Int32) = nI 20 from rfl, pk_mul, nI_add]
theorem ix10 (t j : Nat) : (10 : Int32) * nI t + nI j = nI (10 * t + j) := by rw [show (10 : Int32) = nI 10 from rfl, pk_mul, nI_add]
theorem ix4 (t j : Nat) : (4 : Int32) * nI t + nI j = nI (4 * t + j) := by rw [show (4 : Int32) = nI 4 from rfl, pk_mul, nI_add]
theorem ix100 (t j : Nat) : (100 : Int32) * nI t + nI j = nI (100 * t + j) := by rw [show (100 : Int32) = nI 100 from rfl, pk_mul, nI_add]
def RelU (σ : SP) (μ : SM) (t u : Nat) : Prop := g_pl σ u = g_mpl μ (20 * t + u) ∧ g_gv σ u = g_mgv μ (20 * t + u) ∧ ((g_pl σ u = -1 ∧ g_gv σ u = -1) ∨ (∃ p, p < 10 ∧ g_pl σ u = nI p) ∧ g_gd σ u = g_mgd μ (20 * t + u) ∧ ∃ g, g < 6 ∧ g_gd σ u = nI g) ∧ (g_gv σ u = -1 ∨ ∃ o, o < 10 ∧ g_gv σ u = nI o)
def RelO (σ : SP) (μ : SM) (t o : Nat) : Prop := g_wa σ o = g_mwa μ (10 * t + o) ∧ g_gt σ o = g_mgt μ (10 * t + o) ∧ ∃ w g, w < 10 ∧ g ≤ w ∧ g_wa σ o = nI w ∧ g_gt σ o = nI g ∧ (w = 0 ∨ (g_gw σ o = g_mog μ (10 * t + o) ∧ ∃ d, d < 6 ∧ g_gw σ o = nI d))
def RelL (σ : SP) (μ : SM) (t i : Nat) : Prop := g_lk σ i = g_mlk μ (100 * t + i) ∧ ∃ s, s < 100 ∧ g_lk σ i = nI s
def RelS (σ : SP) (μ : SM) (t : Nat) : Prop := (∀ u, u < 20 → RelU σ μ t u) ∧ (∀ o, o < 10 → RelO σ μ t o) ∧ (∀ w, w < 4 → g_ce σ w = g_mce μ (4 * t + w)) ∧ (∀ i, i < 100 → RelL σ μ t i)
theorem e_isInside {σ : SP} {u : Nat} (hu : u < 20) : m_H_isInside (nI u) σ = some (b2i (¬ g_pl σ u = -1)) := by
  unfold m_H_isInside
  rw [mrd_nI hu (by decide)]
  by_cases h : g_pl σ u = -1
  · rw [if_pos h, b2i_f (fun z => z h)]
  · rw [if_neg h, b2i_t h]
theorem e_isTold {σ : SP} {o : Nat} (ho : o < 10) : m_H_isTold (nI o) σ = some (b2i (0 < g_wa σ o)) := by
  unfold m_H_isTold
  rw [if_neg (nI_pos (by omega)), if_neg (show ¬ (10 : Int32) ≤ nI o from nI_ge (b := 10) ho (by decide)), mrd_nI ho (by decide)]
  by_cases h : g_wa σ o ≤ 0
  · rw [if_pos h, b2i_f (Int32.not_lt.mpr h)]
  · rw [if_neg h, b2i_t (Int32.not_le.mp h)]
theorem e_isTold_m1 {σ : SP} : m_H_isTold (-1) σ = some 0 := by
  unfold m_H_isTold
  rw [if_pos (by decide)]
theorem e_isFree {σ : SP} {u : Nat} (hu : u < 20) : m_H_isFree (nI u) σ = some (b2i (¬ g_pl σ u = -1 ∧ g_gv σ u = -1)) := by
  unfold m_H_isFree
  rw [e_isInside hu, mb1_b2i, mrd_nI hu (by decide)]
  by_cases h : g_pl σ u = -1
  · rw [if_neg (fun z => z h), b2i_f (fun z => z.1 h)]
  · rw [if_pos h]
    by_cases h2 : g_gv σ u = -1
    · rw [if_pos h2, b2i_t ⟨h, h2⟩]
    · rw [if_neg h2, b2i_f (fun z => h2 z.2)]
theorem e_isOpen {σ : SP} {o w g : Nat} (ho : o < 10) (hw : g_wa σ o = nI w) (hg : g_gt σ o = nI g) (hw9 : w < 10) (hgw : g ≤ w) : m_H_isOpen (nI o) σ = some (b2i (g < w)) := by
  unfold m_H_isOpen
  rw [e_isTold ho, mb1_b2i, mrd_nI ho (by decide), mrd_nI ho (by decide), hw, hg]
  by_cases h : g < w
  · rw [if_pos (show (0 : Int32) < nI w from nI_lt (a := 0) (by omega) (by omega)), if_neg (nI_ge h (by omega)), b2i_t h]
  · rw [if_pos (nI_le (by omega) (by omega)), b2i_f h]
    split <;> rfl
theorem e_isOpen_m1 {σ : SP} : m_H_isOpen (-1) σ = some 0 := by
  unfold m_H_isOpen
  rw [e_isTold_m1, mb1_e, if_pos rfl]
theorem e_MisOpen {μ : SM} {t o w g : Nat} (ht : t < 62) (ho : o < 10) (hw : g_mwa μ (10 * t + o) = nI w) (hg : g_mgt μ (10 * t + o) = nI g) (hw9 : w < 10) (hgw : g ≤ w) : m_M_isOpen (nI t) (nI o) μ = some (b2i (g < w)) := by
  unfold m_M_isOpen
  rw [ix10, mrd_nI (by omega) (by decide), mrd_nI (by omega) (by decide), hw, hg]
  by_cases h : g < w
  · rw [if_neg (nI_ge h (by omega)), b2i_t h]
  · rw [if_pos (nI_le (by omega) (by omega)), b2i_f h]
theorem can_eq {σ : SP} {μ : SM} {t : Nat} (ht : t < 62) (R : RelS σ μ t) {k a b c : Int32} (ok : EvOK k a b c) : ∃ r, m_H_isPossible k a b σ = some r ∧ m_M_can (nI t) k a b μ = some r ∧ (r = 0 ∨ r = 1) := by
  obtain ⟨RU, RO, -, -⟩ := R
  unfold m_H_isPossible m_M_can
  rcases ok with ⟨rfl, ha, -⟩ | ⟨rfl, ha, -⟩ | ⟨rfl, ha, -⟩ | ⟨rfl, ha, -⟩ | ⟨rfl, ha, hb, -⟩ | ⟨rfl, -⟩ | ⟨rfl, -⟩
  · obtain ⟨u, hu, rfl⟩ := wi19 ha
    rw [if_pos rfl, if_pos rfl, e_isInside hu, mb1_b2i, ix20, mrd_nI (by omega) (by decide), ← (RU u hu).1]
    by_cases h : g_pl σ u = -1
    · exact ⟨1, by rw [if_neg (fun z => z h)], by rw [if_pos h], Or.inr rfl⟩
    · exact ⟨0, by rw [if_pos h], by rw [if_neg h], Or.inl rfl⟩
  · obtain ⟨u, hu, rfl⟩ := wi19 ha
    rw [if_neg (by decide), if_pos rfl, if_neg (by decide), if_pos rfl, e_isInside hu, mb1_e, b2i_z, ix20, mrd_nI (by omega) (by decide), ← (RU u hu).1]
    by_cases h : g_pl σ u = -1
    · exact ⟨0, by rw [b2i_f (fun z => z h)], by rw [if_pos h], Or.inl rfl⟩
    · exact ⟨1, by rw [b2i_t h], by rw [if_neg h], Or.inr rfl⟩
  · obtain ⟨u, hu, rfl⟩ := wi19 ha
    obtain ⟨e1, e2, -, e4⟩ := RU u hu
    rw [if_neg (by decide), if_neg (by decide), if_pos rfl, if_neg (by decide), if_neg (by decide), if_pos rfl, e_isInside hu, mb1_b2i, mrd_nI hu (by decide)]
    unfold m_M_mayGo
    rw [ix20, mrd_nI (by omega) (by decide), mrd_nI (by omega) (by decide), mrd_nI (by omega) (by decide), ← e1, ← e2]
    by_cases h : g_pl σ u = -1
    · refine ⟨0, by rw [if_neg (fun z => z h)], by rw [if_pos h, mb1_e, mzr_0], Or.inl rfl⟩
    · rw [if_pos h, if_neg h]
      rcases e4 with e4 | ⟨o, ho, e4⟩
      · refine ⟨1, by rw [e4, e_isOpen_m1, mb1_e, if_pos rfl], by rw [if_pos e4, mb1_e, mzr_1], Or.inr rfl⟩
      · obtain ⟨w1, w2, w, g, hw9, hgw, hw, hg, -⟩ := RO o ho
        rw [e4, if_neg (nI_ne_m1 (by omega)), e_isOpen ho hw hg hw9 hgw, mb1_b2i, e_MisOpen ht ho (by rw [← w1]; exact hw) (by rw [← w2]; exact hg) hw9 hgw, mb1_b2i]
        by_cases h3 : g < w
        · exact ⟨0, by rw [if_pos h3], by rw [if_pos h3, mb1_e, mzr_0], Or.inl rfl⟩
        · exact ⟨1, by rw [if_neg h3], by rw [if_neg h3, mb1_e, mzr_1], Or.inr rfl⟩
  · obtain ⟨o, ho, rfl⟩ := wi9 ha
    obtain ⟨w1, w2, w, g, hw9, hgw, hw, hg, -⟩ := RO o ho
    rw [if_neg (by decide), if_neg (by decide), if_neg (by decide), if_pos rfl, if_neg (by decide), if_neg (by decide), if_neg (by decide), if_pos rfl, e_isTold ho, mb1_b2i, ix10, mrd_nI (by omega) (by decide), ← w1, hw]
    by_cases h : 0 < w
    · exact ⟨0, by rw [if_pos (show (0 : Int32) < nI w from nI_lt (a := 0) h (by omega))], by rw [if_neg (nI_ne0 h (by omega))], Or.inl rfl⟩
    · have h : w = 0 := by omega
      subst h
      exact ⟨1, by rw [if_neg (by decide)], by rw [if_pos (by decide)], Or.inr rfl⟩
  · obtain ⟨u, hu, rfl⟩ := wi19 ha
    obtain ⟨o, ho, rfl⟩ := wi9 hb
    obtain ⟨e1, e2, e3, -⟩ := RU u hu
    obtain ⟨w1, w2, w, g, hw9, hgw, hw, hg, hd⟩ := RO o ho
    rw [if_neg (by decide), if_neg (by decide), if_neg (by decide), if_neg (by decide), if_pos rfl, if_neg (by decide), if_neg (by decide), if_neg (by decide), if_neg (by decide), if_pos rfl, e_isFree hu, mb1_b2i, e_isOpen ho hw hg hw9 hgw, mb1_b2i, mrd_nI hu (by decide), mrd_nI ho (by decide)]
    unfold m_M_mayGive
    rw [ix20, ix10, mrd_nI (by omega) (by decide), mrd_nI (by omega) (by decide), mrd_nI (by omega) (by decide), mrd_nI (by omega) (by decide), mrd_nI (by omega) (by decide), ← e1, ← e2, ← w1, e_MisOpen ht ho (by rw [← w1]; exact hw) (by rw [← w2]; exact hg) hw9 hgw, mb1_b2i]
    by_cases h : g_pl σ u = -1
    · exact ⟨0, by rw [if_neg (fun z => z.1 h)], by rw [if_pos h, mb1_e, mzr_0], Or.inl rfl⟩
    · rw [if_neg h]
      by_cases h2 : g_gv σ u = -1
      · rw [if_pos ⟨h, h2⟩, if_pos h2]
        by_cases h3 : g < w
        · rw [if_pos h3, if_pos h3, hw, if_neg (show ¬ nI w ≤ 0 from nI_nle (by omega) (by omega))]
          obtain ⟨-, e3, -⟩ := e3.resolve_left (fun z => h z.1)
          obtain ⟨hd, -⟩ := hd.resolve_left (by omega)
          rw [← e3, ← hd]
          by_cases h4 : g_gd σ u = g_gw σ o
          · exact ⟨1, by rw [if_pos h4], by rw [if_pos h4, mb1_e, mzr_1], Or.inr rfl⟩
          · exact ⟨0, by rw [if_neg h4], by rw [if_neg h4, mb1_e, mzr_0], Or.inl rfl⟩
        · refine ⟨0, by rw [if_neg h3], ?_, Or.inl rfl⟩
          rw [if_neg h3]
          repeat' split
          all_goals rfl
      · exact ⟨0, by rw [if_neg (fun z => h2 z.2)], by rw [if_neg h2, mb1_e, mzr_0], Or.inl rfl⟩
  · exact ⟨1, by simp, by simp, Or.inr rfl⟩
  · by_cases h : a = b
    · exact ⟨0, by simp [h], by simp [h], Or.inl rfl⟩
    · exact ⟨1, by simp [h], by simp [h], Or.inr rfl⟩
