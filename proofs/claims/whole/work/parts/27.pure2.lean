/-! the static questions -/
def b2i (p : Prop) [Decidable p] : Int32 := if p then 1 else 0
theorem b2i_0 {p : Prop} [Decidable p] : (b2i p = 0) ↔ ¬ p := by
  unfold b2i; by_cases h : p
  · simp [h]
  · simp [h]
theorem b2i_t {p : Prop} [Decidable p] (h : p) : b2i p = 1 := if_pos h
theorem b2i_f {p : Prop} [Decidable p] (h : ¬ p) : b2i p = 0 := if_neg h
theorem b2i_z {α : Type} {p : Prop} [Decidable p] (M : Option α) : mzr (b2i p) M = M := by
  by_cases h : p
  · rw [b2i_t h]; exact mzr_1 M
  · rw [b2i_f h]; exact mzr_0 M
theorem mb1_b2i {α : Type} {p : Prop} [Decidable p] {M N : Option α} : (mb1 (some (b2i p)) fun r => if r = 0 then M else N) = if p then N else M := by
  rw [mb1_e]
  by_cases h : p
  · rw [if_pos h, if_neg (by rw [b2i_0]; exact fun z => z h)]
  · rw [if_neg h, if_pos (b2i_0.mpr h)]
abbrev Wi (v lo hi : Int32) : Prop := lo ≤ v ∧ v ≤ hi
theorem e_isWithin (v lo hi : Int32) : m_P_isWithin v lo hi = some (b2i (Wi v lo hi)) := by
  unfold m_P_isWithin
  by_cases h1 : v < lo
  · rw [if_pos h1, b2i_f]
    exact fun h => absurd h.1 (Int32.not_le.mpr h1)
  · rw [if_neg h1]
    by_cases h2 : hi < v
    · rw [if_pos h2, b2i_f]
      exact fun h => absurd h.2 (Int32.not_le.mpr h2)
    · rw [if_neg h2, b2i_t ⟨Int32.not_lt.mp h1, Int32.not_lt.mp h2⟩]
theorem e_in (v lo hi : Int32) : m_M_in v lo hi = some (b2i (Wi v lo hi)) := by
  unfold m_M_in
  by_cases h1 : v < lo
  · rw [if_pos h1, b2i_f]
    exact fun h => absurd h.1 (Int32.not_le.mpr h1)
  · rw [if_neg h1]
    by_cases h2 : hi < v
    · rw [if_pos h2, b2i_f]
      exact fun h => absurd h.2 (Int32.not_le.mpr h2)
    · rw [if_neg h2, b2i_t ⟨Int32.not_lt.mp h1, Int32.not_lt.mp h2⟩]
theorem e_isUnit (v : Int32) : m_P_isUnit v = some (b2i (Wi v 0 19)) := by unfold m_P_isUnit; rw [e_isWithin, mb1_e, b2i_z]
theorem e_isGood (v : Int32) : m_P_isGood v = some (b2i (Wi v 0 5)) := by unfold m_P_isGood; rw [e_isWithin, mb1_e, b2i_z]
theorem e_isPlace (v : Int32) : m_P_isPlace v = some (b2i (Wi v 0 9)) := by unfold m_P_isPlace; rw [e_isWithin, mb1_e, b2i_z]
theorem e_isOrder (v : Int32) : m_P_isOrder v = some (b2i (Wi v 0 9)) := by unfold m_P_isOrder; rw [e_isWithin, mb1_e, b2i_z]
theorem e_isOwner (v : Int32) : m_P_isOwner v = some (b2i (Wi v 0 3)) := by unfold m_P_isOwner; rw [e_isWithin, mb1_e, b2i_z]
theorem e_MisUnit (v : Int32) : m_M_isUnit v = some (b2i (Wi v 0 19)) := by unfold m_M_isUnit; rw [e_in, mb1_e, b2i_z]
theorem e_MisPlace (v : Int32) : m_M_isPlace v = some (b2i (Wi v 0 9)) := by unfold m_M_isPlace; rw [e_in, mb1_e, b2i_z]
/-- an event in its ranges -/
def EvOK (k a b c : Int32) : Prop :=
  (k = 0 ∧ Wi a 0 19 ∧ Wi b 0 5 ∧ Wi c 0 9) ∨ (k = 1 ∧ Wi a 0 19 ∧ Wi b 0 9 ∧ c = 0) ∨ (k = 2 ∧ Wi a 0 19 ∧ b = 0 ∧ c = 0) ∨ (k = 3 ∧ Wi a 0 9 ∧ Wi b 1 9 ∧ Wi c 0 5) ∨
  (k = 4 ∧ Wi a 0 19 ∧ Wi b 0 9 ∧ c = 0) ∨ (k = 5 ∧ Wi a 0 3 ∧ ¬ b = 0 ∧ Wi b (-10000) 10000 ∧ c = 0) ∨ (k = 6 ∧ Wi a 0 9 ∧ Wi b 0 9 ∧ Wi c 1 99)
theorem e_isInRange (k a b c : Int32) : ∃ r, m_P_isInRange k a b c = some r ∧ ((r = 1 ∧ EvOK k a b c) ∨ (r = 0 ∧ ¬ EvOK k a b c)) := by
  unfold m_P_isInRange
  simp only [e_isUnit, e_isGood, e_isPlace, e_isOrder, e_isOwner, e_isWithin, mb1_b2i]
  unfold EvOK
  repeat' split
  all_goals first | exact ⟨1, rfl, Or.inl ⟨rfl, by grind⟩⟩ | exact ⟨0, rfl, Or.inr ⟨rfl, by grind⟩⟩
theorem e_isSaid (k a b c : Int32) : ∃ r, m_M_isSaid k a b c = some r ∧ ((r = 1 ∧ EvOK k a b c) ∨ (r = 0 ∧ ¬ EvOK k a b c)) := by
  unfold m_M_isSaid
  simp only [e_MisUnit, e_MisPlace, e_in, mb1_b2i]
  unfold EvOK
  repeat' split
  all_goals first | exact ⟨1, rfl, Or.inl ⟨rfl, by grind⟩⟩ | exact ⟨0, rfl, Or.inr ⟨rfl, by grind⟩⟩
