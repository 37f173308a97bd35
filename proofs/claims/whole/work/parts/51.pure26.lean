/-! promise: the set, asked on both sides -/
theorem nI_toNat (x : Int32) : ∃ n, n < 2 ^ 32 ∧ x = nI n := ⟨x.toBitVec.toNat, x.toBitVec.isLt, by
  apply Int32.toBitVec_inj.mp
  show x.toBitVec = BitVec.ofNat 32 x.toBitVec.toNat
  rw [BitVec.ofNat_toNat, BitVec.setWidth_eq]⟩
theorem ushr_tab2 : ∀ v, v < 32 → (((nI v).toUInt32 &&& Int32.toUInt32 31).toBitVec % 32).toNat = v := by decide +kernel
theorem isInSet_e2 {m v : Nat} (hm : m < 2 ^ 32) (hv : v < 32) : m_P_isInSet (nI v) (nI m) = some (b2i (m.testBit v = true)) := by
  unfold m_P_isInSet
  rw [pk_ushrN hm (nI v) v (ushr_tab2 v hv), pk_andN (by have := Nat.div_le_self m (2 ^ v); omega) 1 (by decide)]
  have e : m.testBit v = decide (m / 2 ^ v % 2 = 1) := Nat.testBit_eq_decide_div_mod_eq
  rw [e]
  by_cases c : m / 2 ^ v % 2 = 1
  · rw [b2i_t (decide_eq_true c), show m / 2 ^ v % 2 ^ 1 = 1 from c, if_pos (show nI 1 = 1 from rfl)]
  · rw [b2i_f (by rw [decide_eq_true_iff]; exact c), show m / 2 ^ v % 2 ^ 1 = 0 by rw [Nat.pow_one]; omega, if_neg (show ¬ nI 0 = 1 by decide)]
theorem shr_tab : ∀ v, v < 11 → ((nI v &&& 31).toBitVec.smod 32).toNat = v := by decide +kernel
theorem bitM_e {m v : Nat} (hm : m < 1024) (hv : v < 10) : ((nI m >>> (nI v &&& 31)) &&& 1) = (if m.testBit v = true then 1 else 0) := by
  rw [pk_shrN (by omega) (nI v &&& 31) v (shr_tab v (by omega)), pk_andN (by have := Nat.div_le_self m (2 ^ v); omega) 1 (by decide)]
  have e : m.testBit v = decide (m / 2 ^ v % 2 = 1) := Nat.testBit_eq_decide_div_mod_eq
  rw [e]
  by_cases c : m / 2 ^ v % 2 = 1
  · rw [if_pos (decide_eq_true c), show m / 2 ^ v % 2 ^ 1 = 1 from c]; rfl
  · rw [if_neg (by rw [decide_eq_true_iff]; exact c), show m / 2 ^ v % 2 ^ 1 = 0 by rw [Nat.pow_one]; omega]; rfl
def ztold (σ : SP) (v : Nat) : Prop := m_H_isTold (nI v) σ = some 1
theorem told_or {σ : SP} {μ : SM} {e : Nat} (he : e ≤ 60) (hev : g_mev μ = nI e) (R : RelS σ μ e) (v : Nat) : (ztold σ v ∧ m_M_isOrder (nI v) μ = some 1) ∨ (¬ ztold σ v ∧ m_H_isTold (nI v) σ = some 0 ∧ m_M_isOrder (nI v) μ = some 0) := by
  rcases told_any he hev R (nI v) with ⟨t1, t2⟩ | ⟨o, w, g, d, -, -, t1, t2, -⟩
  · refine Or.inr ⟨fun h => ?_, t1, t2⟩
    unfold ztold at h
    rw [t1] at h
    exact absurd (Option.some.inj h) (by decide)
  · exact Or.inl ⟨t1, t2⟩
theorem areAll_e {σ : SP} {μ : SM} {e : Nat} (he : e ≤ 60) (hev : g_mev μ = nI e) (R : RelS σ μ e) {m : Nat} (hm : m < 2 ^ 32) : (m_P_areAllTold (nI m) σ = some 1 ∧ ∀ v, v < 32 → m.testBit v = true → ztold σ v) ∨ (m_P_areAllTold (nI m) σ = some 0 ∧ ∃ v, v < 32 ∧ m.testBit v = true ∧ ¬ ztold σ v) := by
  unfold m_P_areAllTold
  have LL := lp_inv2 (body := fun s : Int32 => b_P_areAllTold_2 (nI m) σ s) 32 (fun k s => s = nI k ∧ ∀ v, v < k → m.testBit v = true → ztold σ v) (fun t => ∃ x, (t = (1, x) ∧ ∀ v, v < 32 → m.testBit v = true → ztold σ v) ∨ (t = (0, x) ∧ ∃ v, v < 32 ∧ m.testBit v = true ∧ ¬ ztold σ v)) ?_ ?_ (s := (0 : Int32)) ⟨rfl, fun v h => absurd h (Nat.not_lt_zero v)⟩ (n := FU) (FU_lt (by decide))
  · obtain ⟨t, p1, x, ⟨rfl, p2⟩ | ⟨rfl, p2⟩⟩ := LL
    · exact Or.inl ⟨by rw [p1, mb2_e, if_neg (by decide)], p2⟩
    · exact Or.inr ⟨by rw [p1, mb2_e, if_pos rfl], p2⟩
  · rintro k s hk ⟨rfl, q⟩
    show (∃ s', b_P_areAllTold_2 (nI m) σ (nI k) = _ ∧ _) ∨ ∃ t, b_P_areAllTold_2 (nI m) σ (nI k) = _ ∧ _
    unfold b_P_areAllTold_2
    rw [if_neg (show ¬ (32 : Int32) ≤ nI k from nI_ge (b := 32) hk (by decide)), isInSet_e2 hm hk, mb1_b2i, nI_1]
    by_cases hb : m.testBit k = true
    · rw [if_pos hb]
      rcases told_or he hev R k with ⟨t1, t2⟩ | ⟨t0, t1, t2⟩
      · rw [show m_H_isTold (nI k) σ = some 1 from t1, mb1_e, if_neg (show ¬ (1 : Int32) = 0 by decide)]
        refine Or.inl ⟨_, rfl, rfl, fun v hv hbv => ?_⟩
        by_cases e : v = k
        · rw [e]; exact t1
        · exact q v (by omega) hbv
      · rw [t1, mb1_e, if_pos rfl]
        exact Or.inr ⟨_, rfl, nI k, Or.inr ⟨rfl, k, hk, hb, t0⟩⟩
    · rw [if_neg hb]
      refine Or.inl ⟨_, rfl, rfl, fun v hv hbv => ?_⟩
      have : v ≠ k := fun e => hb (e ▸ hbv)
      exact q v (by omega) hbv
  · rintro s ⟨rfl, q⟩
    refine ⟨_, ?_, nI 32, Or.inl ⟨rfl, q⟩⟩
    show b_P_areAllTold_2 (nI m) σ (nI 32) = _
    unfold b_P_areAllTold_2
    rw [if_pos (show (32 : Int32) ≤ nI 32 from nI_le (Nat.le_refl _) (by decide))]
/-- the reference's look at the set -/
theorem look_e {σ : SP} {μ : SM} {e : Nat} (he : e ≤ 60) (hev : g_mev μ = nI e) (R : RelS σ μ e) {m : Nat} (hm : m < 1024) : ∃ x y, (lp (fun s : Int32 × Int32 × SM => b_M_promise_24 (nI m) s.1 s.2.1 s.2.2) FU ((0 : Int32), (0 : Int32), u_mcode μ 0) = some (nI (zcs (fun p => m.testBit p) 10), nI 10, u_mcode μ 0) ∧ ∀ v, v < 10 → m.testBit v = true → ztold σ v) ∨ (lp (fun s : Int32 × Int32 × SM => b_M_promise_24 (nI m) s.1 s.2.1 s.2.2) FU ((0 : Int32), (0 : Int32), u_mcode μ 0) = some (x, y, u_mcode μ 1) ∧ ∃ v, v < 10 ∧ m.testBit v = true ∧ ¬ ztold σ v) := by
  have LL := lp_inv2 (body := fun s : Int32 × Int32 × SM => b_M_promise_24 (nI m) s.1 s.2.1 s.2.2) 10 (fun k s => (s = (nI (zcs (fun p => m.testBit p) k), nI k, u_mcode μ 0) ∧ ∀ v, v < k → m.testBit v = true → ztold σ v) ∨ (∃ x, s = (x, nI k, u_mcode μ 1) ∧ ∃ v, v < 10 ∧ m.testBit v = true ∧ ¬ ztold σ v)) (fun t => (t = (nI (zcs (fun p => m.testBit p) 10), nI 10, u_mcode μ 0) ∧ ∀ v, v < 10 → m.testBit v = true → ztold σ v) ∨ (∃ x y, t = (x, y, u_mcode μ 1) ∧ ∃ v, v < 10 ∧ m.testBit v = true ∧ ¬ ztold σ v)) ?_ ?_ (s := ((0 : Int32), (0 : Int32), u_mcode μ 0)) (Or.inl ⟨rfl, fun v h => absurd h (Nat.not_lt_zero v)⟩) (n := FU) (FU_lt (by decide))
  · obtain ⟨t, p1, ⟨rfl, p2⟩ | ⟨x, y, rfl, p2⟩⟩ := LL
    · exact ⟨0, 0, Or.inl ⟨p1, p2⟩⟩
    · exact ⟨x, y, Or.inr ⟨p1, p2⟩⟩
  · rintro k s hk (⟨rfl, q⟩ | ⟨x, rfl, q⟩)
    · show (∃ s', b_M_promise_24 (nI m) (nI (zcs (fun p => m.testBit p) k)) (nI k) (u_mcode μ 0) = _ ∧ _) ∨ ∃ t, b_M_promise_24 (nI m) (nI (zcs (fun p => m.testBit p) k)) (nI k) (u_mcode μ 0) = _ ∧ _
      unfold b_M_promise_24
      rw [if_neg (show ¬ (10 : Int32) ≤ nI k from nI_ge (b := 10) hk (by decide)), if_pos (show g_mcode (u_mcode μ 0) = 0 from rfl), bitM_e hm hk, nI_1, nI_1]
      by_cases hb : m.testBit k = true
      · rw [if_pos hb, if_neg (show ¬ (1 : Int32) = 0 by decide)]
        rcases told_or (μ := u_mcode μ 0) he hev R k with ⟨t1, t2⟩ | ⟨t0, t1, t2⟩
        · rw [t2, mb1_e, if_neg (show ¬ (1 : Int32) = 0 by decide), mlet_e]
          refine Or.inl ⟨_, rfl, Or.inl ⟨?_, fun v hv hbv => ?_⟩⟩
          · rw [cs_t (b := fun p => m.testBit p) hb]
          · by_cases e : v = k
            · rw [e]; exact t1
            · exact q v (by omega) hbv
        · rw [t2, mb1_e, if_pos rfl, mlet_e]
          exact Or.inl ⟨_, rfl, Or.inr ⟨_, rfl, k, hk, hb, t0⟩⟩
      · rw [if_neg hb, if_pos rfl]
        refine Or.inl ⟨_, rfl, Or.inl ⟨?_, fun v hv hbv => ?_⟩⟩
        · rw [cs_f (b := fun p => m.testBit p) hb]
        · have : v ≠ k := fun e => hb (e ▸ hbv)
          exact q v (by omega) hbv
    · refine Or.inr ⟨(x, nI k, u_mcode μ 1), ?_, Or.inr ⟨_, _, rfl, q⟩⟩
      show b_M_promise_24 (nI m) x (nI k) (u_mcode μ 1) = _
      unfold b_M_promise_24
      rw [if_neg (show ¬ (10 : Int32) ≤ nI k from nI_ge (b := 10) hk (by decide)), if_neg (show ¬ g_mcode (u_mcode μ 1) = 0 by show ¬ (1 : Int32) = 0; decide)]
  · rintro s (⟨rfl, q⟩ | ⟨x, rfl, q⟩)
    · refine ⟨_, ?_, Or.inl ⟨rfl, q⟩⟩
      show b_M_promise_24 (nI m) _ (nI 10) _ = _
      unfold b_M_promise_24
      rw [if_pos (show (10 : Int32) ≤ nI 10 from nI_le (Nat.le_refl _) (by decide))]
    · refine ⟨(x, nI 10, u_mcode μ 1), ?_, Or.inr ⟨_, _, rfl, q⟩⟩
      show b_M_promise_24 (nI m) _ (nI 10) _ = _
      unfold b_M_promise_24
      rw [if_pos (show (10 : Int32) ≤ nI 10 from nI_le (Nat.le_refl _) (by decide))]
/-- the reference, at a set that is no set of orders -/
theorem look_bad {μ : SM} (m : Int32) : k_M_promise_12 m μ = some (0, u_mcode μ 1) := by
  unfold k_M_promise_12 k_M_promise_17
  rw [mlet_e]
  have l : lp (fun s : Int32 × Int32 × SM => b_M_promise_24 m s.1 s.2.1 s.2.2) FU ((0 : Int32), (0 : Int32), u_mcode μ 1) = some (0, 0, u_mcode μ 1) := by
    refine lp_x (n := 99999) ?_
    show b_M_promise_24 m 0 0 (u_mcode μ 1) = _
    unfold b_M_promise_24
    rw [if_neg (by decide), if_neg (show ¬ g_mcode (u_mcode μ 1) = 0 by show ¬ (1 : Int32) = 0; decide)]
  rw [l, mb3_e]
  unfold k_M_promise_74
  rw [if_neg (show ¬ g_mcode (u_mcode μ 1) ≤ 0 by show ¬ (1 : Int32) ≤ 0; decide)]
theorem not_told_hi {σ : SP} {v : Nat} (hv : 10 ≤ v) (h2 : v < 2 ^ 31) : ¬ ztold σ v := by
  unfold ztold m_H_isTold
  rw [if_neg (nI_pos h2), if_pos (show (10 : Int32) ≤ nI v from nI_le (a := 10) hv h2)]
  intro h
  exact absurd (Option.some.inj h) (by decide)
