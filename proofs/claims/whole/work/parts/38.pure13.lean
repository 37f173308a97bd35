/-! counting loops -/
def cnt (c : Nat → Bool) : Nat → Int32
  | 0 => 0
  | k + 1 => cnt c k + (if c k = true then 1 else 0)
theorem i0 (x : Int32) : x + 0 = x := Int32.add_zero x
theorem lp_cnt {body : Int32 × Int32 → Option ((Int32 × Int32) ⊕ (Int32 × Int32))} (N : Nat) (c : Nat → Bool) (hs : ∀ k v, k < N → body (v, nI k) = some (.inl (v + (if c k = true then 1 else 0), nI (k + 1)))) (he : ∀ v, body (v, nI N) = some (.inr (v, nI N))) (hN : N < 100000) : lp body FU (0, 0) = some (cnt c N, nI N) :=
  lp_for (body := body) N (fun k => (cnt c k, nI k)) (cnt c N, nI N) (fun k hk => hs k (cnt c k) hk) (he _) FU (FU_lt hN)
theorem cnt_congr {c d : Nat → Bool} {N : Nat} (h : ∀ k, k < N → c k = d k) : cnt c N = cnt d N := by
  induction N with
  | zero => rfl
  | succ N ih => unfold cnt; rw [ih (fun k hk => h k (by omega)), h N (by omega)]
/-- unit u is asked for by place p and good g (-1: any) -/
def askU (pl gd : Nat → Int32) (p g : Int32) (u : Nat) : Bool := decide (¬ pl u = -1 ∧ (p = -1 ∨ p = pl u) ∧ (g = -1 ∨ g = gd u))
theorem e_isAsked (v a : Int32) : m_H_isAsked v a = some (b2i (a = -1 ∨ a = v)) := by
  unfold m_H_isAsked
  by_cases h1 : a = -1
  · rw [if_pos h1, b2i_t (Or.inl h1)]
  · rw [if_neg h1]
    by_cases h2 : a = v
    · rw [if_pos h2, b2i_t (Or.inr h2)]
    · rw [if_neg h2, b2i_f (fun z => z.elim h1 h2)]
theorem unitsAt_e (σ : SP) (p g : Int32) : m_H_unitsAt p g σ = some (cnt (askU (g_pl σ) (g_gd σ) p g) 20) := by
  unfold m_H_unitsAt
  rw [lp_cnt 20 (askU (g_pl σ) (g_gd σ) p g) ?_ ?_ (by decide), mb2_e]
  · intro k v hk
    show b_H_unitsAt_5 p g σ v (nI k) = _
    unfold b_H_unitsAt_5
    rw [if_neg (show ¬ (20 : Int32) ≤ nI k from nI_ge (b := 20) hk (by decide)), e_isInside hk, mb1_b2i]
    simp only [mrd_nI hk (by decide : 20 < 2 ^ 31), e_isAsked, mb1_b2i, nI_1]
    by_cases h1 : g_pl σ k = -1
    · rw [if_neg (fun z => z h1), show askU (g_pl σ) (g_gd σ) p g k = false from decide_eq_false (fun z => z.1 h1)]
      simp [i0]
    · rw [if_pos h1]
      by_cases h2 : p = -1 ∨ p = g_pl σ k
      · rw [if_pos h2]
        by_cases h3 : g = -1 ∨ g = g_gd σ k
        · rw [if_pos h3, show askU (g_pl σ) (g_gd σ) p g k = true from decide_eq_true ⟨h1, h2, h3⟩]
          simp
        · rw [if_neg h3, show askU (g_pl σ) (g_gd σ) p g k = false from decide_eq_false (fun z => h3 z.2.2)]
          simp [i0]
      · rw [if_neg h2, show askU (g_pl σ) (g_gd σ) p g k = false from decide_eq_false (fun z => h2 z.2.1)]
        simp [i0]
  · intro v
    show b_H_unitsAt_5 p g σ v (nI 20) = _
    unfold b_H_unitsAt_5
    rw [if_pos (show (20 : Int32) ≤ nI 20 from nI_le (Nat.le_refl _) (by decide))]
