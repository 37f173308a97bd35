/-! walks: the places of an order's units -/
theorem lp_inv2 {S E : Type} {body : S → Option (S ⊕ E)} (N : Nat) (I : Nat → S → Prop) (Q : E → Prop) (hs : ∀ k s, k < N → I k s → (∃ s', body s = some (.inl s') ∧ I (k + 1) s') ∨ ∃ e, body s = some (.inr e) ∧ Q e) (he : ∀ s, I N s → ∃ e, body s = some (.inr e) ∧ Q e) {s : S} (h0 : I 0 s) {n : Nat} (hn : N < n) : ∃ e, lp body n s = some e ∧ Q e := by
  have main : ∀ d k n s, k + d = N → d < n → I k s → ∃ e, lp body n s = some e ∧ Q e := by
    intro d
    induction d with
    | zero =>
      intro k n s hk hn h
      obtain ⟨n, rfl⟩ : ∃ z, n = z + 1 := ⟨n - 1, by omega⟩
      have hk : k = N := by omega
      subst hk
      obtain ⟨e, h1, h2⟩ := he s h
      exact ⟨e, lp_x h1, h2⟩
    | succ d ih =>
      intro k n s hk hn h
      obtain ⟨n, rfl⟩ : ∃ z, n = z + 1 := ⟨n - 1, by omega⟩
      rcases hs k s (by omega) h with ⟨s', h1, h2⟩ | ⟨e, h1, h2⟩
      · obtain ⟨e, h3, h4⟩ := ih (k + 1) n s' (by omega) (by omega) h2
        exact ⟨e, (lp_s h1).trans h3, h4⟩
      · exact ⟨e, lp_x h1, h2⟩
  exact main N 0 n s (by omega) hn h0
def zhit (f : Nat → Bool) : Nat → Bool
  | 0 => false
  | k + 1 => zhit f k || f k
theorem hit_congr {f g : Nat → Bool} : ∀ k, (∀ u, u < k → f u = g u) → zhit f k = zhit g k
  | 0, _ => rfl
  | k + 1, h => by
    show (zhit f k || f k) = (zhit g k || g k)
    rw [hit_congr k (fun u hu => h u (by omega)), h k (by omega)]
def plU (pl gv : Nat → Int32) (c : Int32) (p u : Nat) : Bool := decide (gv u = c ∧ pl u = nI p)
def inP (pl gv : Nat → Int32) (c : Int32) (p : Nat) : Bool := zhit (plU pl gv c p) 20
def zcs (b : Nat → Bool) : Nat → Nat
  | 0 => 0
  | k + 1 => zcs b k + (if b k = true then 1 else 0)
theorem cs_mono (b : Nat → Bool) {i j : Nat} (h : i ≤ j) : zcs b i ≤ zcs b j := by
  induction j with
  | zero => have : i = 0 := by omega
            subst this; exact Nat.le_refl _
  | succ j ih =>
    by_cases e : i = j + 1
    · subst e; exact Nat.le_refl _
    · exact Nat.le_trans (ih (by omega)) (Nat.le_add_right _ _)
theorem cs_le (b : Nat → Bool) : ∀ k, zcs b k ≤ k
  | 0 => Nat.le_refl _
  | k + 1 => by
    have := cs_le b k
    show zcs b k + (if b k = true then 1 else 0) ≤ k + 1
    split <;> omega
theorem cs_t {b : Nat → Bool} {k : Nat} (h : b k = true) : zcs b (k + 1) = zcs b k + 1 := by show _ + _ = _; rw [if_pos h]
theorem cs_f {b : Nat → Bool} {k : Nat} (h : ¬ b k = true) : zcs b (k + 1) = zcs b k := by show _ + _ = _; rw [if_neg h]; rfl
theorem cs_congr {b c : Nat → Bool} : ∀ k, (∀ p, p < k → b p = c p) → zcs b k = zcs c k
  | 0, _ => rfl
  | k + 1, h => by
    show zcs b k + _ = zcs c k + _
    rw [cs_congr k (fun u hu => h u (by omega)), h k (by omega)]
theorem pop_tab : ∀ m, m < 1024 → m_JI_bitCount (nI m) = some (nI (zcs (fun p => m.testBit p) 10)) := by decide +kernel
theorem nI_or (a b : Nat) : nI a ||| nI b = nI (a ||| b) := by
  apply Int32.toBitVec_inj.mp
  show BitVec.ofNat 32 a ||| BitVec.ofNat 32 b = BitVec.ofNat 32 (a ||| b)
  exact BitVec.ofNat_or.symm
theorem shl_tab : ∀ v, v < 31 → ((1 : Int32) <<< (nI v &&& 31)) = nI (2 ^ v) := by decide +kernel
theorem mask_e {σ : SP} {μ : SM} {e : Nat} (R : RelS σ μ e) {o : Nat} (ho : o < 10) : ∃ m, m < 1024 ∧ m_H_placesOfUnitsGivenTo (nI o) σ = some (nI m) ∧ ∀ p, p < 10 → m.testBit p = inP (g_pl σ) (g_gv σ) (nI o) p := by
  unfold m_H_placesOfUnitsGivenTo
  have LL := lp_inv (body := fun s : Int32 × Int32 => b_H_placesOfUnitsGivenTo_4 (nI o) σ s.1 s.2) 20 (fun k s => ∃ m, s = (nI m, nI k) ∧ m < 1024 ∧ ∀ p, p < 10 → m.testBit p = zhit (plU (g_pl σ) (g_gv σ) (nI o) p) k) (fun s => ∃ m, s = (nI m, nI 20) ∧ m < 1024 ∧ ∀ p, p < 10 → m.testBit p = inP (g_pl σ) (g_gv σ) (nI o) p) ?_ ?_ (s := ((0 : Int32), (0 : Int32))) ⟨0, rfl, by decide, fun p _ => Nat.zero_testBit p⟩ (n := FU) (FU_lt (by decide))
  · obtain ⟨s, p1, m, rfl, p2, p3⟩ := LL
    rw [p1, mb2_e]
    exact ⟨m, p2, rfl, p3⟩
  · rintro u s hu ⟨m, rfl, q1, q2⟩
    show ∃ s', b_H_placesOfUnitsGivenTo_4 (nI o) σ (nI m) (nI u) = _ ∧ _
    unfold b_H_placesOfUnitsGivenTo_4
    rw [if_neg (show ¬ (20 : Int32) ≤ nI u from nI_ge (b := 20) hu (by decide)), e_isInside hu, mb1_b2i, mrd_nI hu (by decide), mrd_nI hu (by decide), nI_1]
    have skip : (∀ p, p < 10 → plU (g_pl σ) (g_gv σ) (nI o) p u = false) → ∃ s' : Int32 × Int32, (some (Sum.inl (nI m, nI (u + 1))) : Option ((Int32 × Int32) ⊕ (Int32 × Int32))) = some (Sum.inl s') ∧ ∃ m, s' = (nI m, nI (u + 1)) ∧ m < 1024 ∧ ∀ p, p < 10 → m.testBit p = zhit (plU (g_pl σ) (g_gv σ) (nI o) p) (u + 1) := by
      intro z
      refine ⟨_, rfl, m, rfl, q1, fun p hp => ?_⟩
      show _ = (_ || _)
      rw [z p hp, Bool.or_false]
      exact q2 p hp
    obtain ⟨-, -, e3, -⟩ := R.1 u hu
    by_cases h1 : g_pl σ u = -1
    · rw [if_neg (fun z => z h1)]
      exact skip (fun p hp => decide_eq_false (fun z => nI_ne_m1 (show p < 2 ^ 31 by omega) (z.2.symm.trans h1)))
    · rw [if_pos h1]
      obtain ⟨⟨q, hq, e4⟩, -⟩ := e3.resolve_left (fun z => h1 z.1)
      by_cases h2 : g_gv σ u = nI o
      · rw [if_pos h2, e4, shl_tab q (by omega), nI_or]
        refine ⟨_, rfl, m ||| 2 ^ q, rfl, Nat.or_lt_two_pow (n := 10) q1 (Nat.pow_lt_pow_right (by decide) hq), fun p hp => ?_⟩
        show _ = (_ || decide _)
        rw [Nat.testBit_or, q2 p hp, Nat.testBit_two_pow, e4]
        refine congrArg (fun z => (_ || z)) (decide_eq_decide.mpr ?_)
        rw [nI_eq (by omega) (by omega)]
        exact ⟨fun z => ⟨h2, z⟩, fun z => z.2⟩
      · rw [if_neg h2]
        exact skip (fun p hp => decide_eq_false (fun z => h2 z.1))
  · rintro s ⟨m, rfl, q1, q2⟩
    refine ⟨_, ?_, m, rfl, q1, q2⟩
    show b_H_placesOfUnitsGivenTo_4 (nI o) σ (nI m) (nI 20) = _
    unfold b_H_placesOfUnitsGivenTo_4
    rw [if_pos (show (20 : Int32) ≤ nI 20 from nI_le (Nat.le_refl _) (by decide))]
abbrev bI (b : Bool) : Int32 := if b = true then 1 else 0
theorem at_e {μ : SM} {e : Nat} (he : e ≤ 60) (hev : g_mev μ = nI e) (c c2 : Int32) (p : Nat) : lp (fun s : Int32 × Int32 => b_M_places_16 c c2 (nI p) μ s.1 s.2) FU ((0 : Int32), (0 : Int32)) = some (bI (inP (fun u => g_mpl μ (20 * e + u)) (fun u => g_mgv μ (20 * e + u)) c p), nI 20) := by
  refine lp_for (body := fun s : Int32 × Int32 => b_M_places_16 c c2 (nI p) μ s.1 s.2) 20 (fun u => (bI (zhit (plU (fun u => g_mpl μ (20 * e + u)) (fun u => g_mgv μ (20 * e + u)) c p) u), nI u)) (bI (inP (fun u => g_mpl μ (20 * e + u)) (fun u => g_mgv μ (20 * e + u)) c p), nI 20) ?_ ?_ FU (FU_lt (by decide))
  · intro u hu
    show b_M_places_16 c c2 (nI p) μ (bI (zhit _ u)) (nI u) = some (Sum.inl (bI (zhit _ u || decide (g_mgv μ (20 * e + u) = c ∧ g_mpl μ (20 * e + u) = nI p)), nI (u + 1)))
    unfold b_M_places_16
    rw [if_neg (show ¬ (20 : Int32) ≤ nI u from nI_ge (b := 20) hu (by decide)), hev, ix20, mrd_nI (show 20 * e + u < 1240 by omega) (by decide), mrd_nI (show 20 * e + u < 1240 by omega) (by decide), nI_1]
    cases zhit (plU (fun u => g_mpl μ (20 * e + u)) (fun u => g_mgv μ (20 * e + u)) c p) u
    · rw [if_pos (show bI false = 0 from rfl), Bool.false_or]
      by_cases h1 : g_mgv μ (20 * e + u) = c
      · rw [if_pos h1]
        by_cases h2 : g_mpl μ (20 * e + u) = nI p
        · rw [if_pos h2, decide_eq_true (show _ ∧ _ from ⟨h1, h2⟩)]; rfl
        · rw [if_neg h2, decide_eq_false (fun z => h2 z.2)]; rfl
      · rw [if_neg h1, decide_eq_false (fun z => h1 z.1)]; rfl
    · rw [if_neg (show ¬ bI true = 0 by decide), Bool.true_or]; rfl
  · show b_M_places_16 c c2 (nI p) μ _ (nI 20) = _
    unfold b_M_places_16
    rw [if_pos (show (20 : Int32) ≤ nI 20 from nI_le (Nat.le_refl _) (by decide))]
    rfl
theorem places_e {μ : SM} {e : Nat} (he : e ≤ 60) (hev : g_mev μ = nI e) (c : Int32) (b : Nat → Bool) (hb : b = inP (fun u => g_mpl μ (20 * e + u)) (fun u => g_mgv μ (20 * e + u)) c) : ∃ st, (5 ≤ zcs b 10 ∧ m_M_places c μ = some (5, u_mst μ st)) ∨ (zcs b 10 ≤ 4 ∧ m_M_places c μ = some (nI (zcs b 10), u_mst μ st) ∧ ∀ p, p < 10 → b p = true → st (zcs b p) = nI p) := by
  unfold m_M_places
  have LL := lp_inv2 (body := fun s : Int32 × Int32 × SM => b_M_places_4 c s.1 s.2.1 s.2.2) 10 (fun k s => ∃ st, s = (nI (zcs b k), nI k, u_mst μ st) ∧ zcs b k ≤ 4 ∧ ∀ p, p < k → b p = true → st (zcs b p) = nI p) (fun s => ∃ st x y, (5 ≤ zcs b 10 ∧ s = (0, x, y, u_mst μ st)) ∨ (zcs b 10 ≤ 4 ∧ s = (1, nI (zcs b 10), y, u_mst μ st) ∧ ∀ p, p < 10 → b p = true → st (zcs b p) = nI p)) ?_ ?_ (s := ((0 : Int32), (0 : Int32), μ)) ⟨g_mst μ, rfl, Nat.zero_le _, fun p h => absurd h (Nat.not_lt_zero p)⟩ (n := FU) (FU_lt (by decide))
  · obtain ⟨s, p1, st, x, y, ⟨p2, rfl⟩ | ⟨p2, rfl, p3⟩⟩ := LL
    · exact ⟨st, Or.inl ⟨p2, by rw [p1, mb4_e, if_pos rfl]⟩⟩
    · exact ⟨st, Or.inr ⟨p2, by rw [p1, mb4_e, if_neg (by decide)], p3⟩⟩
  · rintro k s hk ⟨st, rfl, q1, q2⟩
    show (∃ s', b_M_places_4 c (nI (zcs b k)) (nI k) (u_mst μ st) = _ ∧ _) ∨ ∃ e, b_M_places_4 c (nI (zcs b k)) (nI k) (u_mst μ st) = _ ∧ _
    have a := at_e (μ := u_mst μ st) he hev c (nI (zcs b k)) k
    have a2 : inP (fun u => g_mpl (u_mst μ st) (20 * e + u)) (fun u => g_mgv (u_mst μ st) (20 * e + u)) c k = b k := by rw [hb]
    rw [a2] at a
    have B : b_M_places_4 c (nI (zcs b k)) (nI k) (u_mst μ st) = if bI (b k) = 0 then some (Sum.inl (nI (zcs b k), nI (k + 1), u_mst μ st)) else if nI (zcs b k) = 4 then some (Sum.inr (0, nI (zcs b k), nI k, u_mst μ st)) else mck 4 (nI (zcs b k)) (some (Sum.inl (nI (zcs b k + 1), nI (k + 1), u_mst μ (upd st (nI (zcs b k)).toNatClampNeg (nI k))))) := by
      unfold b_M_places_4
      rw [if_neg (show ¬ (10 : Int32) ≤ nI k from nI_ge (b := 10) hk (by decide)), a, mb2_e, nI_1, nI_1]
      rfl
    rw [B]
    by_cases h : b k = true
    · rw [if_neg (show ¬ bI (b k) = 0 by rw [h]; decide)]
      by_cases h4 : zcs b k = 4
      · rw [if_pos (show nI (zcs b k) = 4 by rw [h4]; rfl)]
        refine Or.inr ⟨_, rfl, st, _, _, Or.inl ⟨?_, rfl⟩⟩
        have := cs_mono b (show k + 1 ≤ 10 by omega)
        rw [cs_t h] at this
        omega
      · rw [if_neg (show ¬ nI (zcs b k) = 4 by rw [show (4 : Int32) = nI 4 from rfl, nI_eq (by omega) (by decide)]; exact h4), mck_nI (by omega) (by decide), nI_clamp (by omega)]
        refine Or.inl ⟨_, rfl, upd st (zcs b k) (nI k), by rw [cs_t h], by rw [cs_t h]; omega, fun p hp hbp => ?_⟩
        by_cases e : p = k
        · subst e; exact upd_same _ _ _
        · have m := cs_mono b (show p + 1 ≤ k by omega)
          rw [cs_t hbp] at m
          rw [upd_ne _ _ (by omega)]
          exact q2 p (by omega) hbp
    · rw [if_pos (show bI (b k) = 0 from if_neg h)]
      refine Or.inl ⟨_, rfl, st, by rw [cs_f h], by rw [cs_f h]; exact q1, fun p hp hbp => ?_⟩
      have : p ≠ k := fun e => h (e ▸ hbp)
      exact q2 p (by omega) hbp
  · rintro s ⟨st, rfl, q1, q2⟩
    refine ⟨_, ?_, st, nI 0, nI 10, Or.inr ⟨q1, rfl, q2⟩⟩
    show b_M_places_4 c (nI (zcs b 10)) (nI 10) (u_mst μ st) = _
    unfold b_M_places_4
    rw [if_pos (show (10 : Int32) ≤ nI 10 from nI_le (Nat.le_refl _) (by decide))]
