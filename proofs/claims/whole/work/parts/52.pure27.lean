/-! promise: the reference fills the smallest first -/
def zsm (p : Nat → Bool) (x : Nat → Nat) : Nat → Nat
  | 0 => 0
  | k + 1 => zsm p x k + (if p k = true then x k else 0)
theorem cs_sm (b : Nat → Bool) : ∀ k, zcs b k = zsm b (fun _ => 1) k
  | 0 => rfl
  | k + 1 => by show zcs b k + _ = zsm b _ k + _; rw [cs_sm b k]
theorem cnt_cs (b : Nat → Bool) : ∀ k, cnt b k = nI (zcs b k)
  | 0 => rfl
  | k + 1 => by
    show cnt b k + _ = nI (zcs b k + _)
    rw [cnt_cs b k]
    by_cases h : b k = true
    · rw [if_pos h, if_pos h, nI_1]
    · rw [if_neg h, if_neg h, i0]; rfl
theorem sm_false (x : Nat → Nat) : ∀ k, zsm (fun _ => false) x k = 0
  | 0 => rfl
  | k + 1 => by show zsm _ x k + _ = _; rw [sm_false x k]; rfl
theorem sm_congr {p q : Nat → Bool} {x y : Nat → Nat} : ∀ k, (∀ o, o < k → p o = q o) → (∀ o, o < k → p o = true → x o = y o) → zsm p x k = zsm q y k
  | 0, _, _ => rfl
  | k + 1, h, h' => by
    show zsm p x k + _ = zsm q y k + _
    rw [sm_congr k (fun o ho => h o (by omega)) (fun o ho => h' o (by omega)), ← h k (by omega)]
    by_cases c : p k = true
    · rw [if_pos c, if_pos c, h' k (by omega) c]
    · rw [if_neg c, if_neg c]
theorem sm_add {G : Nat → Bool} {x : Nat → Nat} {j : Nat} (hG : ¬ G j = true) : ∀ k, zsm (fun o => G o || decide (o = j)) x k = zsm G x k + (if j < k then x j else 0)
  | 0 => by rw [if_neg (Nat.not_lt_zero j)]; rfl
  | k + 1 => by
    show zsm _ x k + (if (G k || decide (k = j)) = true then x k else 0) = zsm G x k + (if G k = true then x k else 0) + _
    rw [sm_add hG k]
    by_cases c : k = j
    · subst c
      rw [if_pos (show (G k || decide (k = k)) = true by rw [decide_eq_true rfl, Bool.or_true]), if_neg hG, if_neg (Nat.lt_irrefl k), if_pos (Nat.lt_succ_self k)]
    · rw [show (G k || decide (k = j)) = G k by rw [decide_eq_false c, Bool.or_false]]
      by_cases d : j < k
      · rw [if_pos d, if_pos (show j < k + 1 by omega)]; omega
      · rw [if_neg d, if_neg (show ¬ j < k + 1 by omega)]; rfl
theorem sm_mono {p q : Nat → Bool} {x : Nat → Nat} : ∀ k, (∀ o, o < k → p o = true → q o = true) → zsm p x k ≤ zsm q x k
  | 0, _ => Nat.le_refl _
  | k + 1, h => by
    have ih := sm_mono (x := x) k (fun o ho => h o (by omega))
    show zsm p x k + _ ≤ zsm q x k + _
    by_cases c : p k = true
    · rw [if_pos c, if_pos (h k (by omega) c)]; omega
    · rw [if_neg c]; omega
/-- exchange -/
theorem sm_ex {T G : Nat → Bool} {x : Nat → Nat} {ms : Nat} : ∀ k, (∀ o, o < k → T o = true → ¬ G o = true → ms ≤ x o) → (∀ o, o < k → G o = true → x o ≤ ms) → zsm G x k + ms * zcs T k ≤ zsm T x k + ms * zcs G k
  | 0, _, _ => Nat.le_refl _
  | k + 1, h1, h2 => by
    have ih := sm_ex k (fun o ho => h1 o (by omega)) (fun o ho => h2 o (by omega))
    show zsm G x k + _ + ms * (zcs T k + _) ≤ zsm T x k + _ + ms * (zcs G k + _)
    rw [Nat.mul_add, Nat.mul_add]
    have a := h1 k (by omega)
    have b := h2 k (by omega)
    by_cases c : T k = true
    · by_cases d : G k = true
      · rw [if_pos c, if_pos d, if_pos c, if_pos d]; omega
      · have := a c d
        rw [if_pos c, if_neg d, if_pos c, if_neg d]; omega
    · by_cases d : G k = true
      · have := b d
        rw [if_neg c, if_pos d, if_neg c, if_pos d]; omega
      · rw [if_neg c, if_neg d, if_neg c, if_neg d]; omega
/-- a best filling of the orders A with f units -/
def zBest (A : Nat → Bool) (x : Nat → Nat) (f κ : Nat) : Prop := (∃ G : Nat → Bool, (∀ o, G o = true → A o = true) ∧ zsm G x 10 ≤ f ∧ zcs G 10 = κ) ∧ ∀ T : Nat → Bool, (∀ o, o < 10 → T o = true → A o = true) → zsm T x 10 ≤ f → zcs T 10 ≤ κ
def zGI (A : Nat → Bool) (x : Nat → Nat) (f c k φ κ : Nat) : Prop := ∃ G : Nat → Bool, (∀ o, G o = true → o < 10 ∧ A o = true ∧ (x o < c ∨ (x o = c ∧ o < k))) ∧ φ + zsm G x 10 = f ∧ zcs G 10 = κ ∧
  ((∀ o, o < 10 → A o = true → (x o < c ∨ (x o = c ∧ o < k)) → G o = true) ∨ ∃ ms, ms ≤ c ∧ φ < ms ∧ (∀ o, G o = true → x o ≤ ms) ∧ ∀ o, o < 10 → A o = true → ¬ G o = true → ms ≤ x o)
theorem zGI.done {A : Nat → Bool} {x : Nat → Nat} {f φ κ : Nat} (hx : ∀ o, o < 10 → A o = true → x o < 10) (h : zGI A x f 10 0 φ κ) : zBest A x f κ := by
  obtain ⟨G, h1, h2, h3, h4⟩ := h
  refine ⟨⟨G, fun o ho => (h1 o ho).2.1, by omega, h3⟩, fun T hT hf => ?_⟩
  rcases h4 with h4 | ⟨ms, -, m1, m2, m3⟩
  · rw [← h3, cs_sm, cs_sm]
    exact sm_mono 10 (fun o ho hTo => h4 o ho (hT o ho hTo) (Or.inl (hx o ho (hT o ho hTo))))
  · have := sm_ex (T := T) (G := G) (x := x) (ms := ms) 10 (fun o ho hTo hG => m3 o ho (hT o ho hTo) hG) (fun o _ hG => m2 o hG)
    rw [h3] at this
    have lt : ms * zcs T 10 < ms * (κ + 1) := by rw [Nat.mul_add, Nat.mul_one]; omega
    have := Nat.lt_of_mul_lt_mul_left lt
    omega
theorem zGI.next {A : Nat → Bool} {x : Nat → Nat} {f c φ κ : Nat} (h : zGI A x f c 10 φ κ) : zGI A x f (c + 1) 0 φ κ := by
  obtain ⟨G, h1, h2, h3, h4⟩ := h
  refine ⟨G, fun o ho => ?_, h2, h3, ?_⟩
  · obtain ⟨a, b, d⟩ := h1 o ho
    exact ⟨a, b, by omega⟩
  · rcases h4 with h4 | ⟨ms, m0, m1, m2, m3⟩
    · exact Or.inl (fun o ho hA hp => h4 o ho hA (by omega))
    · exact Or.inr ⟨ms, by omega, m1, m2, m3⟩
theorem zGI.skip {A : Nat → Bool} {x : Nat → Nat} {f c k φ κ : Nat} (hk : ¬ (A k = true ∧ x k = c)) (h : zGI A x f c k φ κ) : zGI A x f c (k + 1) φ κ := by
  obtain ⟨G, h1, h2, h3, h4⟩ := h
  refine ⟨G, fun o ho => ?_, h2, h3, ?_⟩
  · obtain ⟨a, b, d⟩ := h1 o ho
    exact ⟨a, b, by omega⟩
  · rcases h4 with h4 | ⟨ms, m0, m1, m2, m3⟩
    · refine Or.inl (fun o ho hA hp => h4 o ho hA ?_)
      by_cases e : o = k
      · subst e
        rcases hp with hp | hp
        · exact Or.inl hp
        · exact absurd ⟨hA, hp.1⟩ hk
      · omega
    · exact Or.inr ⟨ms, m0, m1, m2, m3⟩
theorem zGI.fail {A : Nat → Bool} {x : Nat → Nat} {f c k φ κ : Nat} (hc : φ < c) (h : zGI A x f c k φ κ) : zGI A x f c (k + 1) φ κ := by
  obtain ⟨G, h1, h2, h3, h4⟩ := h
  refine ⟨G, fun o ho => ?_, h2, h3, ?_⟩
  · obtain ⟨a, b, d⟩ := h1 o ho
    exact ⟨a, b, by omega⟩
  · rcases h4 with h4 | ⟨ms, m0, m1, m2, m3⟩
    · refine Or.inr ⟨c, Nat.le_refl _, hc, fun o ho => ?_, fun o ho hA hG => ?_⟩
      · have := (h1 o ho).2.2
        omega
      · by_cases z : x o < c
        · exact absurd (h4 o ho hA (Or.inl z)) hG
        · omega
    · exact Or.inr ⟨ms, m0, m1, m2, m3⟩
theorem zGI.take {A : Nat → Bool} {x : Nat → Nat} {f c k φ κ : Nat} (hk : k < 10) (hA : A k = true) (hx : x k = c) (hc : c ≤ φ) (h : zGI A x f c k φ κ) : zGI A x f c (k + 1) (φ - c) (κ + 1) := by
  obtain ⟨G, h1, h2, h3, h4⟩ := h
  have hG : ¬ G k = true := fun z => by
    have := (h1 k z).2.2
    omega
  rcases h4 with h4 | ⟨ms, m0, m1, m2, m3⟩
  · refine ⟨fun o => G o || decide (o = k), fun o ho => ?_, ?_, ?_, Or.inl (fun o ho hAo hp => ?_)⟩
    · have ho : (G o || decide (o = k)) = true := ho
      rw [Bool.or_eq_true, decide_eq_true_iff] at ho
      rcases ho with ho | ho
      · obtain ⟨a, b, d⟩ := h1 o ho
        exact ⟨a, b, by omega⟩
      · rw [ho]; exact ⟨hk, hA, by omega⟩
    · rw [sm_add hG, if_pos hk, hx]; omega
    · rw [cs_sm, sm_add hG, if_pos hk, ← cs_sm, h3]
    · show (G o || decide (o = k)) = true
      rw [Bool.or_eq_true, decide_eq_true_iff]
      by_cases e : o = k
      · exact Or.inr e
      · exact Or.inl (h4 o ho hAo (by omega))
  · omega
def ordA (m : Nat) (w g dd : Nat → Nat) (d o : Nat) : Bool := m.testBit o && decide (g o < w o) && decide (dd o = d)
/-- what both sides read of the orders of the set -/
def OrdM (μ : SM) (e m : Nat) (w g dd : Nat → Nat) : Prop := ∀ o, o < 10 → m.testBit o = true → g_mwa μ (10 * e + o) = nI (w o) ∧ g_mgt μ (10 * e + o) = nI (g o) ∧ g_mog μ (10 * e + o) = nI (dd o) ∧ g o ≤ w o ∧ w o < 10 ∧ dd o < 6
theorem filled_e {μ : SM} {e m d : Nat} {w g dd : Nat → Nat} (he : e ≤ 60) (hev : g_mev μ = nI e) (hm : m < 1024) (zhd : d < 6) (D : OrdM μ e m w g dd) : ∃ κ, m_M_filled (nI m) (nI d) μ = some (nI κ) ∧ zBest (ordA m w g dd d) (fun o => w o - g o) (zcs (frU (fun u => g_mpl μ (20 * e + u)) (fun u => g_mgv μ (20 * e + u)) (fun u => g_mgd μ (20 * e + u)) (nI d)) 20) κ := by
  unfold m_M_filled
  rw [freeOf_e he hev, mb1_e, cnt_cs]
  have hf := cs_le (frU (fun u => g_mpl μ (20 * e + u)) (fun u => g_mgv μ (20 * e + u)) (fun u => g_mgd μ (20 * e + u)) (nI d)) 20
  generalize zcs (frU (fun u => g_mpl μ (20 * e + u)) (fun u => g_mgv μ (20 * e + u)) (fun u => g_mgd μ (20 * e + u)) (nI d)) 20 = f at hf ⊢
  have LL := lp_inv (body := fun s : Int32 × Int32 × Int32 => b_M_filled_12 (nI m) (nI d) μ s.1 s.2.1 s.2.2) 9 (fun k s => ∃ φ κ, s = (nI φ, nI κ, nI (k + 1)) ∧ zGI (ordA m w g dd d) (fun o => w o - g o) f (k + 1) 0 φ κ) (fun s => ∃ φ κ, s = (nI φ, nI κ, nI 10) ∧ zGI (ordA m w g dd d) (fun o => w o - g o) f 10 0 φ κ) ?_ ?_ (s := (nI f, (0 : Int32), (1 : Int32))) ⟨f, 0, rfl, fun _ => false, fun o h => absurd h Bool.false_ne_true, by rw [sm_false]; rfl, by rw [cs_sm, sm_false], Or.inl (fun o ho hA hp => ?_)⟩ (n := FU) (FU_lt (by decide))
  · obtain ⟨s, p1, φ, κ, rfl, p2⟩ := LL
    rw [p1, mb3_e]
    refine ⟨κ, rfl, p2.done (fun o ho hA => ?_)⟩
    have hA : (m.testBit o && decide (g o < w o) && decide (dd o = d)) = true := hA
    rw [Bool.and_eq_true, Bool.and_eq_true] at hA
    obtain ⟨-, -, -, -, q, -⟩ := D o ho hA.1.1
    show w o - g o < 10
    omega
  · rintro k s hk ⟨φ, κ, rfl, GG⟩
    show ∃ s', b_M_filled_12 (nI m) (nI d) μ (nI φ) (nI κ) (nI (k + 1)) = _ ∧ _
    unfold b_M_filled_12
    rw [if_neg (show ¬ (10 : Int32) ≤ nI (k + 1) from nI_ge (b := 10) (by omega) (by decide))]
    have L2 := lp_inv (body := fun s : Int32 × Int32 × Int32 => b_M_filled_22 (nI m) (nI d) (nI (k + 1)) μ s.1 s.2.1 s.2.2) 10 (fun o s => ∃ φ κ, s = (nI φ, nI κ, nI o) ∧ zGI (ordA m w g dd d) (fun o => w o - g o) f (k + 1) o φ κ) (fun s => ∃ φ κ, s = (nI φ, nI κ, nI 10) ∧ zGI (ordA m w g dd d) (fun o => w o - g o) f (k + 1) 10 φ κ) ?_ ?_ (s := (nI φ, nI κ, (0 : Int32))) ⟨φ, κ, rfl, GG⟩ (n := FU) (FU_lt (by decide))
    · obtain ⟨s, p1, φ, κ, rfl, p2⟩ := L2
      rw [p1, mb3_e, nI_1]
      exact ⟨_, rfl, φ, κ, rfl, p2.next⟩
    · rintro o s ho ⟨φ, κ, rfl, G1⟩
      show ∃ s', b_M_filled_22 (nI m) (nI d) (nI (k + 1)) μ (nI φ) (nI κ) (nI o) = _ ∧ _
      have hφ : φ ≤ 20 := by
        obtain ⟨G, -, h2, -⟩ := G1
        omega
      unfold b_M_filled_22
      rw [if_neg (show ¬ (10 : Int32) ≤ nI o from nI_ge (b := 10) ho (by decide)), bitM_e hm ho, hev, ix10, mrd_nI (show 10 * e + o < 620 by omega) (by decide), mrd_nI (show 10 * e + o < 620 by omega) (by decide), mrd_nI (show 10 * e + o < 620 by omega) (by decide), nI_1, nI_1]
      by_cases hb : m.testBit o = true
      · obtain ⟨q1, q2, q3, q4, q5, q6⟩ := D o ho hb
        rw [if_pos hb, if_neg (show ¬ (1 : Int32) = 0 by decide), q1, q2, q3, pk_sub q4]
        by_cases c1 : dd o = d
        · rw [if_pos (show nI (dd o) = nI d by rw [c1])]
          by_cases c2 : w o - g o = k + 1
          · have hA : ordA m w g dd d o = true := by
              unfold ordA
              rw [hb, decide_eq_true c1, decide_eq_true (show g o < w o by omega)]; rfl
            rw [if_pos (show nI (w o - g o) = nI (k + 1) by rw [c2])]
            by_cases c3 : k + 1 ≤ φ
            · rw [if_pos (nI_le c3 (by omega)), pk_sub c3]
              exact ⟨_, rfl, _, _, rfl, G1.take ho hA c2 c3⟩
            · rw [if_neg (nI_ge (by omega) (by omega))]
              exact ⟨_, rfl, _, _, rfl, G1.fail (by omega)⟩
          · rw [if_neg (show ¬ nI (w o - g o) = nI (k + 1) by rw [nI_eq (by omega) (by omega)]; exact c2)]
            exact ⟨_, rfl, _, _, rfl, G1.skip (fun z => c2 z.2)⟩
        · rw [if_neg (show ¬ nI (dd o) = nI d by rw [nI_eq (by omega) (by omega)]; exact c1)]
          refine ⟨_, rfl, _, _, rfl, G1.skip (fun z => c1 ?_)⟩
          have z1 : (m.testBit o && decide (g o < w o) && decide (dd o = d)) = true := z.1
          rw [Bool.and_eq_true, decide_eq_true_iff] at z1
          exact z1.2
      · rw [if_neg hb, if_pos rfl]
        refine ⟨_, rfl, _, _, rfl, G1.skip (fun z => hb ?_)⟩
        have z1 : (m.testBit o && decide (g o < w o) && decide (dd o = d)) = true := z.1
        rw [Bool.and_eq_true, Bool.and_eq_true] at z1
        exact z1.1.1
    · rintro s ⟨φ, κ, rfl, G1⟩
      refine ⟨_, ?_, φ, κ, rfl, G1⟩
      show b_M_filled_22 (nI m) (nI d) (nI (k + 1)) μ (nI φ) (nI κ) (nI 10) = _
      unfold b_M_filled_22
      rw [if_pos (show (10 : Int32) ≤ nI 10 from nI_le (Nat.le_refl _) (by decide))]
  · rintro s ⟨φ, κ, rfl, G1⟩
    refine ⟨_, ?_, φ, κ, rfl, G1⟩
    show b_M_filled_12 (nI m) (nI d) μ (nI φ) (nI κ) (nI 10) = _
    unfold b_M_filled_12
    rw [if_pos (show (10 : Int32) ≤ nI 10 from nI_le (Nat.le_refl _) (by decide))]
  · have hA : (m.testBit o && decide (g o < w o) && decide (dd o = d)) = true := hA
    rw [Bool.and_eq_true, Bool.and_eq_true, decide_eq_true_iff] at hA
    have := hA.1.2
    have hp : w o - g o < 0 + 1 ∨ (w o - g o = 0 + 1 ∧ o < 0) := hp
    omega
