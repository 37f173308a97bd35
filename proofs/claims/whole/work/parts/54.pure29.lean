/-! promise -/
def zsu (g : Nat → Nat) : Nat → Nat
  | 0 => 0
  | k + 1 => zsu g k + g k
theorem su_le {a b : Nat → Nat} : ∀ k, (∀ d, d < k → a d ≤ b d) → zsu a k ≤ zsu b k
  | 0, _ => Nat.le_refl _
  | k + 1, h => Nat.add_le_add (su_le k (fun d zhd => h d (by omega))) (h k (by omega))
theorem su_congr {a b : Nat → Nat} : ∀ k, (∀ d, d < k → a d = b d) → zsu a k = zsu b k
  | 0, _ => rfl
  | k + 1, h => by show zsu a k + a k = zsu b k + b k; rw [su_congr k (fun d zhd => h d (by omega)), h k (by omega)]
theorem su_0 : ∀ k, zsu (fun _ => 0) k = 0
  | 0 => rfl
  | k + 1 => su_0 k
theorem su_add (a b : Nat → Nat) : ∀ k, zsu (fun d => a d + b d) k = zsu a k + zsu b k
  | 0 => rfl
  | k + 1 => by
    show zsu (fun d => a d + b d) k + (a k + b k) = zsu a k + a k + (zsu b k + b k)
    rw [su_add a b k]; omega
theorem su_one (j : Nat) : ∀ k, zsu (fun d => if j = d then 1 else 0) k = if j < k then 1 else 0
  | 0 => by rw [if_neg (Nat.not_lt_zero j)]; rfl
  | k + 1 => by
    show zsu _ k + (if j = k then 1 else 0) = _
    rw [su_one j k]
    by_cases c : j = k
    · rw [if_pos c, if_neg (by omega), if_pos (by omega)]
    · rw [if_neg c]
      by_cases d : j < k
      · rw [if_pos d, if_pos (by omega)]
      · rw [if_neg d, if_neg (by omega)]
theorem cs_part {T : Nat → Bool} {dd : Nat → Nat} : ∀ k, (∀ o, o < k → T o = true → dd o < 6) → zcs T k = zsu (fun d => zcs (fun o => T o && decide (dd o = d)) k) 6
  | 0, _ => (su_0 6).symm
  | k + 1, h => by
    have ih := cs_part k (fun o ho => h o (by omega))
    show zcs T k + (if T k = true then 1 else 0) = zsu (fun d => zcs (fun o => T o && decide (dd o = d)) k + (if (T k && decide (dd k = d)) = true then 1 else 0)) 6
    rw [su_add, ← ih]
    by_cases c : T k = true
    · have e : zsu (fun d => if (T k && decide (dd k = d)) = true then 1 else 0) 6 = zsu (fun d => if dd k = d then 1 else 0) 6 := su_congr 6 (fun d _ => by
        rw [c, Bool.true_and]
        by_cases z : dd k = d
        · rw [if_pos (decide_eq_true z), if_pos z]
        · rw [if_neg (by rw [decide_eq_true_iff]; exact z), if_neg z])
      rw [e, su_one, if_pos c, if_pos (h k (by omega) c)]
    · have e : zsu (fun d => if (T k && decide (dd k = d)) = true then 1 else 0) 6 = zsu (fun _ => 0) 6 := su_congr 6 (fun d _ => by
        rw [if_neg]
        rw [Bool.and_eq_true]
        exact fun z => c z.1)
      rw [e, su_0, if_neg c]
theorem reidx (A q : Nat → Bool) (y : Nat → Nat) : ∀ k, zsm (fun o => A o && q (zcs A o)) (fun o => y (zcs A o)) k = zsm q y (zcs A k)
  | 0 => rfl
  | k + 1 => by
    show zsm _ _ k + (if (A k && q (zcs A k)) = true then y (zcs A k) else 0) = _
    rw [reidx A q y k]
    by_cases c : A k = true
    · rw [cs_t c, c, Bool.true_and]; rfl
    · rw [cs_f c, if_neg (by rw [Bool.and_eq_true]; exact fun z => c z.1)]; rfl
theorem cs_cut {s n : Nat} (hs : s < 2 ^ n) (hn : n ≤ 10) : zcs (fun p => s.testBit p) 10 = zcs (fun p => s.testBit p) n := by
  have : ∀ k, n + k ≤ 10 → zcs (fun p => s.testBit p) (n + k) = zcs (fun p => s.testBit p) n := by
    intro k
    induction k with
    | zero => intro _; rfl
    | succ k ih =>
      intro h
      have nb : ¬ (fun p => s.testBit p) (n + k) = true := fun z => by
        have := bit_lt hs z
        omega
      show zcs _ (n + k + 1) = _
      rw [cs_f nb]
      exact ih (by omega)
  have e := this (10 - n) (by omega)
  rw [show n + (10 - n) = 10 by omega] at e
  exact e
theorem bits_ex (q : Nat → Bool) : ∀ k, ∃ s, s < 2 ^ k ∧ ∀ i, i < k → s.testBit i = q i
  | 0 => ⟨0, by decide, fun i h => absurd h (Nat.not_lt_zero i)⟩
  | k + 1 => by
    obtain ⟨s, h1, h2⟩ := bits_ex q k
    have lt : s < 2 ^ (k + 1) := Nat.lt_of_lt_of_le h1 (Nat.pow_le_pow_right (by decide) (by omega))
    by_cases c : q k = true
    · refine ⟨s ||| 2 ^ k, Nat.or_lt_two_pow lt (Nat.pow_lt_pow_right (by decide) (by omega)), fun i hi => ?_⟩
      rw [Nat.testBit_or, Nat.testBit_two_pow]
      by_cases e : i = k
      · rw [e, decide_eq_true rfl, Bool.or_true, c]
      · rw [decide_eq_false (fun z => e z.symm), Bool.or_false]
        exact h2 i (by omega)
    · refine ⟨s, lt, fun i hi => ?_⟩
      by_cases e : i = k
      · rw [e, Nat.testBit_lt_two_pow h1]
        cases z : q k
        · rfl
        · exact absurd z c
      · exact h2 i (by omega)
theorem zhit_iff (f : Nat → Bool) : ∀ k, zhit f k = true ↔ ∃ u, u < k ∧ f u = true
  | 0 => ⟨fun h => absurd h Bool.false_ne_true, fun ⟨u, h, _⟩ => absurd h (Nat.not_lt_zero u)⟩
  | k + 1 => by
    show (zhit f k || f k) = true ↔ _
    rw [Bool.or_eq_true, zhit_iff f k]
    constructor
    · rintro (⟨u, h1, h2⟩ | h)
      · exact ⟨u, by omega, h2⟩
      · exact ⟨k, by omega, h⟩
    · rintro ⟨u, h1, h2⟩
      by_cases e : u = k
      · exact Or.inr (e ▸ h2)
      · exact Or.inl ⟨u, by omega, h2⟩
theorem promise_eq {m v : Nat} {w g dd y h f κ : Nat → Nat} (hD : ∀ o, o < 10 → m.testBit o = true → dd o < 6) (h6 : zcs (opA m w g) 10 ≤ 6)
    (hy : ∀ o, o < 10 → opA m w g o = true → y (zcs (opA m w g) o) = w o - g o ∧ h (zcs (opA m w g) o) = dd o)
    (hκ : ∀ d, d < 6 → zBest (ordA m w g dd d) (fun o => w o - g o) (f d) (κ d))
    (hv1 : ∀ s, s < 2 ^ zcs (opA m w g) 10 → zEn (zcs (opA m w g) 10) y h f s → zpop s ≤ v) (hv2 : v = 0 ∨ ∃ s, s < 2 ^ zcs (opA m w g) 10 ∧ zEn (zcs (opA m w g) 10) y h f s ∧ zpop s = v) : v = zsu κ 6 := by
  have bitA : ∀ o, opA m w g o = true → m.testBit o = true := fun o z => by
    have z : (m.testBit o && decide (g o < w o)) = true := z
    rw [Bool.and_eq_true] at z
    exact z.1
  have ord : ∀ d o, ordA m w g dd d o = (opA m w g o && decide (dd o = d)) := fun d o => rfl
  generalize hA : opA m w g = A at *
  have A6 : ∀ o, o < 10 → A o = true → dd o < 6 := fun o ho z => hD o ho (bitA o z)
  have E1 : ∀ s, s < 2 ^ zcs A 10 → zpop s = zcs (fun o => A o && s.testBit (zcs A o)) 10 := by
    intro s hs
    unfold zpop
    rw [cs_cut hs (by omega), cs_sm _ (zcs A 10), ← reidx A (fun p => s.testBit p) (fun _ => 1) 10, cs_sm _ 10]
  have E2 : ∀ s d, zsm (zbd s d h) y (zcs A 10) = zsm (fun o => (A o && s.testBit (zcs A o)) && decide (dd o = d)) (fun o => w o - g o) 10 := by
    intro s d
    rw [← reidx A (zbd s d h) y 10]
    refine sm_congr 10 (fun o ho => ?_) (fun o ho z => ?_)
    · unfold zbd
      by_cases c : A o = true
      · rw [(hy o ho c).2, Bool.and_assoc]
      · rw [Bool.eq_false_iff.mpr c, Bool.false_and, Bool.false_and, Bool.false_and]
    · rw [Bool.and_eq_true] at z
      exact (hy o ho z.1).1
  apply Nat.le_antisymm
  · rcases hv2 with z | ⟨s, z1, z2, z3⟩
    · omega
    · rw [← z3, E1 s z1, cs_part (dd := dd) 10 (fun o ho z => A6 o ho (by rw [Bool.and_eq_true] at z; exact z.1))]
      refine su_le 6 (fun d zhd => (hκ d zhd).2 _ (fun o ho z => ?_) ?_)
      · rw [ord]
        rw [Bool.and_eq_true, Bool.and_eq_true] at z
        rw [Bool.and_eq_true]
        exact ⟨z.1.1, z.2⟩
      · rw [← E2 s d]
        exact z2 d zhd
  · have GX : ∃ Gf : Nat → Nat → Bool, ∀ d, (d < 6 → (∀ o, Gf d o = true → ordA m w g dd d o = true) ∧ zsm (Gf d) (fun o => w o - g o) 10 ≤ f d ∧ zcs (Gf d) 10 = κ d) ∧ (¬ d < 6 → Gf d = fun _ => false) := by
      refine ⟨fun d => if zhd : d < 6 then (hκ d zhd).1.choose else fun _ => false, fun d => ⟨fun zhd => ?_, fun zhd => dif_neg zhd⟩⟩
      have e : (if zhd : d < 6 then (hκ d zhd).1.choose else fun _ => false) = (hκ d zhd).1.choose := dif_pos zhd
      show (∀ o, (if zhd : d < 6 then (hκ d zhd).1.choose else fun _ => false) o = true → _) ∧ zsm (if zhd : d < 6 then (hκ d zhd).1.choose else fun _ => false) _ 10 ≤ _ ∧ zcs (if zhd : d < 6 then (hκ d zhd).1.choose else fun _ => false) 10 = _
      rw [e]
      exact (hκ d zhd).1.choose_spec
    obtain ⟨Gf, hG⟩ := GX
    have G1 : ∀ d o, Gf d o = true → d < 6 ∧ A o = true ∧ dd o = d := by
      intro d o z
      by_cases zhd : d < 6
      · have := ((hG d).1 zhd).1 o z
        rw [ord, Bool.and_eq_true, decide_eq_true_iff] at this
        exact ⟨zhd, this.1, this.2⟩
      · rw [(hG d).2 zhd] at z
        exact absurd z Bool.false_ne_true
    obtain ⟨s, s1, s2⟩ := bits_ex (fun i => zhit (fun o => Gf (dd o) o && decide (zcs A o = i)) 10) (zcs A 10)
    have T1 : ∀ o, o < 10 → (A o && s.testBit (zcs A o)) = Gf (dd o) o := by
      intro o ho
      by_cases c : A o = true
      · have lt : zcs A o < zcs A 10 := by
          have := cs_mono A (show o + 1 ≤ 10 by omega)
          rw [cs_t c] at this
          omega
        rw [c, Bool.true_and, s2 _ lt]
        show zhit (fun o' => Gf (dd o') o' && decide (zcs A o' = zcs A o)) 10 = Gf (dd o) o
        by_cases z : Gf (dd o) o = true
        · rw [z, zhit_iff]
          exact ⟨o, ho, by rw [z, decide_eq_true rfl]; rfl⟩
        · rw [Bool.eq_false_iff.mpr z, Bool.eq_false_iff]
          intro y
          rw [zhit_iff] at y
          obtain ⟨u, u1, u2⟩ := y
          rw [Bool.and_eq_true, decide_eq_true_iff] at u2
          have := cs_inj (G1 _ _ u2.1).2.1 c u2.2
          rw [this] at u2
          exact z u2.1
      · rw [Bool.eq_false_iff.mpr c, Bool.false_and]
        symm
        rw [Bool.eq_false_iff]
        exact fun z => c (G1 _ _ z).2.1
    have T2 : ∀ d, d < 6 → ∀ o, o < 10 → ((A o && s.testBit (zcs A o)) && decide (dd o = d)) = Gf d o := by
      intro d zhd o ho
      rw [T1 o ho]
      by_cases c : dd o = d
      · rw [c, decide_eq_true rfl, Bool.and_true]
      · rw [decide_eq_false c, Bool.and_false]
        symm
        rw [Bool.eq_false_iff]
        exact fun z => c (G1 _ _ z).2.2
    have P : zpop s = zsu κ 6 := by
      rw [E1 s s1, cs_part (dd := dd) 10 (fun o ho z => A6 o ho (by rw [Bool.and_eq_true] at z; exact z.1))]
      refine su_congr 6 (fun d zhd => ?_)
      rw [cs_congr (c := Gf d) 10 (fun o ho => T2 d zhd o ho)]
      exact ((hG d).1 zhd).2.2
    rw [← P]
    refine hv1 s s1 (fun d zhd => ?_)
    rw [E2 s d, sm_congr (q := Gf d) (y := fun o => w o - g o) 10 (fun o ho => T2 d zhd o ho) (fun _ _ _ => rfl)]
    exact ((hG d).1 zhd).2.1
theorem fill_all {μ : SM} {e m : Nat} {w g dd f : Nat → Nat} (he : e ≤ 60) (hev : g_mev μ = nI e) (hm : m < 1024) (D : OrdM μ e m w g dd) (hf : ∀ d, d < 6 → zcs (frU (fun u => g_mpl μ (20 * e + u)) (fun u => g_mgv μ (20 * e + u)) (fun u => g_mgd μ (20 * e + u)) (nI d)) 20 = f d) : ∃ κ : Nat → Nat, lp (fun s : Int32 × Int32 => b_M_promise_96 (nI m) μ s.1 s.2) FU ((0 : Int32), (0 : Int32)) = some (nI (zsu κ 6), nI 6) ∧ ∀ d, d < 6 → zBest (ordA m w g dd d) (fun o => w o - g o) (f d) (κ d) := by
  have X : ∀ d, d < 6 → ∃ κ, m_M_filled (nI m) (nI d) μ = some (nI κ) ∧ zBest (ordA m w g dd d) (fun o => w o - g o) (f d) κ := fun d zhd => by
    have := filled_e he hev hm zhd D
    rw [hf d zhd] at this
    exact this
  have Y : ∃ κ : Nat → Nat, ∀ d, d < 6 → m_M_filled (nI m) (nI d) μ = some (nI (κ d)) ∧ zBest (ordA m w g dd d) (fun o => w o - g o) (f d) (κ d) := by
    refine ⟨fun d => if zhd : d < 6 then (X d zhd).choose else 0, fun d zhd => ?_⟩
    show m_M_filled (nI m) (nI d) μ = some (nI (if zhd : d < 6 then (X d zhd).choose else 0)) ∧ zBest (ordA m w g dd d) (fun o => w o - g o) (f d) (if zhd : d < 6 then (X d zhd).choose else 0)
    rw [dif_pos zhd]
    exact (X d zhd).choose_spec
  obtain ⟨κ, hκ⟩ := Y
  refine ⟨κ, lp_for (body := fun s : Int32 × Int32 => b_M_promise_96 (nI m) μ s.1 s.2) 6 (fun k => (nI (zsu κ k), nI k)) (nI (zsu κ 6), nI 6) ?_ ?_ FU (FU_lt (by decide)), fun d zhd => (hκ d zhd).2⟩
  · intro k hk
    show b_M_promise_96 (nI m) μ (nI (zsu κ k)) (nI k) = _
    unfold b_M_promise_96
    rw [if_neg (show ¬ (6 : Int32) ≤ nI k from nI_ge (b := 6) hk (by decide)), (hκ k hk).1, mb1_e, nI_add, nI_1]
    rfl
  · show b_M_promise_96 (nI m) μ (nI (zsu κ 6)) (nI 6) = _
    unfold b_M_promise_96
    rw [if_pos (show (6 : Int32) ≤ nI 6 from nI_le (Nat.le_refl _) (by decide))]
