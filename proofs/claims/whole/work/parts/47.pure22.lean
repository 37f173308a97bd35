/-! walks: lists that run through a set of bits -/
theorem lp_inv {S E : Type} {body : S → Option (S ⊕ E)} (N : Nat) (I : Nat → S → Prop) (Q : E → Prop) (hs : ∀ k s, k < N → I k s → ∃ s', body s = some (.inl s') ∧ I (k + 1) s') (he : ∀ s, I N s → ∃ e, body s = some (.inr e) ∧ Q e) {s : S} (h0 : I 0 s) {n : Nat} (hn : N < n) : ∃ e, lp body n s = some e ∧ Q e := by
  have main : ∀ d k n s, k + d = N → d < n → I k s → ∃ e, lp body n s = some e ∧ Q e := by
    intro d
    induction d with
    | zero =>
      intro k n s hk hn h
      obtain ⟨n, rfl⟩ : ∃ z, n = z + 1 := ⟨n - 1, by omega⟩
      have hk : k = N := by omega
      subst hk
      obtain ⟨e, h1, h2⟩ := he s h
      exact ⟨e, lp_x h1, h2⟩
    | succ d ih =>
      intro k n s hk hn h
      obtain ⟨n, rfl⟩ : ∃ z, n = z + 1 := ⟨n - 1, by omega⟩
      obtain ⟨s', h1, h2⟩ := hs k s (by omega) h
      obtain ⟨e, h3, h4⟩ := ih (k + 1) n s' (by omega) (by omega) h2
      exact ⟨e, (lp_s h1).trans h3, h4⟩
  exact main N 0 n s (by omega) hn h0
def zEnum (l : List Nat) (m : Nat) : Prop := l.Nodup ∧ ∀ p, p ∈ l ↔ m.testBit p = true
def zpc (D : Nat → Nat) : Nat → List Nat → Nat
  | _, [] => 0
  | a, v :: l => D (10 * a + v) + zpc D v l
def zhd (a : Nat) : List Nat → Nat
  | [] => a
  | j :: _ => j
def zrc (D : Nat → Nat) (a : Nat) : List Nat → Nat
  | [] => 0
  | i :: l => zrc D a l + D (10 * zhd a l + i)
theorem hd_app (a v : Nat) (l : List Nat) : zhd a (l ++ [v]) = zhd v l := by cases l <;> rfl
theorem rc_app (D : Nat → Nat) (a v : Nat) : ∀ l, zrc D a (l ++ [v]) = D (10 * a + v) + zrc D v l
  | [] => by show 0 + _ = _ + 0; rw [Nat.zero_add]; rfl
  | i :: l => by
    show zrc D a (l ++ [v]) + D (10 * zhd a (l ++ [v]) + i) = D (10 * a + v) + (zrc D v l + D (10 * zhd v l + i))
    rw [hd_app, rc_app D a v l, Nat.add_assoc]
theorem pc_rc (D : Nat → Nat) : ∀ l a, zpc D a l = zrc D a l.reverse
  | [], _ => rfl
  | v :: l, a => by
    rw [List.reverse_cons, rc_app, ← pc_rc D l v]
    rfl
theorem zEnum.rev {l : List Nat} {m : Nat} (h : zEnum l m) : zEnum l.reverse m := ⟨List.pairwise_reverse.mpr (h.1.imp (fun z e => z e.symm)), fun p => by rw [List.mem_reverse]; exact h.2 p⟩
theorem bit_lt {m p k : Nat} (hm : m < 2 ^ k) (h : m.testBit p = true) : p < k := by
  by_cases c : p < k
  · exact c
  · rw [Nat.testBit_lt_two_pow (Nat.lt_of_lt_of_le hm (Nat.pow_le_pow_right (by decide) (Nat.le_of_not_lt c)))] at h
    cases h
def zclr (m v : Nat) : Nat := m &&& (4294967295 - 2 ^ v)
theorem clr_tab : ∀ v, v < 10 → ∀ p, p < 10 → (4294967295 - 2 ^ v).testBit p = decide (p ≠ v) := by decide +kernel
theorem clr_bit {m v p : Nat} (hm : m < 1024) (hv : v < 10) : (zclr m v).testBit p = (m.testBit p && decide (p ≠ v)) := by
  unfold zclr
  rw [Nat.testBit_and]
  by_cases c : p < 10
  · rw [clr_tab v hv p c]
  · have : m.testBit p = false := by
      cases e : m.testBit p
      · rfl
      · exact absurd (bit_lt (k := 10) hm e) c
    rw [this, Bool.false_and, Bool.false_and]
theorem clr_lt {m v : Nat} (hm : m < 1024) : zclr m v < 1024 := Nat.lt_of_le_of_lt Nat.and_le_left hm
theorem zEnum.nil {m : Nat} (h : zEnum [] m) : m = 0 := by
  apply Nat.eq_of_testBit_eq
  intro i
  rw [Nat.zero_testBit]
  cases e : m.testBit i
  · rfl
  · exact absurd ((h.2 i).mpr e) List.not_mem_nil
theorem enum_0 : zEnum [] 0 := ⟨List.nodup_nil, fun p => by rw [Nat.zero_testBit]; constructor <;> intro h <;> cases h⟩
theorem zEnum.tail {l : List Nat} {m v : Nat} (hm : m < 1024) (hv : v < 10) (h : zEnum (v :: l) m) : zEnum l (zclr m v) := by
  obtain ⟨h1, h2⟩ := h
  obtain ⟨h3, h4⟩ := List.nodup_cons.mp h1
  refine ⟨h4, fun p => ?_⟩
  rw [clr_bit hm hv, Bool.and_eq_true, decide_eq_true_iff, ← h2 p, List.mem_cons]
  constructor
  · intro z; exact ⟨Or.inr z, fun e => h3 (e ▸ z)⟩
  · rintro ⟨z | z, w⟩
    · exact absurd z w
    · exact z
theorem zEnum.cons {l : List Nat} {m v : Nat} (hm : m < 1024) (hv : v < 10) (hb : m.testBit v = true) (h : zEnum l (zclr m v)) : zEnum (v :: l) m := by
  obtain ⟨h1, h2⟩ := h
  have h2' : ∀ p, p ∈ l ↔ m.testBit p = true ∧ p ≠ v := fun p => by rw [h2 p, clr_bit hm hv, Bool.and_eq_true, decide_eq_true_iff]
  refine ⟨List.nodup_cons.mpr ⟨fun z => ((h2' v).mp z).2 rfl, h1⟩, fun p => ?_⟩
  rw [List.mem_cons, h2' p]
  constructor
  · rintro (z | z)
    · rw [z]; exact hb
    · exact z.1
  · intro z
    by_cases e : p = v
    · exact Or.inl e
    · exact Or.inr ⟨z, e⟩
theorem zEnum.erase {l : List Nat} {m v : Nat} (hm : m < 1024) (hv : v < 10) (hb : m.testBit v = true) (h : zEnum l m) : zEnum (l.erase v) (zclr m v) ∧ (l.erase v).length + 1 = l.length := by
  obtain ⟨h1, h2⟩ := h
  have hin : v ∈ l := (h2 v).mpr hb
  refine ⟨⟨h1.erase v, fun p => ?_⟩, ?_⟩
  · rw [clr_bit hm hv, Bool.and_eq_true, decide_eq_true_iff, ← h2 p, h1.mem_erase_iff]
    exact And.comm
  · rw [List.length_erase_of_mem hin]
    have := List.length_pos_of_mem hin
    omega
theorem nI_and (a b : Nat) : nI a &&& nI b = nI (a &&& b) := by
  apply Int32.toBitVec_inj.mp
  show BitVec.ofNat 32 a &&& BitVec.ofNat 32 b = BitVec.ofNat 32 (a &&& b)
  exact BitVec.ofNat_and.symm
theorem msk_tab : ∀ v, v < 10 → (((1 : Int32) <<< (nI v &&& 31)) ^^^ (-1 : Int32)) = nI (4294967295 - 2 ^ v) := by decide +kernel
theorem clr_e {v : Nat} (m : Nat) (hv : v < 10) : nI m &&& (((1 : Int32) <<< (nI v &&& 31)) ^^^ (-1 : Int32)) = nI (zclr m v) := by
  rw [msk_tab v hv, nI_and]; rfl
theorem ushr_tab : ∀ v, v < 10 → (((nI v).toUInt32 &&& Int32.toUInt32 31).toBitVec % 32).toNat = v := by decide +kernel
theorem isInSet_e {m v : Nat} (hm : m < 1024) (hv : v < 10) : m_P_isInSet (nI v) (nI m) = some (b2i (m.testBit v = true)) := by
  unfold m_P_isInSet
  rw [pk_ushrN (by omega) (nI v) v (ushr_tab v hv), pk_andN (by have := Nat.div_le_self m (2 ^ v); omega) 1 (by decide)]
  have e : m.testBit v = decide (m / 2 ^ v % 2 = 1) := Nat.testBit_eq_decide_div_mod_eq
  rw [e]
  by_cases c : m / 2 ^ v % 2 = 1
  · rw [b2i_t (decide_eq_true c), show m / 2 ^ v % 2 ^ 1 = 1 from c, if_pos (show nI 1 = 1 from rfl)]
  · rw [b2i_f (by rw [decide_eq_true_iff]; exact c), show m / 2 ^ v % 2 ^ 1 = 0 by rw [Nat.pow_one]; omega, if_neg (show ¬ nI 0 = 1 by decide)]
/-- the fewest steps through a set -/
def zFew (S : Nat → Nat) (C a m w : Nat) : Prop := w ≤ C ∧ (∀ l, zEnum l m → w ≤ zpc S a l) ∧ (w = C ∨ ∃ l, zEnum l m ∧ w = zpc S a l)
theorem few_ok {σ : SP} {S : Nat → Nat} (hse : ∀ p, p < 100 → g_se σ p = nI (S p)) (hS : ∀ p, p < 100 → S p ≤ 1000000) : ∀ k d a m, a < 10 → m < 1024 → d < k → d < 100 → (∃ l, zEnum l m ∧ l.length ≤ d) → ∃ w, m_Y_fewest k σ (nI a) (nI m) (nI d) = some (nI w) ∧ zFew S 1000000 a m w := by
  intro k
  induction k with
  | zero => intro d a m _ _ h; omega
  | succ k ih =>
    intro d a m ha hm zhd h100 hl
    show ∃ w, mF_Y_fewest (m_Y_fewest k) σ (nI a) (nI m) (nI d) = some (nI w) ∧ _
    unfold mF_Y_fewest
    by_cases h0 : m = 0
    · subst h0
      rw [if_pos (show nI 0 = 0 from rfl)]
      exact ⟨0, rfl, Nat.zero_le _, fun l _ => Nat.zero_le _, Or.inr ⟨[], enum_0, rfl⟩⟩
    · rw [if_neg (nI_ne0 (by omega) (by omega))]
      obtain ⟨l0, hl1, hl2⟩ := hl
      have hd0 : 0 < d := by
        cases l0 with
        | nil => exact absurd hl1.nil h0
        | cons x y => have : (x :: y).length = y.length + 1 := rfl; omega
      rw [if_pos (show (0 : Int32) < nI d from nI_lt (a := 0) hd0 (by omega))]
      have LL := lp_inv (body := fun s : Int32 × Int32 => b_Y_fewest_20 (m_Y_fewest k) (nI a) (nI m) (nI d) σ s.1 s.2) 10 (fun v s => ∃ w, s = (nI w, nI v) ∧ w ≤ 1000000 ∧ (∀ u l, u < v → zEnum (u :: l) m → w ≤ zpc S a (u :: l)) ∧ (w = 1000000 ∨ ∃ l, zEnum l m ∧ w = zpc S a l)) (fun e => ∃ w, e = (nI w, nI 10) ∧ w ≤ 1000000 ∧ (∀ u l, u < 10 → zEnum (u :: l) m → w ≤ zpc S a (u :: l)) ∧ (w = 1000000 ∨ ∃ l, zEnum l m ∧ w = zpc S a l)) ?_ ?_ (s := ((1000000 : Int32), (0 : Int32))) ⟨1000000, rfl, Nat.le_refl _, fun u l h => absurd h (Nat.not_lt_zero u), Or.inl rfl⟩ (n := FU) (FU_lt (by decide))
      · obtain ⟨e, p1, w, p2, p3, p4, p5⟩ := LL
        rw [p1, p2, mb2_e]
        refine ⟨w, rfl, p3, fun l hl => ?_, p5⟩
        cases l with
        | nil => exact absurd hl.nil h0
        | cons u l => exact p4 u l (bit_lt (k := 10) hm ((hl.2 u).mp List.mem_cons_self)) hl
      · rintro v s hv ⟨w, rfl, q1, q2, q3⟩
        show ∃ s', b_Y_fewest_20 (m_Y_fewest k) (nI a) (nI m) (nI d) σ (nI w) (nI v) = _ ∧ _
        unfold b_Y_fewest_20
        rw [if_neg (show ¬ (10 : Int32) ≤ nI v from nI_ge (b := 10) hv (by decide)), isInSet_e hm hv, mb1_b2i]
        by_cases hb : m.testBit v = true
        · rw [if_pos hb]
          obtain ⟨e1, e2⟩ := hl1.erase hm hv hb
          obtain ⟨w2, r1, r2, r3, r4⟩ := ih (d - 1) v (zclr m v) hv (clr_lt hm) (by omega) (by omega) ⟨_, e1, by omega⟩
          have hsv := hS (10 * a + v) (by omega)
          rw [clr_e m hv, show nI d - (1 : Int32) = nI (d - 1) from pk_sub (b := 1) (by omega), r1, mb1_e, pair_e, mb1_e, mrd_nI (show 10 * a + v < 100 by omega) (by decide), mlet_e, hse _ (by omega), nI_add, nI_1]
          by_cases c : S (10 * a + v) + w2 < w
          · rw [if_pos (nI_lt c (by omega))]
            refine ⟨_, rfl, S (10 * a + v) + w2, rfl, by omega, ?_, Or.inr ?_⟩
            · intro u l hu hE
              by_cases huv : u = v
              · subst huv
                have := r3 l (hE.tail hm hv)
                show _ ≤ S (10 * a + u) + zpc S u l
                omega
              · have := q2 u l (by omega) hE
                omega
            · rcases r4 with r4 | ⟨l, r4, r5⟩
              · omega
              · exact ⟨v :: l, r4.cons hm hv hb, by rw [r5]; rfl⟩
          · rw [if_neg (nI_nlt (by omega) (by omega))]
            refine ⟨_, rfl, w, rfl, q1, ?_, q3⟩
            intro u l hu hE
            by_cases huv : u = v
            · subst huv
              have := r3 l (hE.tail hm hv)
              show _ ≤ S (10 * a + u) + zpc S u l
              omega
            · exact q2 u l (by omega) hE
        · rw [if_neg hb, nI_1]
          refine ⟨_, rfl, w, rfl, q1, fun u l hu hE => ?_, q3⟩
          by_cases huv : u = v
          · subst huv
            exact absurd ((hE.2 u).mp List.mem_cons_self) hb
          · exact q2 u l (by omega) hE
      · rintro s ⟨w, rfl, q1, q2, q3⟩
        refine ⟨(nI w, nI 10), ?_, w, rfl, q1, q2, q3⟩
        show b_Y_fewest_20 (m_Y_fewest k) (nI a) (nI m) (nI d) σ (nI w) (nI 10) = _
        unfold b_Y_fewest_20
        rw [if_pos (show (10 : Int32) ≤ nI 10 from nI_le (Nat.le_refl _) (by decide))]
