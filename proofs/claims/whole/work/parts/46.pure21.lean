/-! the links laid, and way -/
def zraw (far : Nat) (L : Nat → Nat) (p : Nat) : Nat := if L p = 0 then far else L p
def zmx (n m : Nat) (f g : Nat → Nat) (h : Nat → Int32) : Nat → Int32 := fun p => if p < n then nI (f p) else if p < m then nI (g p) else h p
theorem mx_s {n m : Nat} {f g : Nat → Nat} {h : Nat → Int32} (hm : n ≤ m) : upd (zmx n m f g h) m (nI (g m)) = zmx n (m + 1) f g h := by
  funext p
  unfold upd zmx
  by_cases e : p = m
  · subst e; rw [if_pos rfl, if_neg (by omega), if_pos (by omega)]
  · rw [if_neg e]
    by_cases h1 : p < n
    · rw [if_pos h1, if_pos h1]
    · rw [if_neg h1, if_neg h1]
      by_cases h2 : p < m
      · rw [if_pos h2, if_pos (by omega)]
      · rw [if_neg h2, if_neg (by omega)]
theorem mx_row {a far : Nat} {L : Nat → Nat} {h : Nat → Int32} (ha : a < 10) : upd (zmx (10 * a) (10 * a + 10) (zlay far L) (zraw far L) h) (11 * a) (nI 0) = zmx (10 * (a + 1)) (10 * (a + 1)) (zlay far L) (zraw far L) h := by
  funext p
  unfold upd zmx
  by_cases e : p = 11 * a
  · rw [if_pos e, if_pos (show p < 10 * (a + 1) by omega)]
    exact congrArg nI (if_pos (show p % 11 = 0 by omega)).symm
  · rw [if_neg e]
    by_cases h1 : p < 10 * a
    · rw [if_pos h1, if_pos (by omega)]
    · rw [if_neg h1]
      by_cases h2 : p < 10 * a + 10
      · rw [if_pos h2, if_pos (by omega)]
        unfold zlay zraw
        rw [if_neg (show ¬ p % 11 = 0 by omega)]
      · rw [if_neg h2, if_neg (by omega), if_neg (by omega)]
theorem lay_e {σ : SP} {L : Nat → Nat} (hL : ∀ p, p < 100 → g_lk σ p = nI (L p) ∧ L p < 100) : m_Y_layLinks σ = some (u_se σ (zarr (zlay 1000000 L) (g_se σ))) := by
  unfold m_Y_layLinks
  have l := lp_for (body := fun s : Int32 × SP => b_Y_layLinks_2 s.1 s.2) 10 (fun a => (nI a, u_se σ (zmx (10 * a) (10 * a) (zlay 1000000 L) (zraw 1000000 L) (g_se σ)))) (nI 10, u_se σ (zmx 100 100 (zlay 1000000 L) (zraw 1000000 L) (g_se σ))) ?_ ?_ FU (FU_lt (by decide))
  · have e0 : u_se σ (zmx (10 * 0) (10 * 0) (zlay 1000000 L) (zraw 1000000 L) (g_se σ)) = σ := by
      have : zmx (10 * 0) (10 * 0) (zlay 1000000 L) (zraw 1000000 L) (g_se σ) = g_se σ := by
        funext p; unfold zmx; rw [if_neg (by omega), if_neg (by omega)]
      rw [this]
    rw [e0] at l
    have l0 : lp (fun s : Int32 × SP => b_Y_layLinks_2 s.1 s.2) FU ((0 : Int32), σ) = some (nI 10, u_se σ (zmx 100 100 (zlay 1000000 L) (zraw 1000000 L) (g_se σ))) := l
    rw [l0, mb2_e]
    have : zmx 100 100 (zlay 1000000 L) (zraw 1000000 L) (g_se σ) = zarr (zlay 1000000 L) (g_se σ) := by
      funext p; unfold zmx zarr
      by_cases hp : p < 100
      · rw [if_pos hp, if_pos hp]
      · rw [if_neg hp, if_neg hp, if_neg hp]
    rw [this]
  · intro a ha
    show b_Y_layLinks_2 (nI a) (u_se σ (zmx (10 * a) (10 * a) (zlay 1000000 L) (zraw 1000000 L) (g_se σ))) = _
    unfold b_Y_layLinks_2
    rw [if_neg (show ¬ (10 : Int32) ≤ nI a from nI_ge (b := 10) ha (by decide))]
    have l := lp_for (body := fun s : Int32 × SP => b_Y_layLinks_10 (nI a) s.1 s.2) 10 (fun b => (nI b, u_se σ (zmx (10 * a) (10 * a + b) (zlay 1000000 L) (zraw 1000000 L) (g_se σ)))) (nI 10, u_se σ (zmx (10 * a) (10 * a + 10) (zlay 1000000 L) (zraw 1000000 L) (g_se σ))) ?_ ?_ FU (FU_lt (by decide))
    · have l0 : lp (fun s : Int32 × SP => b_Y_layLinks_10 (nI a) s.1 s.2) FU ((0 : Int32), u_se σ (zmx (10 * a) (10 * a) (zlay 1000000 L) (zraw 1000000 L) (g_se σ))) = some (nI 10, u_se σ (zmx (10 * a) (10 * a + 10) (zlay 1000000 L) (zraw 1000000 L) (g_se σ))) := l
      rw [l0, mb2_e, pair_e, mb1_e, mck_nI (show 10 * a + a < 100 by omega) (by decide), mlet_e, nI_clamp (by omega), nI_1]
      show some (Sum.inl (nI (a + 1), u_se σ (upd (zmx (10 * a) (10 * a + 10) (zlay 1000000 L) (zraw 1000000 L) (g_se σ)) (10 * a + a) (nI 0)))) = _
      rw [show 10 * a + a = 11 * a by omega, mx_row ha]
    · intro b hb
      obtain ⟨q1, q2⟩ := hL (10 * a + b) (by omega)
      show b_Y_layLinks_10 (nI a) (nI b) (u_se σ (zmx (10 * a) (10 * a + b) (zlay 1000000 L) (zraw 1000000 L) (g_se σ))) = _
      unfold b_Y_layLinks_10
      have q3 : g_lk (u_se σ (zmx (10 * a) (10 * a + b) (zlay 1000000 L) (zraw 1000000 L) (g_se σ))) (10 * a + b) = nI (L (10 * a + b)) := q1
      rw [if_neg (show ¬ (10 : Int32) ≤ nI b from nI_ge (b := 10) hb (by decide)), pair_e, mb1_e, mrd_nI (show 10 * a + b < 100 by omega) (by decide), mb1_e, q3, mck_nI (show 10 * a + b < 100 by omega) (by decide), mck_nI (show 10 * a + b < 100 by omega) (by decide), mlet_e, mlet_e, nI_clamp (by omega), nI_1]
      have s := mx_s (n := 10 * a) (m := 10 * a + b) (f := zlay 1000000 L) (g := zraw 1000000 L) (h := g_se σ) (by omega)
      by_cases c : L (10 * a + b) = 0
      · rw [c, if_pos (show nI 0 ≤ 0 by decide)]
        have e : zraw 1000000 L (10 * a + b) = 1000000 := if_pos c
        rw [e] at s
        exact congrArg (fun z => some (Sum.inl (nI (b + 1), u_se σ z))) s
      · rw [if_neg (show ¬ nI (L (10 * a + b)) ≤ 0 from nI_nle (by omega) (by omega))]
        have e : zraw 1000000 L (10 * a + b) = L (10 * a + b) := if_neg c
        rw [e] at s
        exact congrArg (fun z => some (Sum.inl (nI (b + 1), u_se σ z))) s
    · show b_Y_layLinks_10 (nI a) (nI 10) _ = _
      unfold b_Y_layLinks_10
      rw [if_pos (show (10 : Int32) ≤ nI 10 from nI_le (Nat.le_refl _) (by decide))]
  · show b_Y_layLinks_2 (nI 10) _ = _
    unfold b_Y_layLinks_2
    rw [if_pos (show (10 : Int32) ≤ nI 10 from nI_le (Nat.le_refl _) (by decide))]
theorem lay_diag (far : Nat) (L : Nat → Nat) (i : Nat) : zlay far L (11 * i) = 0 := if_pos (by omega)
theorem zlay_le {far : Nat} {L : Nat → Nat} {p : Nat} (h : L p < 100) (hf : 100 ≤ far) : zlay far L p ≤ far := by
  unfold zlay
  split
  · omega
  · split <;> omega
theorem measure_e {σ : SP} {L : Nat → Nat} (hL : ∀ p, p < 100 → g_lk σ p = nI (L p) ∧ L p < 100) : m_Y_measure σ = some (u_se σ (zarr (fwN (zlay 1000000 L) 10) (g_se σ))) := by
  unfold m_Y_measure
  rw [lay_e hL, mb1_e, rounds_e (fun i _ => lay_diag _ L i) (fun p hp => zlay_le (hL p hp).2 (by decide)), mb2_e]
theorem reach_e {μ : SM} {e : Nat} {L : Nat → Nat} (he : e ≤ 60) (hev : g_mev μ = nI e) (hL : ∀ p, p < 100 → g_mlk μ (100 * e + p) = nI (L p) ∧ L p < 100) : m_M_reach μ = some (u_mfa μ (zarr (fwN (zlay 1048576 L) 10) (g_mfa μ))) := by
  unfold m_M_reach
  have l := lp_for (body := fun s : Int32 × SM => b_M_reach_2 s.1 s.2) 100 (fun a => (nI a, u_mfa μ (zmx 0 a (zlay 1048576 L) (zlay 1048576 L) (g_mfa μ)))) (nI 100, u_mfa μ (zmx 0 100 (zlay 1048576 L) (zlay 1048576 L) (g_mfa μ))) ?_ ?_ FU (FU_lt (by decide))
  · have e0 : u_mfa μ (zmx 0 0 (zlay 1048576 L) (zlay 1048576 L) (g_mfa μ)) = μ := by
      have : zmx 0 0 (zlay 1048576 L) (zlay 1048576 L) (g_mfa μ) = g_mfa μ := by
        funext p; unfold zmx; rw [if_neg (by omega), if_neg (by omega)]
      rw [this]
    rw [e0] at l
    have l0 : lp (fun s : Int32 × SM => b_M_reach_2 s.1 s.2) FU ((0 : Int32), μ) = some (nI 100, u_mfa μ (zmx 0 100 (zlay 1048576 L) (zlay 1048576 L) (g_mfa μ))) := l
    have : zmx 0 100 (zlay 1048576 L) (zlay 1048576 L) (g_mfa μ) = zarr (zlay 1048576 L) (g_mfa μ) := by
      funext p; unfold zmx zarr
      rw [if_neg (by omega)]
    rw [l0, mb2_e, this, Mrounds_e (fun i _ => lay_diag _ L i) (fun p hp => zlay_le (hL p hp).2 (by decide)), mb2_e]
  · intro a ha
    obtain ⟨q1, q2⟩ := hL a ha
    show b_M_reach_2 (nI a) (u_mfa μ (zmx 0 a (zlay 1048576 L) (zlay 1048576 L) (g_mfa μ))) = _
    unfold b_M_reach_2
    have q3 : g_mlk (u_mfa μ (zmx 0 a (zlay 1048576 L) (zlay 1048576 L) (g_mfa μ))) (100 * e + a) = nI (L a) := q1
    have q4 : g_mev (u_mfa μ (zmx 0 a (zlay 1048576 L) (zlay 1048576 L) (g_mfa μ))) = nI e := hev
    have s := mx_s (n := 0) (m := a) (f := zlay 1048576 L) (g := zlay 1048576 L) (h := g_mfa μ) (by omega)
    rw [if_neg (show ¬ (100 : Int32) ≤ nI a from nI_ge (b := 100) ha (by decide)), show (11 : Int32) = nI 11 from rfl, pk_rem (by omega) (by decide) (by decide), q4, ix100, mrd_nI (show 100 * e + a < 6200 by omega) (by decide), mrd_nI (show 100 * e + a < 6200 by omega) (by decide), q3, mck_nI (show a < 100 by omega) (by decide), mck_nI (show a < 100 by omega) (by decide), mck_nI (show a < 100 by omega) (by decide), mlet_e, mlet_e, mlet_e, nI_clamp (by omega), nI_1]
    by_cases d : a % 11 = 0
    · rw [d, if_pos (show nI 0 = 0 from rfl)]
      have z : zlay 1048576 L a = 0 := if_pos d
      rw [z] at s
      exact congrArg (fun z => some (Sum.inl (nI (a + 1), u_mfa μ z))) s
    · rw [if_neg (nI_ne0 (by omega) (by omega))]
      by_cases c : L a = 0
      · rw [c, if_pos (show nI 0 ≤ 0 by decide)]
        have z : zlay 1048576 L a = 1048576 := by unfold zlay; rw [if_neg d, if_pos c]
        rw [z] at s
        exact congrArg (fun z => some (Sum.inl (nI (a + 1), u_mfa μ z))) s
      · rw [if_neg (show ¬ nI (L a) ≤ 0 from nI_nle (by omega) (by omega))]
        have z : zlay 1048576 L a = L a := by unfold zlay; rw [if_neg d, if_neg c]
        rw [z] at s
        exact congrArg (fun z => some (Sum.inl (nI (a + 1), u_mfa μ z))) s
  · show b_M_reach_2 (nI 100) _ = _
    unfold b_M_reach_2
    rw [if_pos (show (100 : Int32) ≤ nI 100 from nI_le (Nat.le_refl _) (by decide))]
/-- the two matrices beside each other -/
def RelF (B : Nat) (S F : Nat → Nat) : Prop := ∀ p, p < 100 → (F p ≤ B ∧ S p = F p) ∨ (F p = 1048576 ∧ S p = 1000000)
theorem relF_0 {L : Nat → Nat} (hL : ∀ p, p < 100 → L p < 100) : RelF 99 (zlay 1000000 L) (zlay 1048576 L) := by
  intro p hp
  have := hL p hp
  unfold zlay
  by_cases d : p % 11 = 0
  · rw [if_pos d, if_pos d]; exact Or.inl ⟨by omega, rfl⟩
  · rw [if_neg d, if_neg d]
    by_cases c : L p = 0
    · rw [if_pos c, if_pos c]; exact Or.inr ⟨rfl, rfl⟩
    · rw [if_neg c, if_neg c]; exact Or.inl ⟨by omega, rfl⟩
theorem relF_s {B k : Nat} {S F : Nat → Nat} (hB : 2 * B < 1000000) (hk : k < 10) (h : RelF B S F) : RelF (2 * B) (zfw S k) (zfw F k) := by
  intro p hp
  have a := h p hp
  have b := h (10 * (p / 10) + k) (by omega)
  have c := h (10 * k + p % 10) (by omega)
  unfold zfw
  omega
theorem relF_N {S F : Nat → Nat} (h : RelF 99 S F) : ∀ k, k ≤ 10 → RelF (99 * 2 ^ k) (fwN S k) (fwN F k)
  | 0, _ => h
  | k + 1, hk => by
    have ih := relF_N h k (by omega)
    have : 2 ^ k ≤ 2 ^ 9 := Nat.pow_le_pow_right (by decide) (by omega)
    have e : 99 * 2 ^ (k + 1) = 2 * (99 * 2 ^ k) := by rw [Nat.pow_succ]; omega
    rw [e]
    exact relF_s (by omega) (by omega) ih
theorem links_of {σ : SP} {μ : SM} {e : Nat} (R : RelS σ μ e) : ∃ L : Nat → Nat, (∀ p, p < 100 → g_lk σ p = nI (L p) ∧ L p < 100) ∧ ∀ p, p < 100 → g_mlk μ (100 * e + p) = nI (L p) ∧ L p < 100 := by
  have a : ∀ p, p < 100 → g_lk σ p = nI (g_lk σ p).toNatClampNeg ∧ (g_lk σ p).toNatClampNeg < 100 := by
    intro p hp
    obtain ⟨-, s, h1, h2⟩ := R.2.2.2 p hp
    rw [h2, nI_clamp (by omega)]
    exact ⟨rfl, h1⟩
  refine ⟨fun p => (g_lk σ p).toNatClampNeg, a, fun p hp => ?_⟩
  obtain ⟨b, -⟩ := R.2.2.2 p hp
  rw [← b]
  exact a p hp
theorem way_ok {σ : SP} {μ : SM} {e : Nat} (I : Inv σ μ e) (a b : Int32) : Agree1 IAE (m_P_way a b σ) (m_M_way a b μ) := by
  have I0 := I
  obtain ⟨h60, hec, hev, hrc, hat, hrep⟩ := I0
  unfold m_P_way m_M_way k_M_way_19 k_M_way_20
  rw [e_isPlace, e_isPlace, e_MisPlace, e_MisPlace, mb1_b2i, mb1_b2i, mb1_b2i, mb1_b2i]
  simp only [mlet_e]
  have bad : Agree1 IAE (some (0, IAE, σ)) (if g_mcode (u_mcode μ 1) ≤ 0 then (mb1 (m_M_reach (u_mcode μ 1)) fun σ4 => (mrd 100 (g_mfa σ4) (((10 : Int32) * a) + b) fun r6 => (if (1048576 : Int32) ≤ r6 then some ((-1 : Int32), σ4) else (mrd 100 (g_mfa σ4) (((10 : Int32) * a) + b) fun r7 => some (r7, σ4))))) else some ((0 : Int32), u_mcode μ 1)) := by
    rw [if_neg (show ¬ g_mcode (u_mcode μ 1) ≤ 0 by show ¬ (1 : Int32) ≤ 0; decide)]
    exact ⟨_, _, _, _, _, e, rfl, rfl, I.code 1, Or.inr ⟨rfl, rfl⟩⟩
  by_cases ha : Wi a 0 9
  · rw [if_pos ha, if_pos ha]
    by_cases hb : Wi b 0 9
    · rw [if_pos hb, if_pos hb, if_pos (show g_mcode (u_mcode μ 0) ≤ 0 from Int32.le_refl _)]
      obtain ⟨i, hi, rfl⟩ := wi9 ha
      obtain ⟨j, hj, rfl⟩ := wi9 hb
      obtain ⟨σ1, p1, R, K⟩ := I.replay (Nat.le_refl e)
      obtain ⟨L, l1, l2⟩ := links_of R
      have rf := relF_N (relF_0 (fun p hp => (l1 p hp).2)) 10 (Nat.le_refl _) (10 * i + j) (by omega)
      rw [hec, p1, mb1_e, measure_e l1, mb1_e, reach_e (μ := u_mcode μ 0) h60 hev l2, mb1_e, ix10, mrd_nI (show 10 * i + j < 100 by omega) (by decide), mrd_nI (show 10 * i + j < 100 by omega) (by decide)]
      unfold m_Y_between
      rw [pair_e, mb1_e, mrd_nI (show 10 * i + j < 100 by omega) (by decide), mb1_e]
      have e1 : g_se (u_se σ1 (zarr (fwN (zlay 1000000 L) 10) (g_se σ1))) (10 * i + j) = nI (fwN (zlay 1000000 L) 10 (10 * i + j)) := arr_at (by omega)
      have e2 : g_mfa (u_mfa (u_mcode μ 0) (zarr (fwN (zlay 1048576 L) 10) (g_mfa (u_mcode μ 0)))) (10 * i + j) = nI (fwN (zlay 1048576 L) 10 (10 * i + j)) := arr_at (by omega)
      rw [e1, e2]
      have K1 : KeepP σ (u_se σ1 (zarr (fwN (zlay 1000000 L) 10) (g_se σ1))) := K
      have J := Inv.keepP K1 (I.code 0)
      have J2 : Inv (u_se σ1 (zarr (fwN (zlay 1000000 L) 10) (g_se σ1))) (u_mfa (u_mcode μ 0) (zarr (fwN (zlay 1048576 L) 10) (g_mfa (u_mcode μ 0)))) e := J
      unfold m_P_orNone
      rcases rf with ⟨r1, r2⟩ | ⟨r1, r2⟩
      · rw [r2, if_pos (show nI (fwN (zlay 1048576 L) 10 (10 * i + j)) < 1000000 from nI_lt (b := 1000000) (by omega) (by decide)), if_neg (show ¬ (1048576 : Int32) ≤ nI (fwN (zlay 1048576 L) 10 (10 * i + j)) from nI_ge (b := 1048576) (by omega) (by decide)), mb1_e]
        exact ⟨_, _, _, _, _, e, rfl, rfl, J2, Or.inl ⟨rfl, rfl, rfl⟩⟩
      · rw [r1, r2, if_neg (show ¬ nI 1000000 < 1000000 by decide), if_pos (show (1048576 : Int32) ≤ nI 1048576 by decide), mb1_e]
        exact ⟨_, _, _, _, _, e, rfl, rfl, J2, Or.inl ⟨rfl, rfl, rfl⟩⟩
    · rw [if_neg hb, if_neg hb]; exact bad
  · rw [if_neg ha, if_neg ha]; exact bad
