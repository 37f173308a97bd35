/-! ways: both sides zlay the links and shorten in rounds -/
def zarr (X : Nat → Nat) (h : Nat → Int32) : Nat → Int32 := fun p => if p < 100 then nI (X p) else h p
def zfw (X : Nat → Nat) (k : Nat) : Nat → Nat := fun p => min (X p) (X (10 * (p / 10) + k) + X (10 * k + p % 10))
def zprt (X : Nat → Nat) (k n : Nat) : Nat → Nat := fun p => if p < n then zfw X k p else X p
def fwN (X : Nat → Nat) : Nat → Nat → Nat
  | 0 => X
  | k + 1 => zfw (fwN X k) k
def zlay (far : Nat) (L : Nat → Nat) : Nat → Nat := fun p => if p % 11 = 0 then 0 else if L p = 0 then far else L p
theorem arr_at {X : Nat → Nat} {h : Nat → Int32} {p : Nat} (hp : p < 100) : zarr X h p = nI (X p) := if_pos hp
theorem prt_0 (X : Nat → Nat) (k : Nat) : zprt X k 0 = X := by funext p; exact if_neg (Nat.not_lt_zero p)
theorem prt_100 (X : Nat → Nat) (k : Nat) (h : Nat → Int32) : zarr (zprt X k 100) h = zarr (zfw X k) h := by
  funext p
  unfold zarr zprt
  by_cases hp : p < 100
  · rw [if_pos hp, if_pos hp, if_pos hp]
  · rw [if_neg hp, if_neg hp]
theorem fw_col {X : Nat → Nat} {k i : Nat} (hk : k < 10) (hX : X (11 * k) = 0) : zfw X k (10 * i + k) = X (10 * i + k) := by
  unfold zfw
  rw [show (10 * i + k) / 10 = i by omega, show (10 * i + k) % 10 = k by omega, show 10 * k + k = 11 * k by omega, hX]
  omega
theorem fw_row {X : Nat → Nat} {k j : Nat} (hj : j < 10) (hX : X (11 * k) = 0) : zfw X k (10 * k + j) = X (10 * k + j) := by
  unfold zfw
  rw [show (10 * k + j) / 10 = k by omega, show (10 * k + j) % 10 = j by omega, show 10 * k + k = 11 * k by omega, hX]
  omega
theorem prt_col {X : Nat → Nat} {k i n : Nat} (hk : k < 10) (hX : X (11 * k) = 0) : zprt X k n (10 * i + k) = X (10 * i + k) := by
  unfold zprt; rw [fw_col hk hX]; split <;> rfl
theorem prt_row {X : Nat → Nat} {k j n : Nat} (hj : j < 10) (hX : X (11 * k) = 0) : zprt X k n (10 * k + j) = X (10 * k + j) := by
  unfold zprt; rw [fw_row hj hX]; split <;> rfl
theorem prt_s {X : Nat → Nat} {h : Nat → Int32} {k n : Nat} (hn : n < 100) : upd (zarr (zprt X k n) h) n (nI (zfw X k n)) = zarr (zprt X k (n + 1)) h := by
  funext p
  unfold upd zarr zprt
  by_cases e : p = n
  · subst e; rw [if_pos rfl, if_pos hn, if_pos (by omega)]
  · rw [if_neg e]
    by_cases hp : p < 100
    · rw [if_pos hp, if_pos hp]
      by_cases h2 : p < n
      · rw [if_pos h2, if_pos (by omega)]
      · rw [if_neg h2, if_neg (by omega)]
    · rw [if_neg hp, if_neg hp]
theorem prt_same {X : Nat → Nat} {h : Nat → Int32} {k n : Nat} (e : zfw X k n = X n) : zarr (zprt X k n) h = zarr (zprt X k (n + 1)) h := by
  funext p
  unfold zarr zprt
  by_cases hp : p < 100
  · rw [if_pos hp, if_pos hp]
    by_cases h1 : p < n
    · rw [if_pos h1, if_pos (by omega)]
    · rw [if_neg h1]
      by_cases h2 : p = n
      · subst h2; rw [if_pos (by omega), e]
      · rw [if_neg (by omega)]
  · rw [if_neg hp, if_neg hp]
theorem fw_at {X : Nat → Nat} {k i j : Nat} (hj : j < 10) : zfw X k (10 * i + j) = min (X (10 * i + j)) (X (10 * i + k) + X (10 * k + j)) := by
  unfold zfw
  rw [show (10 * i + j) / 10 = i by omega, show (10 * i + j) % 10 = j by omega]
theorem shorten_e {X : Nat → Nat} {h : Nat → Int32} {k i : Nat} (hk : k < 10) (hi : i < 10) (hX : X (11 * k) = 0) (hB : ∀ p, p < 100 → X p ≤ 1000000) (σ : SP) : m_Y_shortenVia (nI k) (nI i) (u_se σ (zarr (zprt X k (10 * i)) h)) = some (u_se σ (zarr (zprt X k (10 * (i + 1))) h)) := by
  have b1 := hB (10 * i + k) (by omega)
  unfold m_Y_shortenVia
  rw [pair_e, mb1_e, mrd_nI (show 10 * i + k < 100 by omega) (by decide)]
  have rd : g_se (u_se σ (zarr (zprt X k (10 * i)) h)) (10 * i + k) = nI (X (10 * i + k)) := by
    show zarr (zprt X k (10 * i)) h (10 * i + k) = _
    rw [arr_at (by omega), prt_col hk hX]
  rw [rd]
  by_cases hf : X (10 * i + k) < 1000000
  · rw [if_pos (show nI (X (10 * i + k)) < 1000000 from nI_lt (b := 1000000) hf (by decide))]
    have l := lp_for (body := fun s : Int32 × SP => b_Y_shortenVia_21 (nI k) (nI i) (nI (X (10 * i + k))) s.1 s.2) 10 (fun j => (nI j, u_se σ (zarr (zprt X k (10 * i + j)) h))) (nI 10, u_se σ (zarr (zprt X k (10 * i + 10)) h)) ?_ ?_ FU (FU_lt (by decide))
    · have l0 : lp (fun s : Int32 × SP => b_Y_shortenVia_21 (nI k) (nI i) (nI (X (10 * i + k))) s.1 s.2) FU ((0 : Int32), u_se σ (zarr (zprt X k (10 * i)) h)) = some (nI 10, u_se σ (zarr (zprt X k (10 * i + 10)) h)) := l
      rw [l0, mb2_e, show 10 * (i + 1) = 10 * i + 10 by omega]
    · intro j hj
      have b2 := hB (10 * k + j) (by omega)
      have b3 := hB (10 * i + j) (by omega)
      show b_Y_shortenVia_21 (nI k) (nI i) (nI (X (10 * i + k))) (nI j) (u_se σ (zarr (zprt X k (10 * i + j)) h)) = _
      unfold b_Y_shortenVia_21
      rw [if_neg (show ¬ (10 : Int32) ≤ nI j from nI_ge (b := 10) hj (by decide)), pair_e, mb1_e, mrd_nI (show 10 * k + j < 100 by omega) (by decide), pair_e, mb1_e, mb1_e, mrd_nI (show 10 * i + j < 100 by omega) (by decide), mlet_e, mck_nI (show 10 * i + j < 100 by omega) (by decide), mlet_e, nI_clamp (by omega), nI_1]
      show some (Sum.inl (nI (j + 1), u_se σ (upd (zarr (zprt X k (10 * i + j)) h) (10 * i + j) (if nI (X (10 * i + k)) + zarr (zprt X k (10 * i + j)) h (10 * k + j) < zarr (zprt X k (10 * i + j)) h (10 * i + j) then nI (X (10 * i + k)) + zarr (zprt X k (10 * i + j)) h (10 * k + j) else zarr (zprt X k (10 * i + j)) h (10 * i + j))))) = _
      rw [arr_at (by omega), arr_at (by omega), prt_row hj hX, nI_add, show zprt X k (10 * i + j) (10 * i + j) = X (10 * i + j) from if_neg (by omega)]
      have e : (if nI (X (10 * i + k) + X (10 * k + j)) < nI (X (10 * i + j)) then nI (X (10 * i + k) + X (10 * k + j)) else nI (X (10 * i + j))) = nI (zfw X k (10 * i + j)) := by
        rw [fw_at hj]
        by_cases c : X (10 * i + k) + X (10 * k + j) < X (10 * i + j)
        · rw [if_pos (nI_lt c (by omega))]; exact congrArg nI (by omega)
        · rw [if_neg (nI_nlt (by omega) (by omega))]; exact congrArg nI (by omega)
      rw [e, prt_s (by omega)]
      rfl
    · show b_Y_shortenVia_21 (nI k) (nI i) (nI (X (10 * i + k))) (nI 10) (u_se σ (zarr (zprt X k (10 * i + 10)) h)) = _
      unfold b_Y_shortenVia_21
      rw [if_pos (show (10 : Int32) ≤ nI 10 from nI_le (Nat.le_refl _) (by decide))]
  · rw [if_neg (show ¬ nI (X (10 * i + k)) < 1000000 from nI_nlt (b := 1000000) (by omega) (by omega))]
    have st : ∀ j, j ≤ 10 → zarr (zprt X k (10 * i)) h = zarr (zprt X k (10 * i + j)) h := by
      intro j
      induction j with
      | zero => intro _; rfl
      | succ j ih =>
        intro hj
        rw [ih (by omega)]
        refine prt_same ?_
        rw [fw_at (by omega)]
        have b3 := hB (10 * i + j) (by omega)
        omega
    rw [st 10 (by omega), show 10 * (i + 1) = 10 * i + 10 by omega]
theorem fw_le (X : Nat → Nat) (k p : Nat) : zfw X k p ≤ X p := by unfold zfw; omega
theorem fwN_le (X : Nat → Nat) : ∀ k p, fwN X k p ≤ X p
  | 0, _ => Nat.le_refl _
  | k + 1, p => Nat.le_trans (fw_le _ k p) (fwN_le X k p)
theorem fwN_diag {X : Nat → Nat} (hX : ∀ i, i < 10 → X (11 * i) = 0) (k : Nat) {i : Nat} (hi : i < 10) : fwN X k (11 * i) = 0 := by
  have := fwN_le X k (11 * i)
  rw [hX i hi] at this
  omega
theorem rounds_e {X : Nat → Nat} {h : Nat → Int32} (hX : ∀ i, i < 10 → X (11 * i) = 0) (hB : ∀ p, p < 100 → X p ≤ 1000000) (σ : SP) : lp (fun s : Int32 × SP => b_Y_measure_7 s.1 s.2) FU ((0 : Int32), u_se σ (zarr X h)) = some (nI 10, u_se σ (zarr (fwN X 10) h)) := by
  refine lp_for (body := fun s : Int32 × SP => b_Y_measure_7 s.1 s.2) 10 (fun k => (nI k, u_se σ (zarr (fwN X k) h))) (nI 10, u_se σ (zarr (fwN X 10) h)) ?_ ?_ FU (FU_lt (by decide))
  · intro k hk
    show b_Y_measure_7 (nI k) (u_se σ (zarr (fwN X k) h)) = _
    unfold b_Y_measure_7
    rw [if_neg (show ¬ (10 : Int32) ≤ nI k from nI_ge (b := 10) hk (by decide))]
    have l := lp_for (body := fun s : Int32 × SP => b_Y_measure_15 (nI k) s.1 s.2) 10 (fun i => (nI i, u_se σ (zarr (zprt (fwN X k) k (10 * i)) h))) (nI 10, u_se σ (zarr (zprt (fwN X k) k 100) h)) ?_ ?_ FU (FU_lt (by decide))
    · have l0 : lp (fun s : Int32 × SP => b_Y_measure_15 (nI k) s.1 s.2) FU ((0 : Int32), u_se σ (zarr (fwN X k) h)) = some (nI 10, u_se σ (zarr (zprt (fwN X k) k 100) h)) := by
        have z := l
        rw [show 10 * 0 = 0 from rfl, prt_0] at z
        exact z
      rw [l0, mb2_e, prt_100, nI_1]
      rfl
    · intro i hi
      show b_Y_measure_15 (nI k) (nI i) (u_se σ (zarr (zprt (fwN X k) k (10 * i)) h)) = _
      unfold b_Y_measure_15
      rw [if_neg (show ¬ (10 : Int32) ≤ nI i from nI_ge (b := 10) hi (by decide)), shorten_e hk hi (fwN_diag hX k hk) (fun p hp => Nat.le_trans (fwN_le X k p) (hB p hp)), mb1_e, nI_1]
    · show b_Y_measure_15 (nI k) (nI 10) (u_se σ (zarr (zprt (fwN X k) k 100) h)) = _
      unfold b_Y_measure_15
      rw [if_pos (show (10 : Int32) ≤ nI 10 from nI_le (Nat.le_refl _) (by decide))]
  · show b_Y_measure_7 (nI 10) (u_se σ (zarr (fwN X 10) h)) = _
    unfold b_Y_measure_7
    rw [if_pos (show (10 : Int32) ≤ nI 10 from nI_le (Nat.le_refl _) (by decide))]
theorem Mrounds_e {X : Nat → Nat} {h : Nat → Int32} (hX : ∀ i, i < 10 → X (11 * i) = 0) (hB : ∀ p, p < 100 → X p ≤ 1048576) (μ : SM) : lp (fun s : Int32 × SM => b_M_reach_69 s.1 s.2) FU ((0 : Int32), u_mfa μ (zarr X h)) = some (nI 10, u_mfa μ (zarr (fwN X 10) h)) := by
  refine lp_for (body := fun s : Int32 × SM => b_M_reach_69 s.1 s.2) 10 (fun k => (nI k, u_mfa μ (zarr (fwN X k) h))) (nI 10, u_mfa μ (zarr (fwN X 10) h)) ?_ ?_ FU (FU_lt (by decide))
  · intro k hk
    show b_M_reach_69 (nI k) (u_mfa μ (zarr (fwN X k) h)) = _
    unfold b_M_reach_69
    rw [if_neg (show ¬ (10 : Int32) ≤ nI k from nI_ge (b := 10) hk (by decide))]
    have l := lp_for (body := fun s : Int32 × SM => b_M_reach_77 (nI k) s.1 s.2) 10 (fun i => (nI i, u_mfa μ (zarr (zprt (fwN X k) k (10 * i)) h))) (nI 10, u_mfa μ (zarr (zprt (fwN X k) k 100) h)) ?_ ?_ FU (FU_lt (by decide))
    · have l0 : lp (fun s : Int32 × SM => b_M_reach_77 (nI k) s.1 s.2) FU ((0 : Int32), u_mfa μ (zarr (fwN X k) h)) = some (nI 10, u_mfa μ (zarr (zprt (fwN X k) k 100) h)) := by
        have z := l
        rw [show 10 * 0 = 0 from rfl, prt_0] at z
        exact z
      rw [l0, mb2_e, prt_100, nI_1]
      rfl
    · intro i hi
      show b_M_reach_77 (nI k) (nI i) (u_mfa μ (zarr (zprt (fwN X k) k (10 * i)) h)) = _
      unfold b_M_reach_77
      rw [if_neg (show ¬ (10 : Int32) ≤ nI i from nI_ge (b := 10) hi (by decide))]
      have hB' : ∀ p, p < 100 → fwN X k p ≤ 1048576 := fun p hp => Nat.le_trans (fwN_le X k p) (hB p hp)
      have zhd := fwN_diag hX k hk
      generalize fwN X k = Y at hB' zhd ⊢
      have l := lp_for (body := fun s : Int32 × SM => b_M_reach_85 (nI k) (nI i) s.1 s.2) 10 (fun j => (nI j, u_mfa μ (zarr (zprt Y k (10 * i + j)) h))) (nI 10, u_mfa μ (zarr (zprt Y k (10 * i + 10)) h)) ?_ ?_ FU (FU_lt (by decide))
      · have l0 : lp (fun s : Int32 × SM => b_M_reach_85 (nI k) (nI i) s.1 s.2) FU ((0 : Int32), u_mfa μ (zarr (zprt Y k (10 * i)) h)) = some (nI 10, u_mfa μ (zarr (zprt Y k (10 * i + 10)) h)) := l
        rw [l0, mb2_e, nI_1]
        rfl
      · intro j hj
        have b1 := hB' (10 * i + k) (by omega)
        have b2 := hB' (10 * k + j) (by omega)
        have b3 := hB' (10 * i + j) (by omega)
        show b_M_reach_85 (nI k) (nI i) (nI j) (u_mfa μ (zarr (zprt Y k (10 * i + j)) h)) = _
        unfold b_M_reach_85
        rw [if_neg (show ¬ (10 : Int32) ≤ nI j from nI_ge (b := 10) hj (by decide)), ix10, ix10, ix10, mrd_nI (show 10 * i + k < 100 by omega) (by decide), mrd_nI (show 10 * k + j < 100 by omega) (by decide), mrd_nI (show 10 * i + j < 100 by omega) (by decide), mck_nI (show 10 * i + j < 100 by omega) (by decide), mlet_e, nI_clamp (by omega), nI_1]
        show (if zarr (zprt Y k (10 * i + j)) h (10 * i + j) ≤ zarr (zprt Y k (10 * i + j)) h (10 * i + k) + zarr (zprt Y k (10 * i + j)) h (10 * k + j) then _ else some (Sum.inl (nI (j + 1), u_mfa μ (upd (zarr (zprt Y k (10 * i + j)) h) (10 * i + j) (zarr (zprt Y k (10 * i + j)) h (10 * i + k) + zarr (zprt Y k (10 * i + j)) h (10 * k + j)))))) = _
        rw [arr_at (show 10 * i + j < 100 by omega), arr_at (show 10 * i + k < 100 by omega), arr_at (show 10 * k + j < 100 by omega), prt_row hj zhd, prt_col hk zhd, nI_add, show zprt Y k (10 * i + j) (10 * i + j) = Y (10 * i + j) from if_neg (by omega)]
        have f := fw_at (X := Y) (k := k) (i := i) hj
        by_cases c : Y (10 * i + j) ≤ Y (10 * i + k) + Y (10 * k + j)
        · rw [if_pos (nI_le c (by omega)), prt_same (show zfw Y k (10 * i + j) = Y (10 * i + j) by omega)]
          rfl
        · rw [if_neg (nI_ge (by omega) (by omega)), show Y (10 * i + k) + Y (10 * k + j) = zfw Y k (10 * i + j) by omega, prt_s (by omega)]
          rfl
      · show b_M_reach_85 (nI k) (nI i) (nI 10) (u_mfa μ (zarr (zprt Y k (10 * i + 10)) h)) = _
        unfold b_M_reach_85
        rw [if_pos (show (10 : Int32) ≤ nI 10 from nI_le (Nat.le_refl _) (by decide))]
    · show b_M_reach_77 (nI k) (nI 10) (u_mfa μ (zarr (zprt (fwN X k) k 100) h)) = _
      unfold b_M_reach_77
      rw [if_pos (show (10 : Int32) ≤ nI 10 from nI_le (Nat.le_refl _) (by decide))]
  · show b_M_reach_69 (nI 10) (u_mfa μ (zarr (fwN X 10) h)) = _
    unfold b_M_reach_69
    rw [if_pos (show (10 : Int32) ≤ nI 10 from nI_le (Nat.le_refl _) (by decide))]
