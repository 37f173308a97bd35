/-! words of the models, evaluated -/
theorem mrd_nI {α β : Type} {n j : Nat} {f : Nat → β} {B : β → Option α} (h : j < n) (hn : n < 2 ^ 31) : mrd n f (nI j) B = B (f j) := by
  unfold mrd
  rw [nI_toInt (by omega), nI_clamp (by omega), if_pos]
  constructor <;> omega
theorem mck_nI {α : Type} {n j : Nat} {M : Option α} (h : j < n) (hn : n < 2 ^ 31) : mck n (nI j) M = M := by
  unfold mck
  rw [nI_toInt (by omega), if_pos]
  constructor <;> omega
theorem mlet_e {α β : Type} (t : α) (B : α → β) : mlet t B = B t := rfl
theorem mb1_e {α β : Type} (a : α) (B : α → Option β) : mb1 (some a) B = B a := rfl
theorem mb2_e {α β γ : Type} (a : α) (b : β) (B : α → β → Option γ) : mb2 (some (a, b)) B = B a b := rfl
theorem mb3_e {α β γ δ : Type} (a : α) (b : β) (c : γ) (B : α → β → γ → Option δ) : mb3 (some (a, b, c)) B = B a b c := rfl
theorem mb4_e {α β γ δ ε : Type} (a : α) (b : β) (c : γ) (d : δ) (B : α → β → γ → δ → Option ε) : mb4 (some (a, b, c, d)) B = B a b c d := rfl
theorem mzr_0 {α : Type} (M : Option α) : mzr 0 M = M := if_pos (Or.inl rfl)
theorem mzr_1 {α : Type} (M : Option α) : mzr 1 M = M := if_pos (Or.inr rfl)
/-- a loop by its states -/
theorem lp_for {S E : Type} {body : S → Option (S ⊕ E)} (N : Nat) (st : Nat → S) (e : E) (hs : ∀ k, k < N → body (st k) = some (.inl (st (k + 1)))) (he : body (st N) = some (.inr e)) : ∀ n, N < n → lp body n (st 0) = some e := by
  have main : ∀ d k n, k + d = N → d < n → lp body n (st k) = some e := by
    intro d
    induction d with
    | zero =>
      intro k n hk hn
      obtain ⟨n, rfl⟩ : ∃ z, n = z + 1 := ⟨n - 1, by omega⟩
      have hk : k = N := by omega
      subst hk
      unfold lp
      rw [he]
    | succ d ih =>
      intro k n hk hn
      obtain ⟨n, rfl⟩ : ∃ z, n = z + 1 := ⟨n - 1, by omega⟩
      unfold lp
      rw [hs k (by omega)]
      exact ih (k + 1) n (by omega) (by omega)
  intro n hn
  exact main N 0 n (by omega) hn
theorem FU_lt {N : Nat} (h : N < 100000) : N < FU := h
/-- small numbers -/
theorem nI_c (n : Nat) : (OfNat.ofNat n : Int32) = nI n := rfl
theorem nI_inj {a b : Nat} (ha : a < 2 ^ 31) (hb : b < 2 ^ 31) : nI a = nI b ↔ a = b := nI_eq ha hb
theorem b2 {P : Prop} [Decidable P] {α : Type} (a b : α) : (if P then a else b) = if P then a else b := rfl
theorem upd_same (f : Nat → Int32) (k : Nat) (x : Int32) : upd f k x k = x := by simp [upd]
theorem upd_ne (f : Nat → Int32) {k j : Nat} (x : Int32) (h : j ≠ k) : upd f k x j = f j := by simp [upd, h]
theorem pure_init : m_M_init M00 = some M1 := by
  unfold m_M_init
  have h := lp_for (body := fun s : Int32 × SM => b_M_init_133 s.1 s.2) 20 (fun k => (nI k, ((0, 0, 0, fun _ => 0, fun _ => 0, fun _ => 0, fun _ => 0, fil k (-1) (fun _ => 0), fun _ => 0, fil k (-1) (fun _ => 0), fun _ => 0, fun _ => 0, fun _ => 0, fun _ => 0, fun _ => 0, fun _ => 0, fun _ => 0, fun _ => 0) : SM))) (nI 20, M1) ?_ ?_ FU (FU_lt (by decide))
  · have e : ((0 : Int32), M00) = (nI 0, ((0, 0, 0, fun _ => 0, fun _ => 0, fun _ => 0, fun _ => 0, fil 0 (-1) (fun _ => 0), fun _ => 0, fil 0 (-1) (fun _ => 0), fun _ => 0, fun _ => 0, fun _ => 0, fun _ => 0, fun _ => 0, fun _ => 0, fun _ => 0, fun _ => 0) : SM)) := by
      rw [fil_0]; rfl
    rw [e, h]
    rfl
  · intro k hk
    show b_M_init_133 _ _ = _
    unfold b_M_init_133
    rw [if_neg (show ¬ (20 : Int32) ≤ nI k from nI_ge (b := 20) hk (by decide)), mck_nI (by omega) (by decide), mlet_e, mck_nI (by omega) (by decide), mlet_e]
    have e1 := fil_s (k := k) (by omega) (-1) (fun _ => 0)
    show some (Sum.inl _) = some (Sum.inl _)
    rw [← e1, ← nI_1 k]
  · show b_M_init_133 _ _ = _
    unfold b_M_init_133
    rw [if_pos (show (20 : Int32) ≤ nI 20 from nI_le (Nat.le_refl _) (by decide))]
    rfl
