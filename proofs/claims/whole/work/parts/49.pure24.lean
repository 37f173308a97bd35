/-! walks: the reference's table over sets and last stops -/
def OKv (F T : Nat → Nat) (a s i : Nat) (x : Int32) : Prop := ∃ w, x = nI w ∧ w ≤ 1048576 ∧ (∀ l, zEnum (i :: l) s → w ≤ zrc F a ((i :: l).map T)) ∧ (w = 1048576 ∨ ∃ l, zEnum (i :: l) s ∧ w = zrc F a ((i :: l).map T))
theorem bit_tab : ∀ s, s < 16 → ∀ i, i < 4 → ((nI s >>> (nI i &&& 31)) &&& 1) = (if s.testBit i = true then 1 else 0) := by decide +kernel
theorem inner_e {μ : SM} {co : Nat → Int32} {F T : Nat → Nat} {a n s i : Nat} (c4 : Int32) (hn : n ≤ 4) (hi : i < n) (hs2 : s < 2 ^ n)
    (hT : ∀ j, j < n → g_mst μ j = nI (T j) ∧ T j < 10) (hF : ∀ p, p < 100 → g_mfa μ p = nI (F p) ∧ F p ≤ 1048576)
    (hco : ∀ j, j < n → j ≠ i → s.testBit j = true → s.testBit i = true → OKv F T a (zclr s i) j (co (4 * zclr s i + j)))
    {w0 : Nat} (h0 : w0 ≤ 1048576) (h1 : zEnum [i] s → w0 ≤ zrc F a ([i].map T)) (h2 : w0 = 1048576 ∨ ∃ l, zEnum (i :: l) s ∧ w0 = zrc F a ((i :: l).map T)) :
    ∃ w x, lp (fun t : Int32 × Int32 => b_M_walk_121 (nI a) (nI n) c4 (nI s) (nI i) (u_mco μ co) t.1 t.2) FU (nI w0, (0 : Int32)) = some (nI w, x) ∧ OKv F T a s i (nI w) := by
  have hs : s < 16 := Nat.lt_of_lt_of_le hs2 (Nat.pow_le_pow_right (n := 2) (by decide) hn)
  have LL := lp_inv2 (body := fun t : Int32 × Int32 => b_M_walk_121 (nI a) (nI n) c4 (nI s) (nI i) (u_mco μ co) t.1 t.2) n (fun k t => ∃ w, t = (nI w, nI k) ∧ w ≤ 1048576 ∧ (∀ l, zEnum (i :: l) s → (∀ j l', l = j :: l' → j < k) → w ≤ zrc F a ((i :: l).map T)) ∧ (w = 1048576 ∨ ∃ l, zEnum (i :: l) s ∧ w = zrc F a ((i :: l).map T))) (fun t => ∃ w x, t = (nI w, x) ∧ OKv F T a s i (nI w)) ?_ ?_ (s := (nI w0, (0 : Int32))) ?_ (n := FU) (FU_lt (by omega))
  · obtain ⟨t, p1, w, x, rfl, p2⟩ := LL
    exact ⟨w, x, p1, p2⟩
  · rintro j t hj ⟨w, rfl, q1, q2, q3⟩
    show (∃ t', b_M_walk_121 (nI a) (nI n) c4 (nI s) (nI i) (u_mco μ co) (nI w) (nI j) = _ ∧ _) ∨ ∃ e, b_M_walk_121 (nI a) (nI n) c4 (nI s) (nI i) (u_mco μ co) (nI w) (nI j) = _ ∧ _
    unfold b_M_walk_121
    rw [if_neg (show ¬ nI n ≤ nI j from nI_ge hj (by omega)), bit_tab s hs i (by omega), bit_tab s hs j (by omega), nI_1]
    by_cases hb : s.testBit i = true
    · rw [if_pos hb, if_pos (show (1 : Int32) = 1 from rfl)]
      by_cases hji : j = i
      · rw [if_pos (show nI j = nI i by rw [hji])]
        refine Or.inl ⟨_, rfl, w, rfl, q1, fun l hE hl => q2 l hE (fun j' l' e => ?_), q3⟩
        have := hl j' l' e
        have hne : j' ≠ i := by
          intro z
          subst e
          exact (List.nodup_cons.mp hE.1).1 (by rw [z]; exact List.mem_cons_self)
        omega
      · rw [if_neg (show ¬ nI j = nI i by rw [nI_eq (by omega) (by omega)]; exact hji)]
        by_cases hbj : s.testBit j = true
        · obtain ⟨w', r0, r1, r2, r3⟩ := hco j hj hji hbj hb
          have hcl : zclr s i ≤ s := Nat.and_le_left
          obtain ⟨t1, t2⟩ := hT j hj
          obtain ⟨t3, t4⟩ := hT i hi
          obtain ⟨f1, f2⟩ := hF (10 * T j + T i) (by omega)
          have rd1 : g_mco (u_mco μ co) (4 * zclr s i + j) = nI w' := r0
          have rd2 : g_mst (u_mco μ co) j = nI (T j) := t1
          have rd3 : g_mst (u_mco μ co) i = nI (T i) := t3
          have rd4 : g_mfa (u_mco μ co) (10 * T j + T i) = nI (F (10 * T j + T i)) := f1
          rw [if_pos hbj, if_neg (show ¬ (1 : Int32) = 0 by decide), clr_e s (by omega), ix4, mrd_nI (show 4 * zclr s i + j < 64 by omega) (by decide), mrd_nI (show j < 4 by omega) (by decide), mrd_nI (show i < 4 by omega) (by decide), rd1, rd2, rd3, ix10, mrd_nI (show 10 * T j + T i < 100 by omega) (by decide), rd4, nI_add]
          have low : ∀ l', zEnum (i :: j :: l') s → w' + F (10 * T j + T i) ≤ zrc F a ((i :: j :: l').map T) := by
            intro l' hE
            have := r2 l' (hE.tail (by omega) (by omega))
            show _ ≤ zrc F a ((j :: l').map T) + F (10 * T j + T i)
            omega
          by_cases c : w ≤ w' + F (10 * T j + T i)
          · rw [if_pos (nI_le c (by omega))]
            refine Or.inl ⟨_, rfl, w, rfl, q1, fun l hE hl => ?_, q3⟩
            by_cases hh : ∃ l', l = j :: l'
            · obtain ⟨l', rfl⟩ := hh
              have := low l' hE
              omega
            · refine q2 l hE (fun j' l' e => ?_)
              have := hl j' l' e
              have : j' ≠ j := fun z => hh ⟨l', by rw [e, z]⟩
              omega
          · rw [if_neg (nI_ge (by omega) (by omega))]
            refine Or.inl ⟨_, rfl, w' + F (10 * T j + T i), rfl, by omega, fun l hE hl => ?_, Or.inr ?_⟩
            · by_cases hh : ∃ l', l = j :: l'
              · obtain ⟨l', rfl⟩ := hh
                exact low l' hE
              · have := q2 l hE (fun j' l' e => by
                  have := hl j' l' e
                  have : j' ≠ j := fun z => hh ⟨l', by rw [e, z]⟩
                  omega)
                omega
            · rcases r3 with r3 | ⟨l', r3, r4⟩
              · omega
              · exact ⟨j :: l', r3.cons (by omega) (by omega) hb, by rw [r4]; rfl⟩
        · rw [if_neg hbj, if_pos rfl]
          refine Or.inl ⟨_, rfl, w, rfl, q1, fun l hE hl => q2 l hE (fun j' l' e => ?_), q3⟩
          have := hl j' l' e
          have hne : j' ≠ j := by
            intro z
            subst e
            exact hbj ((hE.2 j).mp (by rw [z]; exact List.mem_cons_of_mem _ List.mem_cons_self))
          omega
    · rw [if_neg hb, if_neg (show ¬ (0 : Int32) = 1 by decide)]
      exact Or.inr ⟨_, rfl, w, _, rfl, w, rfl, q1, fun l hE => absurd ((hE.2 i).mp List.mem_cons_self) hb, q3⟩
  · rintro t ⟨w, rfl, q1, q2, q3⟩
    refine ⟨(nI w, nI n), ?_, w, _, rfl, w, rfl, q1, fun l hE => q2 l hE (fun j l' e => ?_), q3⟩
    · show b_M_walk_121 (nI a) (nI n) c4 (nI s) (nI i) (u_mco μ co) (nI w) (nI n) = _
      unfold b_M_walk_121
      rw [if_pos (Int32.le_refl _)]
    · subst e
      exact bit_lt hs2 ((hE.2 j).mp (List.mem_cons_of_mem _ List.mem_cons_self))
  · refine ⟨w0, rfl, h0, fun l hE hl => ?_, h2⟩
    cases l with
    | nil => exact h1 hE
    | cons j l => exact absurd (hl j l rfl) (Nat.not_lt_zero j)
def AccOK (F T : Nat → Nat) (a n acc : Nat) (P : Nat → Prop) : Prop := acc ≤ 1048576 ∧ (∀ i l, P i → zEnum (i :: l) (2 ^ n - 1) → acc ≤ zrc F a ((i :: l).map T)) ∧ (acc = 1048576 ∨ ∃ l, zEnum l (2 ^ n - 1) ∧ acc = zrc F a (l.map T))
theorem full_tab : ∀ n, n < 5 → ((1 : Int32) <<< (nI n &&& 31)) - 1 = nI (2 ^ n - 1) := by decide +kernel
theorem enum_one {i s : Nat} (h : zEnum [i] s) : s = 2 ^ i := by
  apply Nat.eq_of_testBit_eq
  intro p
  rw [Nat.testBit_two_pow]
  have := h.2 p
  rw [List.mem_singleton] at this
  cases e : s.testBit p
  · symm
    rw [decide_eq_false_iff_not]
    intro z
    rw [this.mp z.symm] at e
    cases e
  · symm
    rw [decide_eq_true_iff]
    exact (this.mpr e).symm
theorem one_enum (i : Nat) : zEnum [i] (2 ^ i) := ⟨List.nodup_cons.mpr ⟨List.not_mem_nil, List.nodup_nil⟩, fun p => by rw [List.mem_singleton, Nat.testBit_two_pow, decide_eq_true_iff]; exact eq_comm⟩
theorem clr_less {s i : Nat} (hs : s < 1024) (hi : i < 10) (hb : s.testBit i = true) : zclr s i < s := by
  refine Nat.lt_of_le_of_ne Nat.and_le_left (fun e => ?_)
  have := clr_bit (p := i) hs hi
  rw [e, hb, decide_eq_false (fun z => z rfl), Bool.and_false] at this
  cases this
theorem row_e {μ : SM} {co : Nat → Int32} {F T : Nat → Nat} {a n s acc : Nat} (ha : a < 10) (hn : n ≤ 4) (hs0 : 0 < s) (hs2 : s < 2 ^ n)
    (hT : ∀ j, j < n → g_mst μ j = nI (T j) ∧ T j < 10) (hF : ∀ p, p < 100 → g_mfa μ p = nI (F p) ∧ F p ≤ 1048576)
    (hco : ∀ s' j, 0 < s' → s' < s → j < n → OKv F T a s' j (co (4 * s' + j))) (hacc : AccOK F T a n acc (fun _ => False)) :
    ∃ acc' x co', lp (fun t : Int32 × Int32 × SM => b_M_walk_79 (nI a) (nI n) (nI s) t.1 t.2.1 t.2.2) FU (nI acc, (0 : Int32), u_mco μ co) = some (nI acc', x, u_mco μ co') ∧ (∀ s' j, 0 < s' → s' < s + 1 → j < n → OKv F T a s' j (co' (4 * s' + j))) ∧ AccOK F T a n acc' (fun _ => s = 2 ^ n - 1) := by
  have hs : s < 16 := Nat.lt_of_lt_of_le hs2 (Nat.pow_le_pow_right (n := 2) (by decide) hn)
  have LL := lp_inv (body := fun t : Int32 × Int32 × SM => b_M_walk_79 (nI a) (nI n) (nI s) t.1 t.2.1 t.2.2) n (fun k t => ∃ acc' co', t = (nI acc', nI k, u_mco μ co') ∧ (∀ s' j, 0 < s' → s' < s → j < n → OKv F T a s' j (co' (4 * s' + j))) ∧ (∀ j, j < k → OKv F T a s j (co' (4 * s + j))) ∧ AccOK F T a n acc' (fun i => s = 2 ^ n - 1 ∧ i < k)) (fun t => ∃ acc' x co', t = (nI acc', x, u_mco μ co') ∧ (∀ s' j, 0 < s' → s' < s + 1 → j < n → OKv F T a s' j (co' (4 * s' + j))) ∧ AccOK F T a n acc' (fun _ => s = 2 ^ n - 1)) ?_ ?_ (s := (nI acc, (0 : Int32), u_mco μ co)) ⟨acc, co, rfl, hco, fun j h => absurd h (Nat.not_lt_zero j), hacc.1, fun i l h => absurd h.2 (Nat.not_lt_zero i), hacc.2.2⟩ (n := FU) (FU_lt (by omega))
  · obtain ⟨t, p1, acc', x, co', rfl, p2, p3⟩ := LL
    exact ⟨acc', x, co', p1, p2, p3⟩
  · rintro i t hi ⟨acc', co', rfl, q1, q2, q3, q4, q5⟩
    show ∃ t', b_M_walk_79 (nI a) (nI n) (nI s) (nI acc') (nI i) (u_mco μ co') = _ ∧ _
    obtain ⟨t3, t4⟩ := hT i hi
    obtain ⟨f1, f2⟩ := hF (10 * a + T i) (by omega)
    have p16 : 2 ^ i < 2 ^ 31 := Nat.pow_lt_pow_right (by decide) (by omega)
    have IN : ∃ w x, lp (fun t : Int32 × Int32 => b_M_walk_121 (nI a) (nI n) (nI acc') (nI s) (nI i) (u_mco μ co') t.1 t.2) FU ((if s = 2 ^ i then nI (F (10 * a + T i)) else 1048576), (0 : Int32)) = some (nI w, x) ∧ OKv F T a s i (nI w) := by
      have pre : ∀ j, j < n → j ≠ i → s.testBit j = true → s.testBit i = true → OKv F T a (zclr s i) j (co' (4 * zclr s i + j)) := by
        intro j hj hji hbj hbi
        refine q1 _ j ?_ (clr_less (by omega) (by omega) hbi) hj
        refine Nat.pos_of_ne_zero (fun z => ?_)
        have := clr_bit (p := j) (show s < 1024 by omega) (show i < 10 by omega)
        rw [z, Nat.zero_testBit, hbj, decide_eq_true hji] at this
        cases this
      by_cases c : s = 2 ^ i
      · rw [if_pos c]
        refine inner_e (nI acc') hn hi hs2 hT hF pre f2 (fun _ => ?_) (Or.inr ⟨[], by rw [c]; exact one_enum i, ?_⟩)
        · show _ ≤ 0 + F (10 * a + T i); omega
        · show _ = 0 + F (10 * a + T i); omega
      · rw [if_neg c]
        exact inner_e (w0 := 1048576) (nI acc') hn hi hs2 hT hF pre (Nat.le_refl _) (fun h => absurd (enum_one h) c) (Or.inl rfl)
    obtain ⟨w, x, p1, p2⟩ := IN
    have B : b_M_walk_79 (nI a) (nI n) (nI s) (nI acc') (nI i) (u_mco μ co') = if nI s = nI (2 ^ n - 1) then (if nI acc' ≤ nI w then some (.inl (nI acc', nI (i + 1), u_mco μ (upd co' (4 * s + i) (nI w)))) else some (.inl (nI w, nI (i + 1), u_mco μ (upd co' (4 * s + i) (nI w))))) else some (.inl (nI acc', nI (i + 1), u_mco μ (upd co' (4 * s + i) (nI w)))) := by
      have rd3 : g_mst (u_mco μ co') i = nI (T i) := t3
      have rd4 : g_mfa (u_mco μ co') (10 * a + T i) = nI (F (10 * a + T i)) := f1
      unfold b_M_walk_79
      rw [if_neg (show ¬ nI n ≤ nI i from nI_ge hi (by omega)), shl_tab i (by omega), full_tab n (by omega), mrd_nI (show i < 4 by omega) (by decide), rd3, ix10, mrd_nI (show 10 * a + T i < 100 by omega) (by decide), rd4, ix4]
      by_cases c : s = 2 ^ i
      · rw [if_pos c] at p1
        rw [if_pos (show nI s = nI (2 ^ i) by rw [c]), p1, mb2_e, mck_nI (show 4 * s + i < 64 by omega) (by decide), mlet_e, nI_clamp (by omega), nI_1]
      · rw [if_neg c] at p1
        rw [if_neg (show ¬ nI s = nI (2 ^ i) by rw [nI_eq (by omega) p16]; exact c), p1, mb2_e, mck_nI (show 4 * s + i < 64 by omega) (by decide), mlet_e, nI_clamp (by omega), nI_1]
    have g1 : ∀ s' j, 0 < s' → s' < s → j < n → OKv F T a s' j (upd co' (4 * s + i) (nI w) (4 * s' + j)) := by
      intro s' j h1 h2 h3
      rw [upd_ne _ _ (by omega)]
      exact q1 s' j h1 h2 h3
    have g2 : ∀ j, j < i + 1 → OKv F T a s j (upd co' (4 * s + i) (nI w) (4 * s + j)) := by
      intro j h1
      by_cases e : j = i
      · subst e; rw [upd_same]; exact p2
      · rw [upd_ne _ _ (by omega)]
        exact q2 j (by omega)
    rw [B]
    obtain ⟨w2, v1, v2, v3, v4⟩ := p2
    have hf16 : 2 ^ n ≤ 16 := Nat.pow_le_pow_right (n := 2) (by decide) hn
    by_cases c : s = 2 ^ n - 1
    · rw [if_pos (show nI s = nI (2 ^ n - 1) by rw [← c])]
      by_cases c2 : nI acc' ≤ nI w
      · rw [if_pos c2]
        refine ⟨_, rfl, acc', _, rfl, g1, g2, q3, ?_, q5⟩
        rintro i' l ⟨-, h⟩ hE
        by_cases e : i' = i
        · subst e
          have := v3 l (by rw [c]; exact hE)
          rw [v1, nI_leI (by omega) (by omega)] at c2
          omega
        · exact q4 i' l ⟨c, by omega⟩ hE
      · rw [if_neg c2, v1]
        rw [v1, nI_leI (by omega) (by omega)] at c2
        refine ⟨_, rfl, w2, _, rfl, by rw [← v1]; exact g1, by rw [← v1]; exact g2, v2, ?_, ?_⟩
        · rintro i' l ⟨-, h⟩ hE
          by_cases e : i' = i
          · subst e
            exact v3 l (by rw [c]; exact hE)
          · have := q4 i' l ⟨c, by omega⟩ hE
            omega
        · rcases v4 with v4 | ⟨l, v4, v5⟩
          · exact Or.inl v4
          · exact Or.inr ⟨i :: l, by rw [← c]; exact v4, v5⟩
    · rw [if_neg (show ¬ nI s = nI (2 ^ n - 1) by rw [nI_eq (by omega) (by omega)]; exact c)]
      exact ⟨_, rfl, acc', _, rfl, g1, g2, q3, fun i' l h => absurd h.1 c, q5⟩
  · rintro t ⟨acc', co', rfl, q1, q2, q3, q4, q5⟩
    refine ⟨(nI acc', nI n, u_mco μ co'), ?_, acc', _, co', rfl, ?_, q3, ?_, q5⟩
    · show b_M_walk_79 (nI a) (nI n) (nI s) (nI acc') (nI n) (u_mco μ co') = _
      unfold b_M_walk_79
      rw [if_pos (Int32.le_refl _)]
    · intro s' j h1 h2 h3
      by_cases e : s' = s
      · subst e; exact q2 j h3
      · exact q1 s' j h1 (by omega) h3
    · intro i l h hE
      refine q4 i l ⟨h, ?_⟩ hE
      exact bit_lt hs2 (by rw [h]; exact (hE.2 i).mp List.mem_cons_self)
theorem table_e {μ : SM} {F T : Nat → Nat} {a n : Nat} (ha : a < 10) (hn : n ≤ 4) (hn0 : 0 < n)
    (hT : ∀ j, j < n → g_mst μ j = nI (T j) ∧ T j < 10) (hF : ∀ p, p < 100 → g_mfa μ p = nI (F p) ∧ F p ≤ 1048576) :
    ∃ w x co, lp (fun t : Int32 × Int32 × SM => b_M_walk_68 (nI a) (nI n) t.1 t.2.1 t.2.2) FU ((1048576 : Int32), (1 : Int32), μ) = some (nI w, x, u_mco μ co) ∧ w ≤ 1048576 ∧ (∀ l, zEnum l (2 ^ n - 1) → w ≤ zrc F a (l.map T)) ∧ (w = 1048576 ∨ ∃ l, zEnum l (2 ^ n - 1) ∧ w = zrc F a (l.map T)) := by
  have hf16 : 2 ^ n ≤ 16 := Nat.pow_le_pow_right (n := 2) (by decide) hn
  have hf2 : 2 ≤ 2 ^ n := Nat.pow_le_pow_right (n := 2) (i := 1) (j := n) (by decide) hn0
  have LL := lp_inv (body := fun t : Int32 × Int32 × SM => b_M_walk_68 (nI a) (nI n) t.1 t.2.1 t.2.2) (2 ^ n - 1) (fun k t => ∃ acc' co', t = (nI acc', nI (k + 1), u_mco μ co') ∧ (∀ s' j, 0 < s' → s' < k + 1 → j < n → OKv F T a s' j (co' (4 * s' + j))) ∧ AccOK F T a n acc' (fun _ => k = 2 ^ n - 1)) (fun t => ∃ acc' x co', t = (nI acc', x, u_mco μ co') ∧ AccOK F T a n acc' (fun _ => True)) ?_ ?_ (s := ((1048576 : Int32), (1 : Int32), μ)) ⟨1048576, g_mco μ, rfl, fun s' j h1 h2 => by omega, Nat.le_refl _, fun i l h => by omega, Or.inl rfl⟩ (n := FU) (FU_lt (by omega))
  · obtain ⟨t, p1, w, x, co', rfl, p2, p3, p4⟩ := LL
    refine ⟨w, x, co', p1, p2, fun l hE => ?_, p4⟩
    cases l with
    | nil => have := hE.nil; omega
    | cons i l => exact p3 i l trivial hE
  · rintro k t hk ⟨acc', co', rfl, q1, q2, q3, q4⟩
    show ∃ t', b_M_walk_68 (nI a) (nI n) (nI acc') (nI (k + 1)) (u_mco μ co') = _ ∧ _
    obtain ⟨acc2, x, co2, r1, r2, r3⟩ := row_e (co := co') (acc := acc') ha hn (show 0 < k + 1 by omega) (show k + 1 < 2 ^ n by omega) hT hF q1 ⟨q2, fun _ _ h => h.elim, q4⟩
    unfold b_M_walk_68
    rw [shl_tab n (by omega), if_neg (nI_ge (by omega) (by omega)), r1, mb3_e, nI_1]
    exact ⟨_, rfl, acc2, co2, rfl, r2, r3⟩
  · rintro t ⟨acc', co', rfl, q1, q2, q3, q4⟩
    refine ⟨(nI acc', nI (2 ^ n - 1 + 1), u_mco μ co'), ?_, acc', _, co', rfl, q2, fun i l _ => q3 i l rfl, q4⟩
    show b_M_walk_68 (nI a) (nI n) (nI acc') (nI (2 ^ n - 1 + 1)) (u_mco μ co') = _
    unfold b_M_walk_68
    rw [shl_tab n (by omega), show 2 ^ n - 1 + 1 = 2 ^ n by omega, if_pos (Int32.le_refl _)]
