/-! walk -/
def zlst (b : Nat → Bool) : Nat → List Nat
  | 0 => []
  | k + 1 => if b k = true then k :: zlst b k else zlst b k
theorem lst_mem (b : Nat → Bool) : ∀ k p, p ∈ zlst b k ↔ p < k ∧ b p = true
  | 0, p => ⟨fun h => absurd h List.not_mem_nil, fun h => absurd h.1 (Nat.not_lt_zero p)⟩
  | k + 1, p => by
    have ih := lst_mem b k p
    show p ∈ (if b k = true then k :: zlst b k else zlst b k) ↔ _
    by_cases h : b k = true
    · rw [if_pos h, List.mem_cons, ih]
      constructor
      · rintro (z | z)
        · rw [z]; exact ⟨by omega, h⟩
        · exact ⟨by omega, z.2⟩
      · intro z
        by_cases e : p = k
        · exact Or.inl e
        · exact Or.inr ⟨by omega, z.2⟩
    · rw [if_neg h, ih]
      constructor
      · intro z; exact ⟨by omega, z.2⟩
      · intro z
        have : p ≠ k := fun e => h (e ▸ z.2)
        exact ⟨by omega, z.2⟩
theorem lst_nodup (b : Nat → Bool) : ∀ k, (zlst b k).Nodup
  | 0 => List.nodup_nil
  | k + 1 => by
    show (if b k = true then k :: zlst b k else zlst b k).Nodup
    by_cases h : b k = true
    · rw [if_pos h]
      refine List.nodup_cons.mpr ⟨fun z => ?_, lst_nodup b k⟩
      have := ((lst_mem b k k).mp z).1
      omega
    · rw [if_neg h]; exact lst_nodup b k
theorem lst_len (b : Nat → Bool) : ∀ k, (zlst b k).length = zcs b k
  | 0 => rfl
  | k + 1 => by
    have ih := lst_len b k
    show (if b k = true then k :: zlst b k else zlst b k).length = zcs b k + _
    by_cases h : b k = true
    · rw [if_pos h, if_pos h, List.length_cons, ih]
    · rw [if_neg h, if_neg h, ih]; rfl
theorem cs_inv (b : Nat → Bool) : ∀ k j, j < zcs b k → ∃ p, p < k ∧ b p = true ∧ zcs b p = j
  | 0, j, h => absurd h (Nat.not_lt_zero j)
  | k + 1, j, h => by
    by_cases hb : b k = true
    · rw [cs_t hb] at h
      by_cases e : j = zcs b k
      · exact ⟨k, by omega, hb, e.symm⟩
      · obtain ⟨p, h1, h2⟩ := cs_inv b k j (by omega)
        exact ⟨p, by omega, h2⟩
    · rw [cs_f hb] at h
      obtain ⟨p, h1, h2⟩ := cs_inv b k j h
      exact ⟨p, by omega, h2⟩
theorem cs_inj {b : Nat → Bool} {p q : Nat} (hp : b p = true) (hq : b q = true) (h : zcs b p = zcs b q) : p = q := by
  rcases Nat.lt_trichotomy p q with c | c | c
  · have := cs_mono b (show p + 1 ≤ q from c)
    rw [cs_t hp] at this; omega
  · exact c
  · have := cs_mono b (show q + 1 ≤ p from c)
    rw [cs_t hq] at this; omega
theorem enum_len : ∀ (l : List Nat) (m d : Nat), m < 1024 → (∃ l0, zEnum l0 m ∧ l0.length ≤ d) → zEnum l m → l.length ≤ d
  | [], _, _, _, _, _ => Nat.zero_le _
  | v :: l, m, d, hm, ⟨l0, h1, h2⟩, h => by
    have hb : m.testBit v = true := (h.2 v).mp List.mem_cons_self
    have hv : v < 10 := bit_lt (k := 10) hm hb
    obtain ⟨e1, e2⟩ := h1.erase hm hv hb
    have := enum_len l (zclr m v) (d - 1) (clr_lt hm) ⟨_, e1, by omega⟩ (h.tail hm hv)
    rw [List.length_cons]
    omega
theorem pc_rel {B : Nat} {S F : Nat → Nat} (h : RelF B S F) : ∀ (l : List Nat) (a : Nat), a < 10 → (∀ p, p ∈ l → p < 10) → (zpc F a l ≤ l.length * B ∧ zpc S a l = zpc F a l) ∨ (1048576 ≤ zpc F a l ∧ 1000000 ≤ zpc S a l)
  | [], _, _, _ => Or.inl ⟨Nat.zero_le _, rfl⟩
  | v :: l, a, ha, hl => by
    have hv := hl v List.mem_cons_self
    have ih := pc_rel h l v hv (fun p hp => hl p (List.mem_cons_of_mem _ hp))
    have e := h (10 * a + v) (by omega)
    show (F (10 * a + v) + zpc F v l ≤ (l.length + 1) * B ∧ S (10 * a + v) + zpc S v l = F (10 * a + v) + zpc F v l) ∨ (1048576 ≤ F (10 * a + v) + zpc F v l ∧ 1000000 ≤ S (10 * a + v) + zpc S v l)
    rw [show (l.length + 1) * B = l.length * B + B from Nat.succ_mul _ _]
    omega
theorem nodup_map {f : Nat → Nat} {l : List Nat} (h : l.Nodup) (hf : ∀ x y, x ∈ l → y ∈ l → f x = f y → x = y) : (l.map f).Nodup :=
  List.pairwise_map.mpr (h.imp_of_mem (fun hx hy n e => n (hf _ _ hx hy e)))
theorem walk_eq {S F T : Nat → Nat} {a m n wS wF : Nat} {b : Nat → Bool} (ha : a < 10) (hm : m < 1024) (hb : ∀ p, p < 10 → m.testBit p = b p) (hn : n = zcs b 10) (h4 : n ≤ 4)
    (hT : ∀ p, p < 10 → b p = true → T (zcs b p) = p) (R : RelF 101376 S F) (fS : zFew S 1000000 a m wS)
    (fF : wF ≤ 1048576 ∧ (∀ l, zEnum l (2 ^ n - 1) → wF ≤ zrc F a (l.map T)) ∧ (wF = 1048576 ∨ ∃ l, zEnum l (2 ^ n - 1) ∧ wF = zrc F a (l.map T))) :
    (wS < 1000000 ∧ wF = wS) ∨ (wS = 1000000 ∧ wF = 1048576) := by
  have mem : ∀ p, m.testBit p = true ↔ p < 10 ∧ b p = true := by
    intro p
    constructor
    · intro h
      have hp := bit_lt (k := 10) hm h
      exact ⟨hp, (hb p hp) ▸ h⟩
    · rintro ⟨h1, h2⟩
      rw [hb p h1]; exact h2
  have len : ∃ l0, zEnum l0 m ∧ l0.length ≤ 4 := ⟨zlst b 10, ⟨lst_nodup b 10, fun p => by rw [lst_mem, mem p]⟩, by rw [lst_len, ← hn]; exact h4⟩
  have fbit : ∀ j, (2 ^ n - 1).testBit j = true ↔ j < n := fun j => by rw [Nat.testBit_two_pow_sub_one, decide_eq_true_iff]
  have toP : ∀ l, zEnum l (2 ^ n - 1) → zEnum (l.map T) m := by
    rintro l ⟨h1, h2⟩
    have inv : ∀ j, j ∈ l → ∃ p, p < 10 ∧ b p = true ∧ zcs b p = j := fun j hj => cs_inv b 10 j (by rw [← hn]; exact (fbit j).mp ((h2 j).mp hj))
    refine ⟨nodup_map h1 (fun x y hx hy e => ?_), fun p => ?_⟩
    · obtain ⟨p, p1, p2, rfl⟩ := inv x hx
      obtain ⟨q, q1, q2, rfl⟩ := inv y hy
      rw [hT p p1 p2, hT q q1 q2] at e
      rw [e]
    · rw [List.mem_map, mem p]
      constructor
      · rintro ⟨j, h3, rfl⟩
        obtain ⟨q, q1, q2, rfl⟩ := inv j h3
        rw [hT q q1 q2]
        exact ⟨q1, q2⟩
      · rintro ⟨h3, h4⟩
        refine ⟨zcs b p, (h2 _).mpr ((fbit _).mpr ?_), hT p h3 h4⟩
        have := cs_mono b (show p + 1 ≤ 10 by omega)
        rw [cs_t h4] at this
        omega
  have toI : ∀ l, zEnum l m → zEnum (l.map (zcs b)) (2 ^ n - 1) ∧ (l.map (zcs b)).map T = l := by
    rintro l ⟨h1, h2⟩
    refine ⟨⟨nodup_map h1 (fun x y hx hy e => ?_), fun j => ?_⟩, ?_⟩
    · exact cs_inj ((mem x).mp ((h2 x).mp hx)).2 ((mem y).mp ((h2 y).mp hy)).2 e
    · rw [List.mem_map, fbit]
      constructor
      · rintro ⟨p, h3, rfl⟩
        obtain ⟨h4, h5⟩ := (mem p).mp ((h2 p).mp h3)
        have := cs_mono b (show p + 1 ≤ 10 by omega)
        rw [cs_t h5] at this
        omega
      · intro h3
        obtain ⟨p, p1, p2, p3⟩ := cs_inv b 10 j (by omega)
        exact ⟨p, (h2 p).mpr ((mem p).mpr ⟨p1, p2⟩), p3⟩
    · rw [List.map_map]
      have : ∀ p, p ∈ l → (T ∘ zcs b) p = p := fun p hp => by
        obtain ⟨h4, h5⟩ := (mem p).mp ((h2 p).mp hp)
        exact hT p h4 h5
      rw [List.map_congr_left this]
      exact List.map_id' l
  have lt10 : ∀ l, zEnum l m → ∀ p, p ∈ l → p < 10 := fun l hl p hp => ((mem p).mp ((hl.2 p).mp hp)).1
  obtain ⟨s1, s2, s3⟩ := fS
  obtain ⟨f1, f2, f3⟩ := fF
  have upF : ∀ l, zEnum l m → wF ≤ zpc F a l := by
    intro l hl
    obtain ⟨t1, t2⟩ := toI l.reverse hl.rev
    have := f2 _ t1
    rw [t2, ← pc_rc] at this
    exact this
  have atF : wF = 1048576 ∨ ∃ l, zEnum l m ∧ wF = zpc F a l := by
    rcases f3 with f3 | ⟨l, f3, f4⟩
    · exact Or.inl f3
    · refine Or.inr ⟨(l.map T).reverse, (toP l f3).rev, ?_⟩
      rw [pc_rc, List.reverse_reverse]
      exact f4
  have zbd : ∀ l, zEnum l m → (zpc F a l ≤ 405504 ∧ zpc S a l = zpc F a l) ∨ (1048576 ≤ zpc F a l ∧ 1000000 ≤ zpc S a l) := by
    intro l hl
    have h5 := enum_len l m 4 hm len hl
    have h6 := pc_rel R l a ha (lt10 l hl)
    have h7 : l.length * 101376 ≤ 4 * 101376 := Nat.mul_le_mul_right _ h5
    omega
  rcases s3 with s3 | ⟨l, s3, s4⟩
  · refine Or.inr ⟨s3, ?_⟩
    rcases atF with z | ⟨l, z, z2⟩
    · exact z
    · have h5 := zbd l z
      have h6 := s2 l z
      omega
  · have h5 := zbd l s3
    have h6 := upF l s3
    rcases atF with z | ⟨l2, z, z2⟩
    · omega
    · have h7 := zbd l2 z
      have h8 := s2 l2 z
      omega
theorem walk_ok {σ : SP} {μ : SM} {e : Nat} (I : Inv σ μ e) (a w : Int32) : Agree NSE IAE (m_P_walk a w σ) (m_M_walk a w μ) := by
  have I0 := I
  obtain ⟨h60, hec, hev, hrc, hat, hrep⟩ := I0
  obtain ⟨σ1, p1, R, K⟩ := I.replay (Nat.le_refl e)
  have J := Inv.keepP K I
  unfold m_P_walk m_M_walk k_M_walk_25
  rw [hec, p1, mb1_e]
  simp only [mlet_e]
  rcases told_any h60 hev R a with ⟨t1, t2⟩ | ⟨o, v, g, d, ho, rfl, t1, t2, -⟩
  · rw [t1, t2, mb1_e, mb1_e, if_pos rfl, if_pos rfl, if_neg (show ¬ g_mcode (u_mcode μ 1) ≤ 0 by show ¬ (1 : Int32) ≤ 0; decide)]
    exact ⟨_, _, _, _, _, e, rfl, rfl, J.code 1, Or.inr (Or.inl ⟨rfl, rfl⟩)⟩
  · rw [t1, t2, mb1_e, mb1_e, if_neg (show ¬ ((1 : Int32) = 0) by decide), if_neg (show ¬ ((1 : Int32) = 0) by decide), e_isPlace, e_MisPlace, mb1_b2i, mb1_b2i]
    by_cases h : Wi w 0 9
    · rw [if_pos h, if_pos h, if_pos (show g_mcode (u_mcode μ 0) ≤ 0 from Int32.le_refl _)]
      obtain ⟨j, hj, rfl⟩ := wi9 h
      obtain ⟨m, hm, m1, m2⟩ := mask_e R ho
      obtain ⟨L, l1, l2⟩ := links_of R
      have b0 : ∀ p, inP (g_pl σ1) (g_gv σ1) (nI o) p = inP (fun u => g_mpl μ (20 * e + u)) (fun u => g_mgv μ (20 * e + u)) (nI o) p := by
        intro p
        refine hit_congr 20 (fun u hu => ?_)
        obtain ⟨e1, e2, -⟩ := R.1 u hu
        unfold plU
        rw [e1, e2]
      obtain ⟨st, pl⟩ := places_e (μ := u_mcode μ 0) h60 hev (nI o) _ rfl
      have b1 : inP (fun u => g_mpl (u_mcode μ 0) (20 * e + u)) (fun u => g_mgv (u_mcode μ 0) (20 * e + u)) (nI o) = inP (fun u => g_mpl μ (20 * e + u)) (fun u => g_mgv μ (20 * e + u)) (nI o) := rfl
      rw [b1] at pl
      have m3 : ∀ p, p < 10 → m.testBit p = inP (fun u => g_mpl μ (20 * e + u)) (fun u => g_mgv μ (20 * e + u)) (nI o) p := fun p hp => (m2 p hp).trans (b0 p)
      generalize inP (fun u => g_mpl μ (20 * e + u)) (fun u => g_mgv μ (20 * e + u)) (nI o) = b at pl m3
      have c10 := cs_le b 10
      rw [m1, mb1_e, pop_tab m hm, mb1_e, cs_congr (c := b) 10 (fun p hp => m3 p hp)]
      rcases pl with ⟨n5, pl⟩ | ⟨n4, pl, pt⟩
      · rw [pl, mb2_e, if_neg (show ¬ nI (zcs b 10) ≤ 4 from nI_ge (b := zcs b 10) (a := 4) (by omega) (by omega)), if_neg (show ¬ (5 : Int32) = 0 by decide), if_neg (show ¬ (5 : Int32) ≤ 4 by decide)]
        exact ⟨_, _, _, _, _, e, rfl, rfl, (show Inv σ1 (u_mst (u_mcode μ 0) st) e from J), Or.inl ⟨rfl, rfl, rfl⟩⟩
      · have le4 : nI (zcs b 10) ≤ 4 := nI_le (a := zcs b 10) (b := 4) n4 (by decide)
        have hse : ∀ p, p < 100 → g_se (u_se σ1 (zarr (fwN (zlay 1000000 L) 10) (g_se σ1))) p = nI (fwN (zlay 1000000 L) 10 p) := fun p hp => arr_at hp
        have hS : ∀ p, p < 100 → fwN (zlay 1000000 L) 10 p ≤ 1000000 := fun p hp => Nat.le_trans (fwN_le _ 10 p) (zlay_le (l1 p hp).2 (by decide))
        have hF : ∀ p, p < 100 → fwN (zlay 1048576 L) 10 p ≤ 1048576 := fun p hp => Nat.le_trans (fwN_le _ 10 p) (zlay_le (l1 p hp).2 (by decide))
        have mem : ∀ p, m.testBit p = true ↔ p < 10 ∧ b p = true := by
          intro p
          constructor
          · intro h
            have hp := bit_lt (k := 10) hm h
            exact ⟨hp, (m3 p hp) ▸ h⟩
          · rintro ⟨h1, h2⟩
            rw [m3 p h1]; exact h2
        have len : ∃ l0, zEnum l0 m ∧ l0.length ≤ 4 := ⟨zlst b 10, ⟨lst_nodup b 10, fun p => by rw [lst_mem, mem p]⟩, by rw [lst_len]; exact n4⟩
        obtain ⟨wS, f1, f2⟩ := few_ok hse hS 8 4 j m hj hm (by decide) (by decide) len
        have f1' : m_Y_fewest 8 (u_se σ1 (zarr (fwN (zlay 1000000 L) 10) (g_se σ1))) (nI j) (nI m) 4 = some (nI wS) := f1
        have K1 : Inv (u_se σ1 (zarr (fwN (zlay 1000000 L) 10) (g_se σ1))) μ e := Inv.keepP (show KeepP σ (u_se σ1 (zarr (fwN (zlay 1000000 L) 10) (g_se σ1))) from K) I
        rw [if_pos le4, measure_e l1, mb1_e]
        unfold m_Y_fewestThrough m_P_orNone
        rw [f1', mb1_e, mb1_e, pl, mb2_e]
        by_cases n0 : zcs b 10 = 0
        · have m0 : m = 0 := by
            apply Nat.eq_of_testBit_eq
            intro p
            rw [Nat.zero_testBit]
            cases z : m.testBit p
            · rfl
            · obtain ⟨z1, z2⟩ := (mem p).mp z
              have := cs_mono b (show p + 1 ≤ 10 by omega)
              rw [cs_t z2] at this
              omega
          have w0 : wS = 0 := by
            have := f2.2.1 [] (by rw [m0]; exact enum_0)
            exact Nat.le_zero.mp this
          rw [w0, n0, if_pos (show nI 0 < 1000000 by decide), if_pos (show nI 0 = 0 from rfl), mb1_e]
          exact ⟨_, _, _, _, _, e, rfl, rfl, (show Inv _ (u_mst (u_mcode μ 0) st) e from K1), Or.inl ⟨rfl, rfl, rfl⟩⟩
        · rw [if_neg (nI_ne0 (by omega) (by omega)), if_pos le4, reach_e (μ := u_mst (u_mcode μ 0) st) h60 hev l2, mb1_e]
          have hT : ∀ i, i < zcs b 10 → g_mst (u_mfa (u_mst (u_mcode μ 0) st) (zarr (fwN (zlay 1048576 L) 10) (g_mfa (u_mst (u_mcode μ 0) st)))) i = nI (st i).toNatClampNeg ∧ (st i).toNatClampNeg < 10 := by
            intro i hi
            obtain ⟨p, q1, q2, q3⟩ := cs_inv b 10 i hi
            have := pt p q1 q2
            rw [q3] at this
            show st i = _ ∧ _
            rw [this, nI_clamp (by omega)]
            exact ⟨rfl, q1⟩
          obtain ⟨wF, x, co, g1, g2⟩ := table_e (μ := u_mfa (u_mst (u_mcode μ 0) st) (zarr (fwN (zlay 1048576 L) 10) (g_mfa (u_mst (u_mcode μ 0) st)))) (F := fwN (zlay 1048576 L) 10) (T := fun i => (st i).toNatClampNeg) hj n4 (by omega) hT (fun p hp => ⟨arr_at hp, hF p hp⟩)
          have W := walk_eq (T := fun i => (st i).toNatClampNeg) hj hm m3 rfl n4 (fun p hp hb => by
            show (st (zcs b p)).toNatClampNeg = p
            rw [pt p hp hb, nI_clamp (by omega)]) (relF_N (relF_0 (fun p hp => (l1 p hp).2)) 10 (Nat.le_refl _)) f2 g2
          rw [g1, mb3_e]
          have K2 : Inv (u_se σ1 (zarr (fwN (zlay 1000000 L) 10) (g_se σ1))) (u_mco (u_mfa (u_mst (u_mcode μ 0) st) (zarr (fwN (zlay 1048576 L) 10) (g_mfa (u_mst (u_mcode μ 0) st)))) co) e := K1
          rcases W with ⟨w1, w2⟩ | ⟨w1, w2⟩
          · rw [w2, if_pos (show nI wS < 1000000 from nI_lt (b := 1000000) w1 (by decide)), if_neg (show ¬ (1048576 : Int32) ≤ nI wS from nI_ge (b := 1048576) (by omega) (by decide)), mb1_e]
            exact ⟨_, _, _, _, _, e, rfl, rfl, K2, Or.inl ⟨rfl, rfl, rfl⟩⟩
          · rw [w1, w2, if_neg (show ¬ nI 1000000 < 1000000 by decide), if_pos (show (1048576 : Int32) ≤ nI 1048576 by decide), mb1_e]
            exact ⟨_, _, _, _, _, e, rfl, rfl, K2, Or.inl ⟨rfl, rfl, rfl⟩⟩
    · rw [if_neg h, if_neg h, if_neg (show ¬ g_mcode (u_mcode μ 2) ≤ 0 by show ¬ (2 : Int32) ≤ 0; decide)]
      exact ⟨_, _, _, _, _, e, rfl, rfl, J.code 2, Or.inr (Or.inr ⟨rfl, rfl⟩)⟩
