theorem pure_main {L : Nat} {xs : Nat → Int32} (hL : L ≤ 2560) : lp (fun s : SL => b_law L xs s.1 s.2.1 s.2.2.1 s.2.2.2) 600 (0, S0, M1, fun _ => 0) = some true := by
  obtain ⟨e, h, rfl⟩ := lp_inv (body := fun s : SL => b_law L xs s.1 s.2.1 s.2.2.1 s.2.2.2) (L / 5) (fun k s => ∃ σ μ f e, s = (nI (5 * k), σ, μ, f) ∧ Inv σ μ e) (fun b => b = true) (by
    rintro k s hk ⟨σ, μ, f, e, rfl, I⟩
    obtain ⟨σ', μ', f', e', h1, h2⟩ := law_step (L := L) (xs := xs) (f := f) (k := k) I (by omega) hL
    exact ⟨_, h1, σ', μ', f', e', rfl, h2⟩) (by
    rintro s ⟨σ, μ, f, e, rfl, I⟩
    exact ⟨true, law_exit (by omega) (by omega) hL, rfl⟩) (s := (0, S0, M1, fun _ => 0)) ⟨S0, M1, fun _ => 0, 0, rfl, inv_0⟩ (n := 600) (by omega)
  exact h
