def M1 : SM := (0, 0, 0, fun _ => 0, fun _ => 0, fun _ => 0, fun _ => 0, fil 20 (-1) (fun _ => 0), fun _ => 0, fil 20 (-1) (fun _ => 0), fun _ => 0, fun _ => 0, fun _ => 0, fun _ => 0, fun _ => 0, fun _ => 0, fun _ => 0, fun _ => 0)
theorem pure_init : m_M_init M00 = some M1 := sorry
theorem pure_main {L : Nat} {xs : Nat → Int32} (hL : L ≤ 2560) : lp (fun s : SL => b_law L xs s.1 s.2.1 s.2.2.1 s.2.2.2) 600 (0, S0, M1, fun _ => 0) = some true := sorry
