theorem pure_main {L : Nat} {xs : Nat → Int32} (hL : L ≤ 2560) : lp (fun s : SL => b_law L xs s.1 s.2.1 s.2.2.1 s.2.2.2) 600 (0, S0, M1, fun _ => 0) = some true := sorry
