theorem law_true {L : Nat} (hL : L ≤ 2560) (xs : Nat → Int32) : wp_L_law L xs sa_0 te_0 pa_0 pa_0 cl_0 fo_0 fo_0 fo_0 mo_0 (fun r => r = 1) := sorry
