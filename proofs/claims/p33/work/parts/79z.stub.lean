theorem law_done {xs : Nat → Int32} {Ls : Nat} (hL : Ls ≤ 260) : ∃ μ', f_L_law xs Ls mem0 = some (1, μ') := sorry
