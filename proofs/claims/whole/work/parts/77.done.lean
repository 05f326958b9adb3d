theorem law_done {xs : Nat → Int32} {Ls : Nat} (hLs : Ls ≤ 2048) : ∃ μ', f_L_law xs Ls mem0 = some (1, μ') :=
  law_all hLs (fun _ _ h _ => (st_fault h).up (by omega)) (fun _ _ h hB => st_carryOut h hB)
