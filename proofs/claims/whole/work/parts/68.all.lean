theorem law_all {xs : Nat → Int32} {Ls : Nat} (hLs : Ls ≤ 2048) (hFa : ∀ μ B, RR μ B → B < 800000000 → ST μ (B + 205000) f_X7_fault f_X8_fault) (hCo : ∀ μ B, RR μ B → B < 800000000 → ST μ (B + 205000) f_X7_carryOut f_X8_carryOut) : ∃ μ', f_L_law xs Ls mem0 = some (1, μ') := by
  unfold f_L_law
  have := law_loop (xs := xs) hLs hFa hCo 513 fu 0 mem0 (by omega) (by unfold fu; omega) (RR0.up (by omega))
  rwa [Nat.mul_zero, ← z_l0] at this
