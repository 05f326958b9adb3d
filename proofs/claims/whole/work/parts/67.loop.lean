theorem lim_int {Ls : Nat} (hL : Ls ≤ 2048) : ((Int32.ofNat Ls) - 4).toInt = (Ls : Int) - 4 := by
  show (nI Ls - 4).toInt = _
  rw [Int32.toInt_sub, nI_toInt (by omega), show (4 : Int32).toInt = 4 from rfl]
  exact Int.bmod_eq_of_le (by omega) (by omega)
theorem lim_lt {Ls i : Nat} (hL : Ls ≤ 2048) (h : Ls < 4 * i + 4) (hi : i ≤ 513 := by omega) : (Int32.ofNat Ls) - 4 < nI (4 * i) := by
  rw [Int32.lt_iff_toInt_lt, lim_int hL, nI_toInt (by omega)]
  omega
theorem lim_nlt {Ls i : Nat} (hL : Ls ≤ 2048) (h : ¬ Ls < 4 * i + 4) : ¬ (Int32.ofNat Ls) - 4 < nI (4 * i) := by
  rw [Int32.lt_iff_toInt_lt, lim_int hL, nI_toInt (by omega)]
  omega
theorem law_loop {xs : Nat → Int32} {Ls : Nat} (hLs : Ls ≤ 2048) (hFa : ∀ μ B, RR μ B → B < 800000000 → ST μ (B + 205000) f_X7_fault f_X8_fault) (hCo : ∀ μ B, RR μ B → B < 800000000 → ST μ (B + 205000) f_X7_carryOut f_X8_carryOut) : ∀ (d f i : Nat) (μ : mT), i + d = 513 → d < f → RR μ (i * 205000) → ∃ μ', f_L_law_L18 xs Ls f (nI (4 * i)) μ = some (1, μ') := by
  intro d
  induction d with
  | zero =>
    intro f i μ hi hf h
    obtain ⟨f, rfl⟩ : ∃ n', f = n' + 1 := ⟨f - 1, by omega⟩
    rw [f_L_law_L18, if_pos (lim_lt hLs (by omega))]
    exact ⟨μ, rfl⟩
  | succ d ih =>
    intro f i μ hi hf h
    obtain ⟨f, rfl⟩ : ∃ n', f = n' + 1 := ⟨f - 1, by omega⟩
    rw [f_L_law_L18]
    by_cases hend : Ls < 4 * i + 4
    · rw [if_pos (lim_lt hLs hend)]
      exact ⟨μ, rfl⟩
    have hB : i * 205000 < 800000000 := by omega
    have g0 : ∀ k : Option (Int32 × mT), gd (inb (nI (4 * i)) Ls) k = k := fun k => q_gdi (by omega) (by omega)
    have g1 : ∀ k : Option (Int32 × mT), gd (inb (nI (4 * i) + 1) Ls) k = k := fun k => by rw [z_l1, q_add]; exact q_gdi (by omega) (by omega)
    have g2 : ∀ k : Option (Int32 × mT), gd (inb (nI (4 * i) + 2) Ls) k = k := fun k => by rw [z_l2, q_add]; exact q_gdi (by omega) (by omega)
    have g3 : ∀ k : Option (Int32 × mT), gd (inb (nI (4 * i) + 3) Ls) k = k := fun k => by rw [z_l3, q_add]; exact q_gdi (by omega) (by omega)
    have go : ∀ μ', RR μ' (i * 205000 + 205000) → ∃ μ'', f_L_law_L18 xs Ls f (nI (4 * i) + 4) μ' = some (1, μ'') := fun μ' hR => by
      rw [show (nI (4 * i) + 4 : Int32) = nI (4 * (i + 1)) from by rw [z_l4, q_add]; congr 1]
      exact ih f (i + 1) μ' (by omega) (by omega) (hR.up (by omega))
    rw [if_neg (lim_nlt hLs (by omega)), g0, q_lt, q_lt]
    generalize (xs (nI (4 * i)).toNatClampNeg &&& 31) = v6
    by_cases c0 : v6 = 0
    · obtain ⟨v, μ1, μ2, e1, e2, hR⟩ := (st_set (a := (xs (nI (4 * i) + 1).toNatClampNeg)) (b := (xs (nI (4 * i) + 2).toNatClampNeg)) h).up (show i * 205000 + 5000 ≤ i * 205000 + 205000 by omega)
      simp only [g1, g2, e1, q_bd, e2, if_pos c0, ↓reduceIte]
      exact go μ2 hR
    rw [if_neg c0]
    by_cases c1 : v6 = 1
    · obtain ⟨v, μ1, μ2, e1, e2, hR⟩ := (st_track (a := (xs (nI (4 * i) + 1).toNatClampNeg)) h).up (show i * 205000 + 5000 ≤ i * 205000 + 205000 by omega)
      simp only [g1, e1, q_bd, e2, if_pos c1, ↓reduceIte]
      exact go μ2 hR
    rw [if_neg c1]
    by_cases c2 : v6 = 2
    · obtain ⟨v, μ1, μ2, e1, e2, hR⟩ := (st_wagon (a := (xs (nI (4 * i) + 1).toNatClampNeg)) (b := (xs (nI (4 * i) + 2).toNatClampNeg)) h).up (show i * 205000 + 5000 ≤ i * 205000 + 205000 by omega)
      simp only [g1, g2, e1, q_bd, e2, if_pos c2, ↓reduceIte]
      exact go μ2 hR
    rw [if_neg c2]
    by_cases c3 : v6 = 3
    · obtain ⟨v, μ1, μ2, e1, e2, hR⟩ := (st_block (a := (xs (nI (4 * i) + 1).toNatClampNeg)) (b := (xs (nI (4 * i) + 2).toNatClampNeg)) h hB).up (show i * 205000 + 5000 ≤ i * 205000 + 205000 by omega)
      simp only [g1, g2, e1, q_bd, e2, if_pos c3, ↓reduceIte]
      exact go μ2 hR
    rw [if_neg c3]
    by_cases c4 : v6 = 4
    · obtain ⟨v, μ1, μ2, e1, e2, hR⟩ := (st_pull (a := (xs (nI (4 * i) + 1).toNatClampNeg)) (b := (xs (nI (4 * i) + 2).toNatClampNeg)) h hB).up (show i * 205000 + 5000 ≤ i * 205000 + 205000 by omega)
      simp only [g1, g2, e1, q_bd, e2, if_pos c4, ↓reduceIte]
      exact go μ2 hR
    rw [if_neg c4]
    by_cases c5 : v6 = 5
    · obtain ⟨v, μ1, μ2, e1, e2, hR⟩ := (st_push (a := (xs (nI (4 * i) + 1).toNatClampNeg)) (b := (xs (nI (4 * i) + 2).toNatClampNeg)) h hB).up (show i * 205000 + 5000 ≤ i * 205000 + 205000 by omega)
      simp only [g1, g2, e1, q_bd, e2, if_pos c5, ↓reduceIte]
      exact go μ2 hR
    rw [if_neg c5]
    by_cases c6 : v6 = 6
    · obtain ⟨v, μ1, μ2, e1, e2, hR⟩ := (st_round h hB).up (show i * 205000 + 5000 ≤ i * 205000 + 205000 by omega)
      simp only [e1, q_bd, e2, if_pos c6, ↓reduceIte]
      exact go μ2 hR
    rw [if_neg c6]
    by_cases c7 : v6 = 7
    · obtain ⟨v, μ1, μ2, e1, e2, hR⟩ := (st_pass (a := (xs (nI (4 * i) + 1).toNatClampNeg)) h hB).up (show i * 205000 + 5000 ≤ i * 205000 + 205000 by omega)
      simp only [g1, e1, q_bd, e2, if_pos c7, ↓reduceIte]
      exact go μ2 hR
    rw [if_neg c7]
    by_cases c8 : v6 = 8
    · obtain ⟨v, μ1, μ2, e1, e2, hR⟩ := (st_train (x := ((shlL ((xs (nI (4 * i) + 1).toNatClampNeg).toInt64) 32) ||| (((xs (nI (4 * i) + 2).toNatClampNeg).toInt64) &&& 4294967295))) (a := (xs (nI (4 * i) + 3).toNatClampNeg)) h hB).up (show i * 205000 + 5000 ≤ i * 205000 + 205000 by omega)
      simp only [g1, g2, g3, e1, q_bd, e2, if_pos c8, ↓reduceIte]
      exact go μ2 hR
    rw [if_neg c8]
    by_cases c9 : v6 = 9
    · obtain ⟨v, μ1, μ2, e1, e2, hR⟩ := (st_strike (a := (xs (nI (4 * i) + 1).toNatClampNeg)) h).up (show i * 205000 + 5000 ≤ i * 205000 + 205000 by omega)
      simp only [g1, e1, q_bd, e2, if_pos c9, ↓reduceIte]
      exact go μ2 hR
    rw [if_neg c9]
    by_cases c10 : v6 = 10
    · obtain ⟨v, μ1, μ2, e1, e2, hR⟩ := (st_leave (a := (xs (nI (4 * i) + 1).toNatClampNeg)) h hB).up (show i * 205000 + 5000 ≤ i * 205000 + 205000 by omega)
      simp only [g1, e1, q_bd, e2, if_pos c10, ↓reduceIte]
      exact go μ2 hR
    rw [if_neg c10]
    by_cases c11 : v6 = 11
    · obtain ⟨v, μ1, μ2, e1, e2, hR⟩ := (st_ofTrack (a := (xs (nI (4 * i) + 1).toNatClampNeg)) (b := (xs (nI (4 * i) + 2).toNatClampNeg)) h).up (show i * 205000 + 5000 ≤ i * 205000 + 205000 by omega)
      simp only [g1, g2, e1, q_bd, e2, if_pos c11, ↓reduceIte]
      exact go μ2 hR
    rw [if_neg c11]
    by_cases c12 : v6 = 12
    · obtain ⟨v, μ1, μ2, e1, e2, hR⟩ := (st_at (a := (xs (nI (4 * i) + 1).toNatClampNeg)) (b := (xs (nI (4 * i) + 2).toNatClampNeg)) h).up (show i * 205000 + 5000 ≤ i * 205000 + 205000 by omega)
      simp only [g1, g2, e1, q_bd, e2, if_pos c12, ↓reduceIte]
      exact go μ2 hR
    rw [if_neg c12]
    by_cases c13 : v6 = 13
    · obtain ⟨v, μ1, μ2, e1, e2, hR⟩ := (st_ofWagon (a := (xs (nI (4 * i) + 1).toNatClampNeg)) (b := (xs (nI (4 * i) + 2).toNatClampNeg)) h).up (show i * 205000 + 5000 ≤ i * 205000 + 205000 by omega)
      simp only [g1, g2, e1, q_bd, e2, if_pos c13, ↓reduceIte]
      exact go μ2 hR
    rw [if_neg c13]
    by_cases c14 : v6 = 14
    · obtain ⟨v, μ1, μ2, e1, e2, hR⟩ := (st_ofTrain (a := (xs (nI (4 * i) + 1).toNatClampNeg)) (b := (xs (nI (4 * i) + 2).toNatClampNeg)) h).up (show i * 205000 + 5000 ≤ i * 205000 + 205000 by omega)
      simp only [g1, g2, e1, q_bd, e2, if_pos c14, ↓reduceIte]
      exact go μ2 hR
    rw [if_neg c14]
    by_cases c15 : v6 = 15
    · obtain ⟨v, μ1, μ2, e1, e2, hR⟩ := (st_count (a := (xs (nI (4 * i) + 1).toNatClampNeg)) h).up (show i * 205000 + 5000 ≤ i * 205000 + 205000 by omega)
      simp only [g1, e1, q_bd, e2, if_pos c15, ↓reduceIte]
      exact go μ2 hR
    rw [if_neg c15]
    by_cases c16 : v6 = 16
    · obtain ⟨v, μ1, μ2, e1, e2, hR⟩ := (st_freeFrom (a := (xs (nI (4 * i) + 1).toNatClampNeg)) h).up (show i * 205000 + 5000 ≤ i * 205000 + 205000 by omega)
      simp only [g1, e1, q_bd, e2, if_pos c16, ↓reduceIte]
      exact go μ2 hR
    rw [if_neg c16]
    by_cases c17 : v6 = 17
    · obtain ⟨v, μ1, μ2, e1, e2, hR⟩ := (st_straight (a := (xs (nI (4 * i) + 1).toNatClampNeg)) h).up (show i * 205000 + 5000 ≤ i * 205000 + 205000 by omega)
      simp only [g1, e1, q_bd, e2, if_pos c17, ↓reduceIte]
      exact go μ2 hR
    rw [if_neg c17]
    by_cases c18 : v6 = 18
    · obtain ⟨v, μ1, μ2, e1, e2, hR⟩ := (st_pulls (a := (xs (nI (4 * i) + 1).toNatClampNeg)) h).up (show i * 205000 + 5000 ≤ i * 205000 + 205000 by omega)
      simp only [g1, e1, q_bd, e2, if_pos c18, ↓reduceIte]
      exact go μ2 hR
    rw [if_neg c18]
    by_cases c19 : v6 = 19
    · obtain ⟨v, μ1, μ2, e1, e2, hR⟩ := (st_wouldLeave (a := (xs (nI (4 * i) + 1).toNatClampNeg)) h hB).up (show i * 205000 + 5000 ≤ i * 205000 + 205000 by omega)
      simp only [g1, e1, q_bd, e2, if_pos c19, ↓reduceIte]
      exact go μ2 hR
    rw [if_neg c19]
    by_cases c20 : v6 = 20
    · obtain ⟨v, μ1, μ2, e1, e2, hR⟩ := (st_moves (a := (xs (nI (4 * i) + 1).toNatClampNeg)) h).up (show i * 205000 + 5000 ≤ i * 205000 + 205000 by omega)
      simp only [g1, e1, q_bd, e2, if_pos c20, ↓reduceIte]
      exact go μ2 hR
    rw [if_neg c20]
    by_cases c21 : v6 = 21
    · obtain ⟨v, μ1, μ2, e1, e2, hR⟩ := (st_roomFor h).up (show i * 205000 + 5000 ≤ i * 205000 + 205000 by omega)
      simp only [e1, q_bd, e2, if_pos c21, ↓reduceIte]
      exact go μ2 hR
    rw [if_neg c21]
    by_cases c22 : v6 = 22
    · obtain ⟨v, μ1, μ2, e1, e2, hR⟩ := (st_buried h).up (show i * 205000 + 5000 ≤ i * 205000 + 205000 by omega)
      simp only [e1, q_bd, e2, if_pos c22, ↓reduceIte]
      exact go μ2 hR
    rw [if_neg c22]
    by_cases c23 : v6 = 23
    · obtain ⟨v, μ1, μ2, e1, e2, hR⟩ := (st_put (a := ((shlL ((xs (nI (4 * i) + 1).toNatClampNeg).toInt64) 32) ||| (((xs (nI (4 * i) + 2).toNatClampNeg).toInt64) &&& 4294967295))) h).up (show i * 205000 + 5000 ≤ i * 205000 + 205000 by omega)
      simp only [g1, g2, e1, q_bd, e2, if_pos c23, ↓reduceIte]
      exact go μ2 hR
    rw [if_neg c23]
    by_cases c24 : v6 = 24
    · obtain ⟨v, μ1, μ2, e1, e2, hR⟩ := (st_wipe h).up (show i * 205000 + 5000 ≤ i * 205000 + 205000 by omega)
      simp only [e1, q_bd, e2, if_pos c24, ↓reduceIte]
      exact go μ2 hR
    rw [if_neg c24]
    by_cases c25 : v6 = 25
    · obtain ⟨v, μ1, μ2, e1, e2, hR⟩ := hFa μ _ h hB
      simp only [e1, q_bd, e2, if_pos c25, ↓reduceIte]
      exact go μ2 hR
    rw [if_neg c25]
    by_cases c26 : v6 = 26
    · obtain ⟨v, μ1, μ2, e1, e2, hR⟩ := hCo μ _ h hB
      simp only [e1, q_bd, e2, if_pos c26, ↓reduceIte]
      exact go μ2 hR
    rw [if_neg c26]
    by_cases c27 : v6 = 27
    · obtain ⟨v, μ1, μ2, e1, e2, hR⟩ := (st_undo h).up (show i * 205000 + 5000 ≤ i * 205000 + 205000 by omega)
      simp only [e1, q_bd, e2, if_pos c27, ↓reduceIte]
      exact go μ2 hR
    rw [if_neg c27]
    by_cases c28 : v6 = 28
    · obtain ⟨v, μ1, μ2, e1, e2, hR⟩ := (st_save (a := (xs (nI (4 * i) + 1).toNatClampNeg)) h).up (show i * 205000 + 5000 ≤ i * 205000 + 205000 by omega)
      simp only [g1, e1, q_bd, e2, if_pos c28, ↓reduceIte]
      exact go μ2 hR
    rw [if_neg c28]
    by_cases c29 : v6 = 29
    · obtain ⟨v, μ1, μ2, e1, e2, hR⟩ := (st_restore (a := (xs (nI (4 * i) + 1).toNatClampNeg)) h hB).up (show i * 205000 + 5000 ≤ i * 205000 + 205000 by omega)
      simp only [g1, e1, q_bd, e2, if_pos c29, ↓reduceIte]
      exact go μ2 hR
    rw [if_neg c29]
    exact go μ (h.up (by omega))
