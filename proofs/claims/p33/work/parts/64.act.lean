theorem l_isAct {xs : Nat → Int32} {Ls nt B a : Nat} {μ : mT} (hL : Ls ≤ 260) (hl : LI nt B μ) (hnt : 1 ≤ nt) (hB : B < 800000000) (ha : a ≤ 1000) : Gd (f_L_isAct xs Ls (nI a) μ) (LI nt (B + 5000)) := by
  obtain ⟨y, nw, tm, h, hi, he, hz⟩ := hl
  have h8 := hi.nt8
  have hl8 := (hi.rOK 8 (by omega)).1
  have hl6 := hi.tok.1
  have k0 : nI a = nI a := rfl
  have k1 : nI a + 1 = nI (a + 1) := q_add a 1
  have k2 : nI a + 2 = nI (a + 2) := q_add a 2
  have k3 : nI a + 3 = nI (a + 3) := q_add a 3
  have k4 : nI a + 4 = nI (a + 4) := q_add a 4
  have k5 : nI a + 5 = nI (a + 5) := q_add a 5
  unfold f_L_isAct
  obtain ⟨u9, hu9, eu9⟩ := l_cellL (xs := xs) (n := 9) (nn := 9) μ hL k2 rfl (by omega) (by omega) (by omega)
  rw [c1 h hi, q_bm, eu9, q_bd]
  refine gd_lt (fun J5 hJ5 => ?_)
  have m5 : ∀ e, e ≤ 1 → Gd (J5 (nI e) μ) (LI nt (B + 5000)) := by
    intro e hee
    rw [hJ5]
    dsimp only
    rw [q_add]
    obtain ⟨t, ht, et⟩ := l_cellL (xs := xs) (nn := nI (nt + e)) μ hL k1 rfl (by omega) (by omega) (by omega)
    obtain ⟨u3, hu3, eu3⟩ := l_cellL (xs := xs) (n := 3) (nn := 3) μ hL k4 rfl (by omega) (by omega) (by omega)
    rw [et, q_bd, eu3, q_bd]
    refine gd_lt (fun J12 hJ12 => ?_)
    have m12 : ∀ c, 1 ≤ c → c ≤ 6 → Gd (J12 (nI c) μ) (LI nt (B + 5000)) := by
      intro c hc1 hc2
      rw [hJ12]
      dsimp only
      obtain ⟨v, hv, ev⟩ := l_cellL (xs := xs) (nn := nI c) μ hL k3 rfl (by omega) (by omega) (by omega)
      have e1v : 1 + nI v = nI (1 + v) := q_add 1 v
      obtain ⟨z, hz14, ez⟩ := l_cellL (xs := xs) (n := 14) (nn := 14) μ hL k0 rfl (by omega) (by omega) (by omega)
      rw [ev, q_bd, e1v, q_lt, ez, q_bd]
      have mpull : Gd (f_L_isPulled (nI t) (nI (1 + v)) μ) (LI nt (B + 5000)) := l_isPulled h hi he hz (by omega) (by omega) (by omega)
      have mpush : ∀ n, 1 ≤ n → n ≤ 30 → Gd (f_L_isPushed (nI t) (nI n) μ) (LI nt (B + 5000)) := fun n h1 h2 => l_isPushed h hi he hz (by omega) (by omega) ⟨h1, h2⟩
      obtain ⟨u2, hu2, eu2⟩ := l_cellL (xs := xs) (n := 2) (nn := 2) μ hL k2 rfl (by omega) (by omega) (by omega)
      have hd : z = 0 ∨ z = 1 ∨ z = 2 ∨ z = 3 ∨ z = 4 ∨ z = 5 ∨ z = 6 ∨ z = 7 ∨ z = 8 ∨ z = 9 ∨ z = 10 ∨ z = 11 ∨ z = 12 ∨ z = 13 := by omega
      rcases hd with rfl | rfl | rfl | rfl | rfl | rfl | rfl | rfl | rfl | rfl | rfl | rfl | rfl | rfl
      · rw [if_pos (show nI 0 = 0 from rfl)]
        exact gd_bdB mpull
      · rw [if_neg (show ¬ nI 1 = 0 by decide), if_pos (show nI 1 = 1 from rfl)]
        exact gd_bdB mpull
      · rw [if_neg (show ¬ nI 2 = 0 by decide), if_neg (show ¬ nI 2 = 1 by decide), if_pos (show nI 2 = 2 from rfl)]
        exact gd_bdB mpull
      · rw [if_neg (show ¬ nI 3 = 0 by decide), if_neg (show ¬ nI 3 = 1 by decide), if_neg (show ¬ nI 3 = 2 by decide), if_pos (show nI 3 = 3 from rfl)]
        exact gd_bdB mpull
      · rw [if_neg (show ¬ nI 4 = 0 by decide), if_neg (show ¬ nI 4 = 1 by decide), if_neg (show ¬ nI 4 = 2 by decide), if_neg (show ¬ nI 4 = 3 by decide), if_pos (show nI 4 = 4 from rfl)]
        rw [eu2, q_bd]
        by_cases q : nI u2 = 0
        · rw [if_pos q, c3 h hi, q_bm]
          by_cases q2 : (y.2.1 8).length = 0
          · rw [q2, if_pos (show nI 0 ≤ 0 by decide)]
            exact gd_bdB (mpush _ (by omega) (by omega))
          · rw [if_neg (show ¬ nI (y.2.1 8).length ≤ 0 from fun z => nI_ge (a := 0) (b := (y.2.1 8).length) (by omega) (by omega) z), c3 h hi, q_bm]
            exact gd_bdB (mpush _ (by omega) (by omega))
        · rw [if_neg q]
          exact gd_bdB (mpush _ (by omega) (by omega))
      · rw [if_neg (show ¬ nI 5 = 0 by decide), if_neg (show ¬ nI 5 = 1 by decide), if_neg (show ¬ nI 5 = 2 by decide), if_neg (show ¬ nI 5 = 3 by decide), if_neg (show ¬ nI 5 = 4 by decide), if_pos (show nI 5 = 5 from rfl)]
        rw [eu2, q_bd]
        by_cases q : nI u2 = 0
        · rw [if_pos q, c3 h hi, q_bm]
          by_cases q2 : (y.2.1 8).length = 0
          · rw [q2, if_pos (show nI 0 ≤ 0 by decide)]
            exact gd_bdB (mpush _ (by omega) (by omega))
          · rw [if_neg (show ¬ nI (y.2.1 8).length ≤ 0 from fun z => nI_ge (a := 0) (b := (y.2.1 8).length) (by omega) (by omega) z), c3 h hi, q_bm]
            exact gd_bdB (mpush _ (by omega) (by omega))
        · rw [if_neg q]
          exact gd_bdB (mpush _ (by omega) (by omega))
      · rw [if_neg (show ¬ nI 6 = 0 by decide), if_neg (show ¬ nI 6 = 1 by decide), if_neg (show ¬ nI 6 = 2 by decide), if_neg (show ¬ nI 6 = 3 by decide), if_neg (show ¬ nI 6 = 4 by decide), if_neg (show ¬ nI 6 = 5 by decide), if_pos (show nI 6 = 6 from rfl)]
        rw [eu2, q_bd]
        by_cases q : nI u2 = 0
        · rw [if_pos q, c3 h hi, q_bm]
          by_cases q2 : (y.2.1 8).length = 0
          · rw [q2, if_pos (show nI 0 ≤ 0 by decide)]
            exact gd_bdB (mpush _ (by omega) (by omega))
          · rw [if_neg (show ¬ nI (y.2.1 8).length ≤ 0 from fun z => nI_ge (a := 0) (b := (y.2.1 8).length) (by omega) (by omega) z), c3 h hi, q_bm]
            exact gd_bdB (mpush _ (by omega) (by omega))
        · rw [if_neg q]
          exact gd_bdB (mpush _ (by omega) (by omega))
      · rw [if_neg (show ¬ nI 7 = 0 by decide), if_neg (show ¬ nI 7 = 1 by decide), if_neg (show ¬ nI 7 = 2 by decide), if_neg (show ¬ nI 7 = 3 by decide), if_neg (show ¬ nI 7 = 4 by decide), if_neg (show ¬ nI 7 = 5 by decide), if_neg (show ¬ nI 7 = 6 by decide), if_pos (show nI 7 = 7 from rfl)]
        exact gd_bdB (l_isRound h hi he hz (by omega))
      · rw [if_neg (show ¬ nI 8 = 0 by decide), if_neg (show ¬ nI 8 = 1 by decide), if_neg (show ¬ nI 8 = 2 by decide), if_neg (show ¬ nI 8 = 3 by decide), if_neg (show ¬ nI 8 = 4 by decide), if_neg (show ¬ nI 8 = 5 by decide), if_neg (show ¬ nI 8 = 6 by decide), if_neg (show ¬ nI 8 = 7 by decide), if_pos (show nI 8 = 8 from rfl)]
        obtain ⟨t2, ht2, et2⟩ := l_cellL (xs := xs) (nn := nI nt) μ hL k1 rfl (by omega) (by omega) (by omega)
        obtain ⟨v4, hv4, ev4⟩ := l_cellL (xs := xs) (n := 4) (nn := 4) μ hL k3 rfl (by omega) (by omega) (by omega)
        have e1v4 : 1 + nI v4 = nI (1 + v4) := q_add 1 v4
        rw [c1 h hi, q_bm, et2, q_bd, ev4, q_bd, e1v4]
        obtain ⟨μ', y', nw', x1, x2, x3, x4, x5⟩ := l_isWagon (b := 1 + v4) h hi he (by omega) ht2 (by omega) hz
        exact gd_bdB ⟨μ', x1, y', nw', tm, x2, x3, x4, x5⟩
      · rw [if_neg (show ¬ nI 9 = 0 by decide), if_neg (show ¬ nI 9 = 1 by decide), if_neg (show ¬ nI 9 = 2 by decide), if_neg (show ¬ nI 9 = 3 by decide), if_neg (show ¬ nI 9 = 4 by decide), if_neg (show ¬ nI 9 = 5 by decide), if_neg (show ¬ nI 9 = 6 by decide), if_neg (show ¬ nI 9 = 7 by decide), if_neg (show ¬ nI 9 = 8 by decide), if_pos (show nI 9 = 9 from rfl)]
        obtain ⟨v4, hv4, ev4⟩ := l_cellL (xs := xs) (n := 4) (nn := 4) μ hL k5 rfl (by omega) (by omega) (by omega)
        rw [ev4, q_bd]
        refine gd_lt (fun J76 hJ76 => ?_)
        have m76 : ∀ g, 1 ≤ g → g ≤ 30 → Gd (J76 (nI g) μ) (LI nt (B + 5000)) := by
          intro g hg1 hg2
          rw [hJ76]
          dsimp only
          obtain ⟨w1, hw1, ew1⟩ := l_cellL (xs := xs) (nn := nI g) μ hL k2 rfl (by omega) (by omega) (by omega)
          obtain ⟨w2, hw2, ew2⟩ := l_cellL (xs := xs) (n := 3) (nn := 3) μ hL k3 rfl (by omega) (by omega) (by omega)
          obtain ⟨w3, hw3, ew3⟩ := l_cellL (xs := xs) (n := 4) (nn := 4) μ hL k4 rfl (by omega) (by omega) (by omega)
          obtain ⟨w4, hw4, ew4⟩ := l_cellL (xs := xs) (n := 200) (nn := 200) μ hL k5 rfl (by omega) (by omega) (by omega)
          have e1 : 1 + nI w2 = nI (1 + w2) := q_add 1 w2
          have e2 : 1 + nI w3 = nI (1 + w3) := q_add 1 w3
          rw [ew1, q_bd, ew2, q_bd, ew3, q_bd, ew4, q_bd, e1, e2]
          exact gd_bdB (l_isTrain h hi he hz (by omega) (by omega) (by omega) (by omega) (by omega))
        by_cases q : nI v4 = 0
        · rw [if_pos q]
          exact m76 30 (by omega) (by omega)
        · rw [if_neg q]
          exact m76 12 (by omega) (by omega)
      · rw [if_neg (show ¬ nI 10 = 0 by decide), if_neg (show ¬ nI 10 = 1 by decide), if_neg (show ¬ nI 10 = 2 by decide), if_neg (show ¬ nI 10 = 3 by decide), if_neg (show ¬ nI 10 = 4 by decide), if_neg (show ¬ nI 10 = 5 by decide), if_neg (show ¬ nI 10 = 6 by decide), if_neg (show ¬ nI 10 = 7 by decide), if_neg (show ¬ nI 10 = 8 by decide), if_neg (show ¬ nI 10 = 9 by decide), if_pos (show nI 10 = 10 from rfl)]
        obtain ⟨t2, ht2, et2⟩ := l_cellL (xs := xs) (nn := nI y.2.2.2.length + 1) μ hL k2 (nI_1 _) (by omega) (by omega) (by omega)
        rw [c6 h hi, q_bm, et2, q_bd]
        exact gd_bdB (l_isLeft h hi he hz (by omega) (by omega))
      · rw [if_neg (show ¬ nI 11 = 0 by decide), if_neg (show ¬ nI 11 = 1 by decide), if_neg (show ¬ nI 11 = 2 by decide), if_neg (show ¬ nI 11 = 3 by decide), if_neg (show ¬ nI 11 = 4 by decide), if_neg (show ¬ nI 11 = 5 by decide), if_neg (show ¬ nI 11 = 6 by decide), if_neg (show ¬ nI 11 = 7 by decide), if_neg (show ¬ nI 11 = 8 by decide), if_neg (show ¬ nI 11 = 9 by decide), if_neg (show ¬ nI 11 = 10 by decide), if_pos (show nI 11 = 11 from rfl)]
        obtain ⟨t2, ht2, et2⟩ := l_cellL (xs := xs) (nn := nI y.2.2.2.length + 1) μ hL k2 (nI_1 _) (by omega) (by omega) (by omega)
        rw [c6 h hi, q_bm, et2, q_bd]
        exact gd_bdB (l_isLeft h hi he hz (by omega) (by omega))
      · rw [if_neg (show ¬ nI 12 = 0 by decide), if_neg (show ¬ nI 12 = 1 by decide), if_neg (show ¬ nI 12 = 2 by decide), if_neg (show ¬ nI 12 = 3 by decide), if_neg (show ¬ nI 12 = 4 by decide), if_neg (show ¬ nI 12 = 5 by decide), if_neg (show ¬ nI 12 = 6 by decide), if_neg (show ¬ nI 12 = 7 by decide), if_neg (show ¬ nI 12 = 8 by decide), if_neg (show ¬ nI 12 = 9 by decide), if_neg (show ¬ nI 12 = 10 by decide), if_neg (show ¬ nI 12 = 11 by decide), if_pos (show nI 12 = 12 from rfl)]
        obtain ⟨w1, hw1, ew1⟩ := l_cellL (xs := xs) (n := 40) (nn := 40) μ hL k2 rfl (by omega) (by omega) (by omega)
        obtain ⟨w2, hw2, ew2⟩ := l_cellL (xs := xs) (n := 50) (nn := 50) μ hL k3 rfl (by omega) (by omega) (by omega)
        have e1 : 1 + nI w2 = nI (1 + w2) := q_add 1 w2
        obtain ⟨μ', x1, x2⟩ := l_block (a := w1) (b := 1 + w2) h hi he hz (by omega) (by omega) (by omega)
        rw [c8 h hi, q_bm, c0 h hi, q_bm, ew1, q_bd, ew2, q_bd, e1, hi.htm, nI_add, x1]
        refine gd_lt (fun J111 hJ111 => ?_)
        by_cases q : nI y.2.2.1.length = 10
        · rw [if_pos q] at hJ111 ⊢
          rw [hJ111]
          dsimp only
          rw [if_pos rfl]
          exact gd_some x2
        · rw [if_neg q] at hJ111 ⊢
          rw [hJ111]
          dsimp only
          rw [if_pos rfl]
          exact gd_some x2
      · rw [if_neg (show ¬ nI 13 = 0 by decide), if_neg (show ¬ nI 13 = 1 by decide), if_neg (show ¬ nI 13 = 2 by decide), if_neg (show ¬ nI 13 = 3 by decide), if_neg (show ¬ nI 13 = 4 by decide), if_neg (show ¬ nI 13 = 5 by decide), if_neg (show ¬ nI 13 = 6 by decide), if_neg (show ¬ nI 13 = 7 by decide), if_neg (show ¬ nI 13 = 8 by decide), if_neg (show ¬ nI 13 = 9 by decide), if_neg (show ¬ nI 13 = 10 by decide), if_neg (show ¬ nI 13 = 11 by decide), if_neg (show ¬ nI 13 = 12 by decide)]
        obtain ⟨w1, hw1, ew1⟩ := l_cellL (xs := xs) (n := 60) (nn := 60) μ hL k2 rfl (by omega) (by omega) (by omega)
        have e1 : 1 + nI w1 = nI (1 + w1) := q_add 1 w1
        rw [ew1, q_bd, e1]
        exact gd_bdB (l_isPassed h hi he hz (by omega) (by omega))
    by_cases q : nI u3 = 0
    · rw [if_pos q]
      exact m12 6 (by omega) (by omega)
    · rw [if_neg q]
      exact m12 3 (by omega) (by omega)
  by_cases q : nI u9 = 0
  · rw [if_pos q]
    exact m5 1 (by omega)
  · rw [if_neg q]
    exact m5 0 (by omega)
