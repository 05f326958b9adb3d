def sPull (y : yT) (a b : Int32) : Int32 × yT :=
  if isT y a = true then (if b < 1 ∨ 30 < b then (-2, y) else if canP y a.toNatClampNeg b.toNatClampNeg = true then (nI ((y.2.1 8).length + b.toNatClampNeg), sDraw y a.toNatClampNeg b.toNatClampNeg) else (-5, y)) else (-1, y)
def sPush (y : yT) (a b : Int32) : Int32 × yT :=
  if isT y a = true then (if b < 1 ∨ 30 < b then (-2, y) else if canQ y a.toNatClampNeg b.toNatClampNeg = true then (nI ((y.2.1 8).length - b.toNatClampNeg), sBring y a.toNatClampNeg b.toNatClampNeg) else (-5, y)) else (-1, y)
def sRound (y : yT) : Int32 × yT := if canR y = true then ((sRnd y).1 0 6, sRnd y) else (-5, y)
def sPass (y : yT) (a : Int32) : Int32 × yT := if a < 1 ∨ 999 < a then (-2, y) else (y.1 0 6 + a, ctm y (y.1 0 6 + a))
theorem b30 {b : Int32} (h : ¬ (b < 1 ∨ 30 < b)) : ∃ n, 1 ≤ n ∧ n ≤ 30 ∧ b = nI n := by
  have h0 : ¬ b < 0 := fun q => h (Or.inl (Int32.lt_of_lt_of_le q (by decide)))
  obtain ⟨n, hn, e⟩ := nI_of2 (M := 30) (n := 30) (by decide) h0 (Int32.not_lt.mp (fun q => h (Or.inr q)))
  refine ⟨n, ?_, hn, e⟩
  rcases Nat.eq_zero_or_pos n with rfl | q
  · exact absurd (Or.inl (by rw [e]; decide)) h
  · exact q
theorem k_takeOut {j nt nw tm B : Nat} {a b : Int32} {y : yT} {μ : mT} (h : cY μ j y) (hi : iY y nt nw tm B) :
    ∃ μ', f_X6_takeOut j a b μ = some ((sPull y a b).1, μ') ∧ cY μ' j (sPull y a b).2 ∧ only μ μ' (Yd j) := by
  unfold f_X6_takeOut sPull
  rw [k_hasTrack h.1, q_bd]
  by_cases ht : isT y a = true
  · obtain ⟨t, ht1, rfl⟩ := isT_in hi.hnt hi.nt8 ht
    have hn8 := hi.nt8
    rw [if_pos ht, if_neg (by decide), if_pos ht]
    by_cases hb : b < 1 ∨ 30 < b
    · rw [if_pos hb]
      refine ⟨μ, ?_, h, only.rf⟩
      by_cases h1 : b < 1
      · rw [if_pos h1]
      · rw [if_neg h1, if_neg (Int32.not_le.mpr (hb.resolve_left h1))]
    · rw [if_neg hb, if_neg (fun q => hb (Or.inl q)), if_pos (Int32.not_lt.mp (fun q => hb (Or.inr q)))]
      obtain ⟨n, n1, n2, rfl⟩ := b30 hb
      rw [k_canTakeOut h hi.rOK (by omega) (by omega), q_bd, q_cl (by omega), q_cl (by omega)]
      by_cases hc : canP y t n = true
      · rw [if_pos hc, if_pos hc, if_neg (by decide)]
        have hle : n ≤ (y.2.1 t).length := by
          unfold canP at hc
          rw [Bool.and_eq_true, decide_eq_true_eq] at hc
          exact hc.1
        obtain ⟨μ', g1, g2, g3⟩ := k_drawOut h hi.g (t := t) (by omega) hle
        refine ⟨μ', ?_, g2, g3⟩
        rw [g1]
        rfl
      · rw [if_neg hc, if_neg hc, if_pos rfl]
        exact ⟨μ, rfl, h, only.rf⟩
  · rw [if_neg ht, if_neg ht, if_pos rfl]
    exact ⟨μ, rfl, h, only.rf⟩
theorem k_bringIn {j nt nw tm B : Nat} {a b : Int32} {y : yT} {μ : mT} (h : cY μ j y) (hi : iY y nt nw tm B) :
    ∃ μ', f_X6_bringIn j a b μ = some ((sPush y a b).1, μ') ∧ cY μ' j (sPush y a b).2 ∧ only μ μ' (Yd j) := by
  unfold f_X6_bringIn sPush
  rw [k_hasTrack h.1, q_bd]
  by_cases ht : isT y a = true
  · obtain ⟨t, ht1, rfl⟩ := isT_in hi.hnt hi.nt8 ht
    have hn8 := hi.nt8
    have ht8 : t < 8 := by omega
    rw [if_pos ht, if_neg (by decide), if_pos ht]
    by_cases hb : b < 1 ∨ 30 < b
    · rw [if_pos hb]
      refine ⟨μ, ?_, h, only.rf⟩
      by_cases h1 : b < 1
      · rw [if_pos h1]
      · rw [if_neg h1, if_neg (Int32.not_le.mpr (hb.resolve_left h1))]
    · rw [if_neg hb, if_neg (fun q => hb (Or.inl q)), if_pos (Int32.not_lt.mp (fun q => hb (Or.inr q)))]
      obtain ⟨n, n1, n2, rfl⟩ := b30 hb
      rw [k_canBringIn h hi.rOK (by omega) (by omega), q_bd, q_cl (by omega), q_cl (by omega)]
      by_cases hc : canQ y t n = true
      · rw [if_pos hc, if_pos hc, if_neg (by decide)]
        have hle : n ≤ (y.2.1 8).length := by
          unfold canQ at hc
          rw [Bool.and_eq_true, decide_eq_true_eq] at hc
          exact hc.1
        have h30 := (hi.rOK t (by omega)).1
        have h308 := (hi.rOK 8 (by omega)).1
        obtain ⟨μ1, a1, a2, a3⟩ := k_shiftB h.2.1 hi.rOK hi.tot ht8 hle
        have hY2 : cY μ1 j (y.1, rwB y.2.1 t n, y.2.2) := ⟨h.1.cong (fun κ _ _ _ => a3 κ j (by omega)), a2, h.2.2.1.cong (a3 _ j (by omega)) (a3 _ j (by omega)) (a3 _ j (by omega)), h.2.2.2.cong (a3 _ j (by omega)) (a3 _ j (by omega)) (a3 _ j (by omega)) (a3 _ j (by omega))⟩
        have hY3 := hY2.up (a0 := 3) (k0 := t) (κ := 7) (k' := t) (y.1 3 t + nI n) (sdt (by omega) ht8) (by decide) rfl rfl (by omega)
        have e73 : μ1 7 j t = y.1 3 t := hY2.1.t3 ht8
        obtain ⟨μ4, d1, d2, d3⟩ := k_makeMove (m := y.1 0 2) (jn := jB y t) hY3 hi.bl
        have e42 : (upM μ1 7 j t (y.1 3 t + nI n)) 4 j (2 : Int32).toNatClampNeg = y.1 0 2 := by
          show (upM μ1 7 j t (y.1 3 t + nI n)) 4 j 2 = y.1 0 2
          rw [q_up, if_neg (by omega)]
          exact hY2.1.set (by omega)
        have e8 : μ4 11 j 8 = nI ((y.2.1 8).length - n) := by
          rw [cRow.nl d2.2.1 (by omega)]
          show nI (rwB y.2.1 t n 8).length = _
          rw [rwB_8 ht8, List.length_take]
          congr 1
          omega
        have hj : jB y t = if nI (y.2.1 t).length ≤ 0 then 1 else 2 := by
          unfold jB
          by_cases q : (y.2.1 t).length = 0
          · rw [if_pos q, if_pos]
            rw [q]
            decide
          · rw [if_neg q, if_neg]
            rw [z_l0]
            exact nI_ge (by omega) (by omega)
        have hfin : lt (fun (v8 : Int32) (μ9 : mT) => bd (f_X5_shift j 8 (nI t) (nI n) μ9) (fun _ μ11 => gd (inb (nI t) 8) (gd (inb (nI t) 8) (lt (upM μ11 7 j t ((μ11 7 j t) + nI n)) (fun μ12 => bd (f_X6_makeMove j (μ12 4 j (2 : Int32).toNatClampNeg) v8 μ12) (fun _ μ14 => bd (f_X5_manyIn j 8 μ14) (fun v15 μ16 => some (v15, μ16)))))))) (fun J7 => J7 (jB y t) μ) = some (nI ((y.2.1 8).length - n), μ4) := by
          rw [q_lt]
          dsimp only
          rw [a1, q_bd, q_gdi ht8 (by omega), q_gdi ht8 (by omega), e73, q_lt, e42, d1, q_bd, z_l8, k_manyIn (by omega), q_bd, e8]
        refine ⟨μ4, ?_, d2, (a3.w (by unfold Yd; omega)).tr (only.tr ((q_uple rfl).w (by unfold Yd; omega)) d3)⟩
        rw [k_manyIn (by omega), q_bd, cRow.nl h.2.1 (by omega)]
        rw [q_lt] at hfin ⊢
        dsimp only at hfin ⊢
        split
        · rename_i q
          rw [if_pos q] at hj
          rw [hj] at hfin
          exact hfin
        · rename_i q
          rw [if_neg q] at hj
          rw [hj] at hfin
          exact hfin
      · rw [if_neg hc, if_neg hc, if_pos rfl]
        exact ⟨μ, rfl, h, only.rf⟩
  · rw [if_neg ht, if_neg ht, if_pos rfl]
    exact ⟨μ, rfl, h, only.rf⟩
theorem k_goRound {j nt nw tm B : Nat} {y : yT} {μ : mT} (h : cY μ j y) (hi : iY y nt nw tm B) :
    ∃ μ', f_X6_goRound j μ = some ((sRound y).1, μ') ∧ cY μ' j (sRound y).2 ∧ only μ μ' (Yd j) := by
  unfold f_X6_goRound sRound
  rw [k_canGoRound h hi.rOK, q_bd]
  by_cases hc : canR y = true
  · rw [if_pos hc, if_pos hc, if_neg (by decide)]
    have c8 : cRow μ j 8 (y.2.1 8) := by
      have := h.2.1 8 (by omega)
      unfold cw at this
      rwa [if_pos rfl] at this
    obtain ⟨μ1, a1, a2, a3, a4⟩ := k_turnEngine (j := j) (hi.rOK 8 (by omega)).1 c8
    have hY2 : cY μ1 j (y.1, rwR y.2.1, y.2.2) := by
      refine ⟨h.1.cong (fun κ _ _ _ => a4 κ j (by omega)), fun r hr => ?_, h.2.2.1.cong (a4 _ j (by omega)) (a4 _ j (by omega)) (a4 _ j (by omega)), h.2.2.2.cong (a4 _ j (by omega)) (a4 _ j (by omega)) (a4 _ j (by omega)) (a4 _ j (by omega))⟩
      show cRow μ1 j r (cw r (rwR y.2.1 r))
      unfold rwR
      by_cases e : r = 8
      · subst e
        unfold cw
        rw [if_pos rfl, if_pos rfl]
        exact a2
      · rw [if_neg e]
        exact a3 r _ (by omega) (rwl hi.rOK hr) (h.2.1 r hr)
    have e44 : μ1 4 j (4 : Int32).toNatClampNeg = y.1 0 4 := hY2.1.set (k := 4) (by omega)
    obtain ⟨μ4, d1, d2, d3⟩ := k_makeMove (m := y.1 0 4) (jn := 2) hY2 hi.bl
    refine ⟨μ4, ?_, d2, (a4.w (by unfold Yd; omega)).tr d3⟩
    rw [a1, q_bd, e44, d1, q_bd, d2.1.minute]
    rfl
  · rw [if_neg hc, if_neg hc, if_pos rfl]
    exact ⟨μ, rfl, h, only.rf⟩
theorem k_letPass {j nt nw tm B : Nat} {a : Int32} {y : yT} {μ : mT} (h : cY μ j y) (hi : iY y nt nw tm B) :
    ∃ μ', f_X6_letPass j a μ = some ((sPass y a).1, μ') ∧ cY μ' j (sPass y a).2 ∧ only μ μ' (Yd j) := by
  unfold f_X6_letPass sPass
  by_cases hb : a < 1 ∨ 999 < a
  · rw [if_pos hb]
    refine ⟨μ, ?_, h, only.rf⟩
    by_cases h1 : a < 1
    · rw [if_pos h1]
    · rw [if_neg h1, if_neg (Int32.not_le.mpr (hb.resolve_left h1))]
  · rw [if_neg hb, if_neg (fun q => hb (Or.inl q)), if_pos (Int32.not_lt.mp (fun q => hb (Or.inr q)))]
    obtain ⟨μ', g1, g2, g3⟩ := k_comeTo (t := y.1 0 6 + a) h hi.bl
    refine ⟨μ', ?_, g2, g3⟩
    rw [h.1.minute, g1, q_bd, g2.1.minute]
    rfl
def sSet (y : yT) (a b : Int32) : Int32 × yT :=
  if a < 0 ∨ 6 ≤ a then (-2, y) else if b < cst 40 a.toNatClampNeg ∨ cst 41 a.toNatClampNeg < b then (-2, y) else (y.1 0 a.toNatClampNeg, (sU y.1 0 a.toNatClampNeg b, y.2))
theorem k_changeSetting {j nt nw tm B : Nat} {a b : Int32} {y : yT} {μ : mT} (h : cY μ j y) (hi : iY y nt nw tm B) :
    ∃ μ', f_X6_changeSetting j a b μ = some ((sSet y a b).1, μ') ∧ cY μ' j (sSet y a b).2 ∧ only μ μ' (Yd j) := by
  unfold f_X6_changeSetting sSet
  by_cases ha : a < 0 ∨ 6 ≤ a
  · rw [if_pos ha]
    refine ⟨μ, ?_, h, only.rf⟩
    by_cases h1 : a < 0
    · rw [if_pos h1]
    · rw [if_neg h1, if_neg (Int32.not_lt.mpr (ha.resolve_left h1))]
  · rw [if_neg ha, if_neg (fun q => ha (Or.inl q)), if_pos (Int32.not_le.mp (fun q => ha (Or.inr q)))]
    obtain ⟨k, hk, rfl⟩ := nI_of (fun q => ha (Or.inl q))
    have hk6 : k < 6 := by
      rcases Nat.lt_or_ge k 6 with q | q
      · exact q
      · exact absurd (Or.inr (nI_le q hk)) ha
    rw [q_gdi hk6 (by omega), q_cl hk]
    by_cases hb : b < cst 40 k ∨ cst 41 k < b
    · rw [if_pos hb]
      refine ⟨μ, ?_, h, only.rf⟩
      by_cases h1 : b < cst 40 k
      · rw [if_pos h1]
      · rw [if_neg h1, q_gdi hk6 (by omega), if_neg (Int32.not_le.mpr (hb.resolve_left h1))]
    · rw [if_neg hb, if_neg (fun q => hb (Or.inl q)), q_gdi hk6 (by omega), if_pos (Int32.not_lt.mp (fun q => hb (Or.inr q))), q_gdi hk6 (by omega), q_lt, q_gdi hk6 (by omega), q_lt, h.1.set hk6]
      exact ⟨_, rfl, h.up b (sd0 (by omega)) (by decide) (by unfold cκ; rw [if_pos rfl, if_pos hk6]) (by unfold ck; rw [if_pos rfl, if_pos hk6]) (by omega), (q_uple rfl).w (by unfold Yd; omega)⟩
def sTrack (y : yT) (a : Int32) : Int32 × yT :=
  if a < 4 ∨ 60 < a then (-2, y) else if 8 ≤ y.1 0 7 then (-4, y) else (y.1 0 7, (sU (sU y.1 1 (y.1 0 7).toNatClampNeg a) 0 7 (y.1 0 7 + 1), y.2))
theorem k_addTrack {j nt nw tm B : Nat} {a : Int32} {y : yT} {μ : mT} (h : cY μ j y) (hi : iY y nt nw tm B) :
    ∃ μ', f_X6_addTrack j a μ = some ((sTrack y a).1, μ') ∧ cY μ' j (sTrack y a).2 ∧ only μ μ' (Yd j) := by
  unfold f_X6_addTrack sTrack
  by_cases ha : a < 4 ∨ 60 < a
  · rw [if_pos ha]
    refine ⟨μ, ?_, h, only.rf⟩
    by_cases h1 : a < 4
    · rw [if_pos h1]
    · rw [if_neg h1, if_neg (Int32.not_le.mpr (ha.resolve_left h1))]
  · rw [if_neg ha, if_neg (fun q => ha (Or.inl q)), if_pos (Int32.not_lt.mp (fun q => ha (Or.inr q))), h.1.tracks]
    by_cases h8 : 8 ≤ y.1 0 7
    · rw [if_pos h8, if_neg (Int32.not_lt.mpr h8)]
      exact ⟨μ, rfl, h, only.rf⟩
    · rw [if_neg h8, if_pos (Int32.not_le.mp h8), hi.hnt]
      have hn8 := hi.nt8
      have hlt : nt < 8 := by
        rcases Nat.lt_or_ge nt 8 with q | q
        · exact q
        · rw [hi.hnt, z_l8] at h8
          exact absurd (nI_le q (by omega)) h8
      rw [q_gdi hlt (by omega), q_cl (by omega), q_lt]
      have h1 := h.up (a0 := 1) (k0 := nt) (κ := 5) (k' := nt) a (sdt (by omega) hlt) (by decide) rfl rfl (by omega)
      have h2 := h1.up (a0 := 0) (k0 := 7) (κ := 0) (k' := 7) (nI nt + 1) (sd0 (by omega)) (by decide) rfl rfl (by omega)
      refine ⟨_, ?_, h2, only.tr ((q_uple rfl).w (by unfold Yd; omega)) ((q_uple rfl).w (by unfold Yd; omega))⟩
      have e1 : (upM μ 5 j nt a) 0 j 7 = nI nt := by rw [q_up, if_neg (by omega), h.1.tracks, hi.hnt]
      rw [e1, q_lt, h2.1.tracks]
      dsimp only
      rw [sU_s, Int32.add_sub_cancel]
def sWagon (y : yT) (a b : Int32) : Int32 × yT :=
  if isT y a = true then (if b < 1 ∨ 4 < b then (-2, y) else if 30 ≤ y.1 0 8 then (-4, y) else if y.1 1 a.toNatClampNeg < ssum (y.1 4) (y.2.1 a.toNatClampNeg) + b then (-5, y)
    else (y.1 0 8, (sU (sU (sU y.1 0 8 (y.1 0 8 + 1)) 4 (y.1 0 8).toNatClampNeg b) 5 (y.1 0 8).toNatClampNeg (-6), fun r => if r = a.toNatClampNeg then (y.1 0 8).toNatClampNeg :: y.2.1 r else y.2.1 r, y.2.2))) else (-1, y)
theorem k_addWagon {j nt nw tm B : Nat} {a b : Int32} {y : yT} {μ : mT} (h : cY μ j y) (hi : iY y nt nw tm B) :
    ∃ μ', f_X6_addWagon j a b μ = some ((sWagon y a b).1, μ') ∧ cY μ' j (sWagon y a b).2 ∧ only μ μ' (Yd j) := by
  unfold f_X6_addWagon sWagon
  rw [k_hasTrack h.1, q_bd]
  by_cases ht : isT y a = true
  · obtain ⟨t, ht1, rfl⟩ := isT_in hi.hnt hi.nt8 ht
    have hn8 := hi.nt8
    have ht8 : t < 8 := by omega
    rw [if_pos ht, if_neg (by decide), if_pos ht]
    by_cases hb : b < 1 ∨ 4 < b
    · rw [if_pos hb]
      refine ⟨μ, ?_, h, only.rf⟩
      by_cases h1 : b < 1
      · rw [if_pos h1]
      · rw [if_neg h1, if_neg (Int32.not_le.mpr (hb.resolve_left h1))]
    · rw [if_neg hb, if_neg (fun q => hb (Or.inl q)), if_pos (Int32.not_lt.mp (fun q => hb (Or.inr q))), h.1.wagons]
      by_cases h30 : 30 ≤ y.1 0 8
      · rw [if_pos h30, if_neg (Int32.not_lt.mpr h30)]
        exact ⟨μ, rfl, h, only.rf⟩
      · rw [if_neg h30, if_pos (Int32.not_le.mp h30), k_lenR h hi.rOK (by omega), q_bd, q_gdi ht8 (by omega), q_cl (by omega), h.1.t1 ht8]
        by_cases hf : y.1 1 t < ssum (y.1 4) (y.2.1 t) + b
        · rw [if_pos hf, if_neg (Int32.not_le.mpr hf)]
          exact ⟨μ, rfl, h, only.rf⟩
        · rw [if_neg hf, if_pos (Int32.not_lt.mp hf)]
          have hw30 := hi.nw30
          have hlt : nw < 30 := by
            rcases Nat.lt_or_ge nw 30 with q | q
            · exact q
            · rw [hi.hnw, z_l30] at h30
              exact absurd (nI_le q (by omega)) h30
          have hlt30 : (y.2.1 t).length < 30 := by
            have := hi.totn
            have := tot_one (rw := y.2.1) (r := t) (by omega)
            omega
          have e10 : μ 1 j 0 = nI nw := by rw [h.1.wagons, hi.hnw]
          obtain ⟨μ1, a1, a2, a3, a4, a5, a6, a7⟩ := k_wadd (j := j) (r := t) (x := b) (by omega) e10 hlt (l := cw t (y.2.1 t)) (by rw [cw_len]; exact hlt30) (h.2.1 t (by omega))
          refine ⟨μ1, ?_, ⟨fun a k hd hk => ?_, fun r hr => ?_, h.2.2.1.cong (a7 _ j (by omega)) (a7 _ j (by omega)) (a7 _ j (by omega)), h.2.2.2.cong (a7 _ j (by omega)) (a7 _ j (by omega)) (a7 _ j (by omega)) (a7 _ j (by omega))⟩, a7.w (by unfold Yd; omega)⟩
          · rw [a1, q_bd, hi.hnw]
          · rw [hi.hnw, q_cl (by omega)] at hk ⊢
            dsimp only at hk ⊢
            by_cases c1 : a = 5 ∧ k = nw
            · obtain ⟨rfl, rfl⟩ := c1
              have := hk rfl
              rw [sU_s] at this
              exact absurd this (by decide)
            · rw [sU_n c1]
              by_cases c2 : a = 4 ∧ k = nw
              · obtain ⟨rfl, rfl⟩ := c2
                rw [sU_s]
                show μ1 8 j k = b
                rw [a6 k, if_pos rfl]
              · rw [sU_n c2]
                by_cases c3 : a = 0 ∧ k = 8
                · obtain ⟨rfl, rfl⟩ := c3
                  rw [sU_s]
                  show μ1 1 j 0 = _
                  rw [a4]
                  exact nI_succ nw
                · rw [sU_n c3]
                  have hh := h.1 a k hd (fun e5 => by
                    have := hk e5
                    rw [sU_n (by omega), sU_n (by omega), sU_n (by omega)] at this
                    exact this)
                  by_cases c4 : a = 4
                  · subst c4
                    show μ1 8 j k = _
                    rw [a6 k, if_neg (fun e => c2 ⟨rfl, e⟩)]
                    exact hh
                  · by_cases c5 : a = 0 ∧ k = 10
                    · obtain ⟨rfl, rfl⟩ := c5
                      show μ1 1 j 1 = _
                      rw [a5]
                      exact hh
                    · rw [a7 _ j (by unfold cκ; unfold sdom at hd; grind)]
                      exact hh
          · rw [hi.hnw, q_cl (by omega)]
            dsimp only
            by_cases e : r = t
            · subst e
              rw [if_pos rfl]
              unfold cw at a2 ⊢
              rw [if_neg (by omega)] at a2 ⊢
              rw [List.reverse_cons]
              exact a2
            · rw [if_neg e]
              exact a3 r _ hr e (rwl hi.rOK hr) (h.2.1 r hr)
  · rw [if_neg ht, if_neg ht, if_pos rfl]
    exact ⟨μ, rfl, h, only.rf⟩
def sBlock (y : yT) (a b : Int32) : Int32 × yT :=
  if a < y.1 0 6 ∨ y.1 0 6 + 2000 < a ∨ b < 1 ∨ 500 < b then (-2, y) else if 10 ≤ y.2.2.1.length then (-4, y) else (nI (y.2.2.1.length + 1), (y.1, y.2.1, y.2.2.1 ++ [(a, a + b)], y.2.2.2))
theorem k_addBlock {j nt nw tm B : Nat} {a b : Int32} {y : yT} {μ : mT} (h : cY μ j y) (hi : iY y nt nw tm B) :
    ∃ μ', f_X6_addBlock j a b μ = some ((sBlock y a b).1, μ') ∧ cY μ' j (sBlock y a b).2 ∧ only μ μ' (Yd j) := by
  unfold f_X6_addBlock sBlock
  rw [h.1.minute]
  by_cases h1 : a < y.1 0 6
  · rw [if_pos h1, if_pos (Or.inl h1)]
    exact ⟨μ, rfl, h, only.rf⟩
  rw [if_neg h1]
  by_cases h2 : y.1 0 6 + 2000 < a
  · rw [if_pos h2, if_pos (Or.inr (Or.inl h2))]
    exact ⟨μ, rfl, h, only.rf⟩
  rw [if_neg h2]
  by_cases h3 : b < 1
  · rw [if_pos h3, if_pos (Or.inr (Or.inr (Or.inl h3)))]
    exact ⟨μ, rfl, h, only.rf⟩
  rw [if_neg h3]
  by_cases h4 : 500 < b
  · rw [if_neg (Int32.not_le.mpr h4), if_pos (Or.inr (Or.inr (Or.inr h4)))]
    exact ⟨μ, rfl, h, only.rf⟩
  rw [if_pos (Int32.not_lt.mp h4), if_neg (not_or.mpr ⟨h1, not_or.mpr ⟨h2, not_or.mpr ⟨h3, h4⟩⟩⟩)]
  have hl := hi.bl
  by_cases h5 : 10 ≤ y.2.2.1.length
  · rw [if_pos h5, h.2.2.1.1, z_l10, if_neg (Int32.not_lt.mpr (nI_le (a := 10) h5 (by omega)))]
    exact ⟨μ, rfl, h, only.rf⟩
  · rw [if_neg h5, h.2.2.1.1, z_l10, if_pos (nI_lt (b := 10) (by omega) (by omega))]
    obtain ⟨μ', g1, g2, g3⟩ := k_badd (x := a) (y := a + b) h.2.2.1 (by omega)
    refine ⟨μ', ?_, ⟨h.1.cong (fun κ _ _ _ => g3 κ j (by omega)), h.2.1.cong (g3 _ j (by omega)) (g3 _ j (by omega)), g2, h.2.2.2.cong (g3 _ j (by omega)) (g3 _ j (by omega)) (g3 _ j (by omega)) (g3 _ j (by omega))⟩, g3.w (by unfold Yd; omega)⟩
    rw [g1]
    rfl
