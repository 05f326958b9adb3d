theorem sWagon_30 {y : yT} {nt tm B t b : Nat} (hi : iY y nt 30 tm B) (ht : t < nt) (hb : 1 ≤ b ∧ b ≤ 4) : sWagon y (nI t) (nI b) = (-4, y) := by
  have b1 : (1 : Int32) = nI 1 := rfl
  have b4 : (4 : Int32) = nI 4 := rfl
  have b30 : (30 : Int32) = nI 30 := rfl
  unfold sWagon
  rw [if_pos (isT_t hi.hnt hi.nt8 ht), if_neg (by rw [b1, b4, nI_ltI (by omega) (by omega), nI_ltI (by omega) (by omega)]; omega), hi.hnw, if_pos (by rw [b30]; exact Int32.le_refl _)]
theorem sWagon_ok {y : yT} {nt nw tm B t b : Nat} (hi : iY y nt nw tm B) (ht : t < nt) (hb : 1 ≤ b ∧ b ≤ 4) (hn : nw < 30) : sWagon y (nI t) (nI b) = if y.1 1 t < ssum (y.1 4) (y.2.1 t) + nI b then (-5, y) else (nI nw, (sU (sU (sU y.1 0 8 (y.1 0 8 + 1)) 4 nw (nI b)) 5 nw (-6), fun r => if r = t then nw :: y.2.1 r else y.2.1 r, y.2.2)) := by
  have b1 : (1 : Int32) = nI 1 := rfl
  have b4 : (4 : Int32) = nI 4 := rfl
  have b30 : (30 : Int32) = nI 30 := rfl
  have h8 := hi.nt8
  have e8 := hi.hnw
  unfold sWagon
  rw [if_pos (isT_t hi.hnt hi.nt8 ht), if_neg (by rw [b1, b4, nI_ltI (by omega) (by omega), nI_ltI (by omega) (by omega)]; omega), e8, if_neg (by rw [b30]; exact nI_ge hn (by omega)), q_cl (by omega), q_cl (by omega)]
theorem iY_wagon {y : yT} {nt nw tm B t b : Nat} (hi : iY y nt nw tm B) (hB : B < 1000000000) (ht : t < nt) (hb : 1 ≤ b ∧ b ≤ 4) (hn : nw < 30) (hf : ¬ y.1 1 t < ssum (y.1 4) (y.2.1 t) + nI b) :
    iY (sU (sU (sU y.1 0 8 (y.1 0 8 + 1)) 4 nw (nI b)) 5 nw (-6), fun r => if r = t then nw :: y.2.1 r else y.2.1 r, y.2.2) nt (nw + 1) tm (B + 5000) := by
  have h := kp_wagon (a := nI t) (b := nI b) (⟨nt, nw, tm, hi⟩ : kY y B)
  rw [sWagon_ok hi ht hb hn, if_neg hf] at h
  have := hi.tmB
  refine kY_id h (by omega) ?_ hi.nt8 ?_ (by omega) ?_ (by omega)
  · dsimp only
    rw [sU_n (by omega), sU_n (by omega), sU_n (by omega)]
    exact hi.hnt
  · dsimp only
    rw [sU_n (by omega), sU_n (by omega), sU_s, hi.hnw]
    exact nI_1 nw
  · dsimp only
    rw [sU_n (by omega), sU_n (by omega), sU_n (by omega)]
    exact hi.htm
theorem tFind_no {w : Nat} : ∀ {tn : List (Int32 × List Nat)} {k : Nat}, (∀ e ∈ tn, w ∉ e.2) → tFind w k tn = none
  | [], k, _ => rfl
  | e :: tn, k, h => by
    have h1 := h e List.mem_cons_self
    have h2 := tFind_no (tn := tn) (k := k + 1) (fun e' q => h e' (List.mem_cons_of_mem _ q))
    simp [tFind, h1, h2]
theorem l_isWagon {μ : mT} {y : yT} {nt nw tm B t b : Nat} (h : PR μ y) (hi : iY y nt nw tm B) (he : pE y nw tm) (hB : B < 1000000000) (ht : t < nt) (hb : 1 ≤ b ∧ b ≤ 4) (h6 : ∀ w, nw ≤ w → w < 30 → y.1 6 w = 0) :
    ∃ μ' y' nw', f_L_isWagon (nI t) (nI b) μ = some (1, μ') ∧ PR μ' y' ∧ iY y' nt nw' tm (B + 5000) ∧ pE y' nw' tm ∧ ∀ w, nw' ≤ w → w < 30 → y'.1 6 w = 0 := by
  have h8 := hi.nt8
  have h30 := hi.nw30
  have hl := (hi.rOK t (by omega)).1
  obtain ⟨hc, hp, hh⟩ := h
  have h : PR μ y := ⟨hc, hp, hh⟩
  obtain ⟨μ', k1, k2, k3⟩ := PRc (kt_wagon (a := nI t) (b := nI b) hh hc hi)
  have e30 : (30 : Int32) = nI 30 := rfl
  unfold f_L_isWagon
  rw [c2 h hi, q_bm, o1 h hi ht, q_bm, o2 h hi ht, q_bm, o0 h hi ht, q_bm, q_lt]
  have key : ∀ f : Int32, (f = if y.1 1 t < ssum (y.1 4) (y.2.1 t) + nI b then 0 else 1) → ((if y.1 1 t < ssum (y.1 4) (y.2.1 t) + nI b then (0 : Int32) else 1) = f) := fun f e => e.symm
  by_cases hn : nw = 30
  · subst hn
    rw [sWagon_30 hi ht hb] at k1 k2
    dsimp only at k1 k2
    have hq : nI 30 = (30 : Int32) := rfl
    refine ⟨μ', y, 30, ?_, k2, hi.up (by omega), he, h6⟩
    by_cases c : y.1 1 t < ssum (y.1 4) (y.2.1 t) + nI b
    · rw [if_pos c]
      dsimp only
      rw [k1, q_lt, if_pos hq]
      dsimp only
      rw [q_lt, if_pos hq]
      dsimp only
      rw [if_pos rfl, o1 k2 hi ht, q_bm, if_pos rfl]
    · rw [if_neg c]
      dsimp only
      rw [k1, q_lt, if_pos hq]
      dsimp only
      rw [q_lt, if_pos hq]
      dsimp only
      rw [if_pos rfl, o1 k2 hi ht, q_bm, if_pos rfl]
  · have hn : nw < 30 := by omega
    have hn30 : ¬ nI nw = 30 := fun e => by
      have := nI_inj (by omega) (by omega) (e.trans e30)
      omega
    rw [sWagon_ok hi ht hb hn] at k1 k2
    by_cases c : y.1 1 t < ssum (y.1 4) (y.2.1 t) + nI b
    · rw [if_pos c] at k1 k2
      dsimp only at k1 k2
      refine ⟨μ', y, nw, ?_, k2, hi.up (by omega), he, h6⟩
      rw [if_pos c]
      dsimp only
      rw [k1, q_lt, if_neg hn30, if_pos rfl]
      dsimp only
      rw [q_lt, if_neg hn30]
      dsimp only
      rw [if_pos rfl, o1 k2 hi ht, q_bm, if_pos rfl]
    · rw [if_neg c] at k1 k2
      dsimp only at k1 k2
      have hi' := iY_wagon hi hB ht hb hn c
      have he' := pE_wagon hi he (by omega) hb c
      refine ⟨μ', _, nw + 1, ?_, k2, hi', he', fun w h1 h2 => ?_⟩
      · have e0 : f_X7_at (nI t) 0 μ' = some (nI nw, μ') := by
          have := att (p := 0) k2 hi' ht (by omega)
          rw [show nI 0 = (0 : Int32) from rfl] at this
          rw [this]
          dsimp only
          rw [if_pos rfl]
          rfl
        have e1 : f_X7_ofTrack (nI t) 1 μ' = some (nI (y.2.1 t).length + 1, μ') := by
          rw [o1 k2 hi' ht]
          dsimp only
          rw [if_pos rfl, List.length_cons, ← nI_1]
        have e2 : f_X7_ofWagon (nI nw) 0 μ' = some (nI b, μ') := by
          rw [v0 k2 hi' (by omega)]
          dsimp only
          rw [sU_n (by omega), sU_s]
        have e3 : f_X7_ofWagon (nI nw) 5 μ' = some (0, μ') := by
          rw [v5 k2 hi' (by omega)]
          dsimp only
          rw [sU_n (by omega), sU_n (by omega), sU_n (by omega), h6 nw (Nat.le_refl _) hn]
        have e4 : f_X7_ofWagon (nI nw) 6 μ' = some (-6, μ') := by
          rw [v6 k2 hi' (by omega)]
          dsimp only
          unfold tOf
          rw [tFind_no (fun e hm q => by
            have := (hi.2.2.2.2.2.2.2.2.2.2 e hm).2 nw q
            omega)]
        rw [if_neg c]
        dsimp only
        rw [k1, q_lt, if_neg hn30, if_neg (by decide), if_pos rfl, e0, q_bm, if_pos rfl, e1, q_bm, if_pos rfl, e2, q_bm, if_pos rfl, e3, q_bm, if_pos rfl, e4, q_bm, if_pos rfl]
      · dsimp only
        rw [sU_n (by omega), sU_n (by omega), sU_n (by omega)]
        exact h6 w (by omega) h2
