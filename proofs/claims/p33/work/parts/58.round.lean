section ROUND
variable {y : yT} {nt nw tm B : Nat}
theorem sRnd_0 {a k : Nat} (hk : ¬ (a = 0 ∧ (k = 6 ∨ k = 14 ∨ k = 15 ∨ k = 16))) : (sRnd y).1 a k = y.1 a k := by
  unfold sRnd
  rw [mvm_s hk]
theorem iY_round {tm' : Nat} (hi : iY y nt nw tm B) (hB : B < 1000000000) (hc : canR y = true) (h6 : (sRnd y).1 0 6 = nI tm') (h6' : tm' < 2147483648) : iY (sRnd y) nt nw tm' (B + 5000) := by
  have h := (kp_round (⟨nt, nw, tm, hi⟩ : kY y B) hB).1
  unfold sRound at h
  rw [if_pos hc] at h
  refine kY_id h (by omega) ?_ hi.nt8 ?_ hi.nw30 h6 h6'
  · rw [sRnd_0 (by omega)]; exact hi.hnt
  · rw [sRnd_0 (by omega)]; exact hi.hnw
theorem pE_round {tm' : Nat} (he : pE y nw tm) (hm : tm ≤ tm') : pE (sRnd y) nw tm' := by
  refine pE_of he (fun k hk => sRnd_0 (by omega)) (funext fun k => sRnd_0 (by omega)) (funext fun k => sRnd_0 (by omega)) (funext fun k => sRnd_0 (by omega)) rwR_tot (fun r w hr hw => ⟨r, hr, rwR_mem.mpr hw⟩) (fun t' ht' => ?_) hm
  show ¬ y.1 1 t' < ssum (y.1 4) (rwR y.2.1 t')
  unfold rwR
  rw [if_neg (by omega)]
  exact he.2.2.1 t' ht'
theorem rd_1 {μ : mT} {b2 b3 b4 b5 b6 b7 b8 : Int32} (h : PR μ (sRnd y)) (hi' : iY (sRnd y) nt nw tm B) (hl8 : (y.2.1 8).length ≤ 30) (hc : ∀ i w, (y.2.1 8)[i]? = some w → μ 60 0 i = nI w) : ∀ (dd f k : Nat), k + dd = (y.2.1 8).length → dd < f → ∀ K, f_L_isRound_L129 (nI (y.2.1 8).length) b2 b3 b4 b5 b6 b7 b8 K f (nI k) μ = K μ := by
  have e8 : (sRnd y).2.1 8 = (y.2.1 8).reverse := by
    show rwR y.2.1 8 = _
    unfold rwR
    rw [if_pos rfl]
  have o1 : (1 : Int32) = nI 1 := rfl
  intro dd
  induction dd with
  | zero =>
    intro f k hk hf K
    obtain ⟨f, rfl⟩ : ∃ n', f = n' + 1 := ⟨f - 1, by omega⟩
    rw [f_L_isRound_L129, if_pos (nI_le (by omega) (by omega))]
  | succ dd ih =>
    intro f k hk hf K
    obtain ⟨f, rfl⟩ : ∃ n', f = n' + 1 := ⟨f - 1, by omega⟩
    have e1 : (y.2.1 8)[(y.2.1 8).length - 1 - k]? = some (y.2.1 8)[(y.2.1 8).length - 1 - k] := List.getElem?_eq_getElem (by omega)
    have e2 : (y.2.1 8).reverse[k]? = some (y.2.1 8)[(y.2.1 8).length - 1 - k] := by
      rw [List.getElem?_reverse (by omega)]
      exact e1
    have es : nI (y.2.1 8).length - 1 - nI k = nI ((y.2.1 8).length - 1 - k) := by
      rw [o1, q_sub (by omega), q_sub (by omega)]
    rw [f_L_isRound_L129, if_neg (nI_ge (by omega) (by omega)), ae h hi' (by omega), e8, q_bm, es, q_gdi (by omega) (by omega), q_cl (by omega), hc _ _ e1, atN_at e2, if_pos rfl, q_lt, nI_1]
    exact ih f (k + 1) (by omega) (by omega) K
theorem canR_iff : canR y = true ↔ y.2.1 8 ≠ [] ∧ ¬ y.1 0 1 < ssum (y.1 4) (y.2.1 8) := by
  unfold canR
  rw [Bool.and_eq_true, Bool.not_eq_true', Bool.not_eq_true', decide_eq_false_iff_not, List.isEmpty_eq_false_iff]
theorem l_isRound {μ : mT} (h : PR μ y) (hi : iY y nt nw tm B) (he : pE y nw tm) (hz : pZ y nw) (hB : B < 900000000) : Gd (f_L_isRound μ) (LI nt (B + 5000)) := by
  have hl8 := (hi.rOK 8 (by omega)).1
  unfold f_L_isRound
  rw [q_lt]
  obtain ⟨μ2, a1, b2, a3, a4⟩ := l_rowE (ka := 60) (h.upr (ka := 60) (by omega) (fun _ => 0)) hi (by omega)
  rw [a1, q_bd]
  refine gd_lt (fun J5 hJ5 => ?_)
  have main : ∀ cb : Int32, cb = (if canR y = true then 1 else 0) → Gd (J5 cb μ2) (LI nt (B + 5000)) := by
    intro cb hcb
    rw [hJ5]
    dsimp only
    obtain ⟨W, T, w1, w2, w3, w4, w5, w6, w7, w8, w9⟩ := mv_all (z := (y.1, rwR y.2.1, y.2.2)) (a := 9) (m := y.1 0 4) (j := 2) hi he (by omega) (fun k => rfl) rfl (by omega) he.1.2.2 (by omega)
    have e2 : (2 : Int32) = nI 2 := rfl
    rw [c19 b2 hi, q_bm, c18 b2 hi, q_bm, e2, w1, q_lt, c0 b2 hi, q_bm, ff b2 hi (by omega) (by omega), q_bm, c9 b2 hi, q_bm, c10 b2 hi, q_bm, c11 b2 hi, q_bm]
    obtain ⟨hb1, hb2, hb3⟩ := b2
    have b2 : PR μ2 y := ⟨hb1, hb2, hb3⟩
    obtain ⟨μ', k1, k2, k3⟩ := PRc (kt_round hb3 hb1 hi)
    unfold sRound at k1 k2
    by_cases hcp : canR y = true
    · rw [if_pos hcp] at k1 k2 hcb
      dsimp only at k1 k2
      subst hcb
      have ed : sRnd y = mvm (y.1, rwR y.2.1, y.2.2) (y.1 0 4) (nI 2) := rfl
      have h6 : (sRnd y).1 0 6 = nI (T + W) := by rw [ed]; exact w9
      have hi' := iY_round hi (by omega) hcp h6 (by omega)
      have he' := pE_round (tm' := T + W) he (by omega)
      have hz' : pZ (sRnd y) nw := fun w h1 h2 => by rw [sRnd_0 (by omega)]; exact hz w h1 h2
      have d60 : ∀ i w, (y.2.1 8)[i]? = some w → μ' 60 0 i = nI w := fun i w hw => by rw [k3 60 (by omega)]; exact a4 i w hw
      have e8 : ((sRnd y).2.1 8).length = (y.2.1 8).length := by
        show (rwR y.2.1 8).length = _
        exact rwR_len
      rw [k1, if_neg (by decide), q_lt]
      rw [show (0 : Int32) = nI 0 from rfl, rd_1 k2 hi' hl8 d60 (y.2.1 8).length fu 0 (by omega) (by unfold fu; omega)]
      rw [show nI 0 = (0 : Int32) from rfl, c0 k2 hi', q_bm, if_pos rfl, c3 k2 hi', q_bm, e8, if_pos rfl]
      rw [l_timed k2 hi' (by rw [h6, w6, nI_add]) (by rw [ed, mvm_14]) (by rw [ed, mvm_15]) (by rw [ed, mvm_16, w5, w6]; exact i_as _ _ _), q_bd, if_neg (by decide)]
      exact gd_some ⟨_, nw, T + W, k2, hi', he', hz'⟩
    · rw [if_neg hcp] at k1 k2 hcb
      dsimp only at k1 k2
      subst hcb
      rw [k1, if_pos rfl, if_pos rfl, c0 k2 hi, q_bm, if_pos rfl]
      exact gd_some ⟨y, nw, tm, k2, hi.up (by omega), he, hz⟩
  refine gd_lt (fun J40 hJ40 => ?_)
  by_cases c : (y.2.1 8).length = 0
  · rw [c, if_pos (by decide), hJ40]
    dsimp only
    exact main 0 (by rw [if_neg (fun z => (canR_iff.mp z).1 (List.length_eq_zero_iff.mp c))])
  · rw [if_neg (show ¬ nI (y.2.1 8).length ≤ 0 from fun z => nI_ge (a := 0) (b := (y.2.1 8).length) (by omega) (by omega) z), c4 b2 hi, q_bm, c16 b2 hi, q_bm]
    by_cases q : y.1 0 1 < ssum (y.1 4) (y.2.1 8)
    · rw [if_pos q, hJ40]
      dsimp only
      exact main 0 (by rw [if_neg (fun z => (canR_iff.mp z).2 q)])
    · rw [if_neg q]
      exact main 1 (by rw [if_pos (canR_iff.mpr ⟨fun z => c (by rw [z]; rfl), q⟩)])
end ROUND
