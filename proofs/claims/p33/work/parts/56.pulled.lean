section PULLED
variable {y : yT} {nt nw tm B t n : Nat}
theorem sDraw_f {a k : Nat} (h : a ≠ 0 ∧ a ≠ 2 ∧ a ≠ 6) : (sDraw y t n).1 a k = y.1 a k := by
  unfold sDraw
  rw [mvm_s (by omega)]
  unfold dO nP
  dsimp only
  rw [sU_n (by omega), if_neg (by omega)]
theorem sDraw_2 : (sDraw y t n).1 2 t = y.1 2 t + nI n := by
  unfold sDraw
  rw [mvm_s (by omega)]
  unfold dO
  dsimp only
  rw [sU_s]
theorem sDraw_6 {w : Nat} : (sDraw y t n).1 6 w = if w ∈ (y.2.1 t).take n then y.1 6 w + 1 else y.1 6 w := by
  unfold sDraw
  rw [mvm_s (by omega)]
  unfold dO nP
  dsimp only
  rw [sU_n (by omega)]
  by_cases c : w ∈ (y.2.1 t).take n
  · rw [if_pos ⟨rfl, c⟩, if_pos c]
  · rw [if_neg (fun z => c z.2), if_neg c]
theorem pE_pull {tm' : Nat} (hi : iY y nt nw tm B) (he : pE y nw tm) (ht : t < 8) (hn : n ≤ (y.2.1 t).length) (hm : tm ≤ tm') : pE (sDraw y t n) nw tm' := by
  refine pE_of he (fun k hk => sDraw_s (by omega)) (funext fun k => sDraw_f (by omega)) (funext fun k => sDraw_f (by omega)) (funext fun k => sDraw_f (by omega)) (rwD_tot ht hn) (fun r w hr hw => ?_) (fun t' ht' => ?_) hm
  · show ∃ r', r' < 9 ∧ w ∈ rwD y.2.1 t n r'
    by_cases c : r = t
    · subst c
      rw [← List.take_append_drop n (y.2.1 r)] at hw
      rcases List.mem_append.mp hw with z | z
      · exact ⟨8, by omega, by rw [rwD_8 ht]; exact List.mem_append_right _ z⟩
      · exact ⟨r, hr, by rw [rwD_t]; exact z⟩
    · by_cases c8 : r = 8
      · subst c8
        exact ⟨8, by omega, by rw [rwD_8 ht]; exact List.mem_append_left _ hw⟩
      · refine ⟨r, hr, ?_⟩
        unfold rwD
        rw [if_neg c, if_neg c8]
        exact hw
  · show ¬ y.1 1 t' < ssum (y.1 4) (rwD y.2.1 t n t')
    by_cases c : t' = t
    · subst c
      rw [rwD_t]
      exact ssum_drop hi he ht
    · unfold rwD
      rw [if_neg c, if_neg (by omega)]
      exact he.2.2.1 t' ht'
theorem pZ_pull (hi : iY y nt nw tm B) (hz : pZ y nw) (ht : t < 8) : pZ (sDraw y t n) nw := fun w h1 h2 => by
  rw [sDraw_6, if_neg (fun q => by
    have := w30 hi (r := t) (by omega) (List.mem_of_mem_take q)
    omega)]
  exact hz w h1 h2
theorem pl_1 {μ : mT} {b1 b2 b3 b4 b5 b6 b7 b8 : Int32} (h : PR μ (sDraw y t n)) (hi' : iY (sDraw y t n) nt nw tm B) (ht : t < 8) (hn : n ≤ (y.2.1 t).length) (hl : (y.2.1 8).length + n ≤ 30) (hle : (y.2.1 t).length ≤ 30) (hc : ∀ i w, (y.2.1 8)[i]? = some w → μ 60 0 i = nI w) (hd : ∀ i w, (y.2.1 t)[i]? = some w → μ 61 0 i = nI w) : ∀ (dd f k : Nat), k + dd = (y.2.1 8).length + n → dd < f → ∀ K, f_L_isPulled_L312 (nI t) (nI n) (nI (y.2.1 8).length) b1 b2 b3 b4 b5 b6 b7 b8 K f (nI k) μ = K μ := by
  have e8 : (sDraw y t n).2.1 8 = y.2.1 8 ++ (y.2.1 t).take n := rwD_8 ht
  intro dd
  induction dd with
  | zero =>
    intro f k hk hf K
    obtain ⟨f, rfl⟩ : ∃ n', f = n' + 1 := ⟨f - 1, by omega⟩
    rw [f_L_isPulled_L312, q_add, if_pos (nI_le (by omega) (by omega))]
  | succ dd ih =>
    intro f k hk hf K
    obtain ⟨f, rfl⟩ : ∃ n', f = n' + 1 := ⟨f - 1, by omega⟩
    rw [f_L_isPulled_L312, q_add, if_neg (nI_ge (by omega) (by omega)), ae h hi' (by omega), e8, q_bm, q_lt]
    by_cases c : (y.2.1 8).length ≤ k
    · have e1 : (y.2.1 t)[k - (y.2.1 8).length]? = some (y.2.1 t)[k - (y.2.1 8).length] := List.getElem?_eq_getElem (by omega)
      have e2 : (y.2.1 8 ++ (y.2.1 t).take n)[k]? = some (y.2.1 t)[k - (y.2.1 8).length] := by
        rw [List.getElem?_append_right c, List.getElem?_take_of_lt (by omega)]
        exact e1
      rw [if_pos (nI_le c (by omega)), q_sub c, q_gdi (by omega) (by omega), q_cl (by omega), hd _ _ e1, atN_at e2]
      dsimp only
      rw [if_pos rfl, q_lt, nI_1]
      exact ih f (k + 1) (by omega) (by omega) K
    · have e1 : (y.2.1 8)[k]? = some (y.2.1 8)[k] := List.getElem?_eq_getElem (by omega)
      have e2 : (y.2.1 8 ++ (y.2.1 t).take n)[k]? = some (y.2.1 8)[k] := by
        rw [List.getElem?_append_left (by omega)]
        exact e1
      rw [if_neg (nI_ge (by omega) (by omega)), q_gdi (by omega) (by omega), q_cl (by omega), hc _ _ e1, atN_at e2]
      dsimp only
      rw [if_pos rfl, q_lt, nI_1]
      exact ih f (k + 1) (by omega) (by omega) K
theorem pl_2 {μ : mT} {b2 b3 b4 b5 b6 b7 b8 : Int32} (h : PR μ (sDraw y t n)) (hi' : iY (sDraw y t n) nt nw tm B) (ht : t < nt) (ht8 : t < 8) (hle : (y.2.1 t).length ≤ 30) (hd : ∀ i w, (y.2.1 t)[i]? = some w → μ 61 0 i = nI w) : ∀ (dd f k : Nat), k + dd = (y.2.1 t).length → n ≤ k → dd < f → ∀ K, f_L_isPulled_L365 (nI t) (nI n) (nI (y.2.1 t).length) b2 b3 b4 b5 b6 b7 b8 K f (nI k) μ = K μ := by
  have et : (sDraw y t n).2.1 t = (y.2.1 t).drop n := rwD_t
  intro dd
  induction dd with
  | zero =>
    intro f k hk hk2 hf K
    obtain ⟨f, rfl⟩ : ∃ n', f = n' + 1 := ⟨f - 1, by omega⟩
    rw [f_L_isPulled_L365, if_pos (nI_le (by omega) (by omega))]
  | succ dd ih =>
    intro f k hk hk2 hf K
    obtain ⟨f, rfl⟩ : ∃ n', f = n' + 1 := ⟨f - 1, by omega⟩
    have e1 : (y.2.1 t)[k]? = some (y.2.1 t)[k] := List.getElem?_eq_getElem (by omega)
    have e2 : ((y.2.1 t).drop n)[k - n]? = some (y.2.1 t)[k] := by
      rw [List.getElem?_drop, show n + (k - n) = k by omega]
      exact e1
    rw [f_L_isPulled_L365, if_neg (nI_ge (by omega) (by omega)), q_sub hk2, att h hi' ht (by omega), et, q_bm, q_gdi (by omega) (by omega), q_cl (by omega), hd _ _ e1, atN_at e2, if_pos rfl, q_lt, nI_1]
    exact ih f (k + 1) (by omega) (by omega) (by omega) K
theorem canP_iff : canP y t n = true ↔ n ≤ (y.2.1 t).length ∧ ¬ y.1 0 0 < ssum (y.1 4) (y.2.1 8) + ssum (y.1 4) ((y.2.1 t).take n) := by
  unfold canP
  rw [Bool.and_eq_true, decide_eq_true_eq, Bool.not_eq_true', decide_eq_false_iff_not]
theorem sb_isB1 : isB 1 = true := by decide
theorem l_isPulled {μ : mT} (h : PR μ y) (hi : iY y nt nw tm B) (he : pE y nw tm) (hz : pZ y nw) (hB : B < 900000000) (ht : t ≤ nt) (hn : 1 ≤ n ∧ n ≤ 30) : Gd (f_L_isPulled (nI t) (nI n) μ) (LI nt (B + 5000)) := by
  have h8 := hi.nt8
  obtain ⟨hc, hp, hh⟩ := h
  have h : PR μ y := ⟨hc, hp, hh⟩
  unfold f_L_isPulled
  rw [c1 h hi, q_bm]
  by_cases htn : t = nt
  · subst htn
    rw [if_neg Int32.lt_irrefl]
    obtain ⟨μ', k1, k2, k3⟩ := PRc (kt_pull (a := nI t) (b := nI n) hh hc hi)
    have er : sPull y (nI t) (nI n) = (-1, y) := by
      unfold sPull
      rw [if_neg (isT_no hi)]
    rw [er] at k1 k2
    rw [k1, if_pos rfl]
    exact gd_some ⟨y, nw, tm, k2, hi.up (by omega), he, hz⟩
  have ht : t < nt := by omega
  have hlt := (hi.rOK t (by omega)).1
  have hl8 := (hi.rOK 8 (by omega)).1
  have htot := tot_two (rw := y.2.1) (r := t) (by omega)
  have htn' := hi.tot
  rw [if_pos ((nI_ltI (by omega) (by omega)).mpr ht), q_lt, q_lt]
  obtain ⟨μ1, a1, a2, a3, a4⟩ := l_rowE (ka := 60) ((h.upr (ka := 60) (by omega) (fun _ => 0)).upr (ka := 61) (by omega) (fun _ => 0)) hi (by omega)
  obtain ⟨μ2, b1, b2, b3, b4⟩ := l_rowT (ka := 61) a2 hi ht (by omega)
  have hc60 : ∀ i w, (y.2.1 8)[i]? = some w → μ2 60 0 i = nI w := fun i w hw => by rw [b3 60 (by omega)]; exact a4 i w hw
  rw [a1, q_bd, b1, q_bd]
  refine gd_lt (fun J11 hJ11 => ?_)
  have main : ∀ cb : Int32, cb = (if canP y t n = true then 1 else 0) → Gd (J11 cb μ2) (LI nt (B + 5000)) := by
    intro cb hcb
    rw [hJ11]
    dsimp only
    refine gd_lt (fun J14 hJ14 => ?_)
    obtain ⟨j, hj, hjD⟩ : ∃ j, j ≤ 2 ∧ jD y t n = nI j := jD_n
    have e14 : (if nI (y.2.1 t).length ≤ nI n then J14 1 μ2 else J14 2 μ2) = J14 (nI j) μ2 := by
      rw [← hjD]
      unfold jD
      by_cases c : (y.2.1 t).length ≤ n
      · rw [if_pos (nI_le c (by omega)), if_pos c]
      · rw [if_neg (nI_ge (by omega) (by omega)), if_neg c]
    rw [e14, hJ14]
    dsimp only
    obtain ⟨W, T, w1, w2, w3, w4, w5, w6, w7, w8, w9⟩ := mv_all (z := dO y t n) (a := 4) (m := y.1 0 2) (j := j) hi he (by omega) (fun k => by unfold dO nP; dsimp only; rw [sU_n (by omega), if_neg (by omega)]) rfl (by omega) he.1.2.1 hj
    rw [c17 b2 hi, q_bm, c18 b2 hi, q_bm, w1, q_lt, c0 b2 hi, q_bm, ff b2 hi (by omega) (by omega), q_bm, c9 b2 hi, q_bm, c10 b2 hi, q_bm, c11 b2 hi, q_bm, o3 b2 hi ht, q_bm]
    refine gd_lt (fun J34 hJ34 => ?_)
    have e34 : ∃ ov, (if nI (y.2.1 t).length ≤ 0 then J34 0 μ2 else bm (f_X7_ofWagon (μ2 61 0 (0 : Int32).toNatClampNeg) 5 μ2) μ2 (fun v70 μ71 => J34 v70 μ71)) = J34 ov μ2 ∧ ∀ w0, (y.2.1 t)[0]? = some w0 → ov = y.1 6 w0 := by
      by_cases c : (y.2.1 t).length = 0
      · refine ⟨0, by rw [c, if_pos (by decide)], fun w0 hw0 => ?_⟩
        have := (List.getElem?_eq_some_iff.mp hw0).1
        omega
      · have e1 : (y.2.1 t)[0]? = some (y.2.1 t)[0] := List.getElem?_eq_getElem (by omega)
        have ez : (0 : Int32).toNatClampNeg = 0 := rfl
        refine ⟨y.1 6 (y.2.1 t)[0], ?_, fun w0 hw0 => by rw [e1] at hw0; rw [Option.some.inj hw0]⟩
        rw [if_neg (show ¬ nI (y.2.1 t).length ≤ 0 from fun z => nI_ge (a := 0) (b := (y.2.1 t).length) (by omega) (by omega) z), ez, b4 0 _ e1, v5 b2 hi (w30 hi (by omega) (List.mem_of_getElem? e1)), q_bm]
    obtain ⟨ov, eo1, eo2⟩ := e34
    rw [eo1, hJ34]
    dsimp only
    obtain ⟨hb1, hb2, hb3⟩ := b2
    have b2 : PR μ2 y := ⟨hb1, hb2, hb3⟩
    obtain ⟨μ', k1, k2, k3⟩ := PRc (kt_pull (a := nI t) (b := nI n) hb3 hb1 hi)
    rw [sPull_ok hi ht hn] at k1 k2
    by_cases hcp : canP y t n = true
    · rw [if_pos hcp] at k1 k2 hcb
      dsimp only at k1 k2
      subst hcb
      obtain ⟨hnl, -⟩ := canP_iff.mp hcp
      have ed : sDraw y t n = mvm (dO y t n) (y.1 0 2) (nI j) := by rw [← hjD]; rfl
      have h6 : (sDraw y t n).1 0 6 = nI (T + W) := by rw [ed]; exact w9
      have hi' := iY_pull hi (by omega) ht hn hcp h6 (by omega)
      have he' := pE_pull (n := n) (tm' := T + W) hi he (by omega) hnl (by omega)
      have hz' := pZ_pull (n := n) (t := t) hi hz (by omega)
      have e1 : (y.2.1 t)[0]? = some (y.2.1 t)[0] := List.getElem?_eq_getElem (by omega)
      have ez : (0 : Int32).toNatClampNeg = 0 := rfl
      have d61 : ∀ i w, (y.2.1 t)[i]? = some w → μ' 61 0 i = nI w := fun i w hw => by rw [k3 61 (by omega)]; exact b4 i w hw
      have d60 : ∀ i w, (y.2.1 8)[i]? = some w → μ' 60 0 i = nI w := fun i w hw => by rw [k3 60 (by omega)]; exact hc60 i w hw
      have et : (sDraw y t n).2.1 t = (y.2.1 t).drop n := rwD_t
      have eof : f_X7_ofWagon (nI (y.2.1 t)[0]) 5 μ' = some (ov + 1, μ') := by
        rw [v5 k2 hi' (w30 hi (r := t) (by omega) (List.mem_of_getElem? e1)), sDraw_6, if_pos, eo2 _ e1]
        rw [List.mem_take_iff_getElem]
        exact ⟨0, by omega, rfl⟩
      rw [k1, if_neg (by decide), if_pos (nI_add _ _).symm, o1 k2 hi' ht, et, q_bm, List.length_drop, if_pos (q_sub hnl).symm, o3 k2 hi' ht, sDraw_2, q_bm, if_pos rfl, ez, d61 0 _ e1, eof, q_bm, if_pos rfl, q_lt]
      rw [show (0 : Int32) = nI 0 from rfl, pl_1 k2 hi' (by omega) hnl (by omega) hlt d60 d61 ((y.2.1 8).length + n) fu 0 (by omega) (by unfold fu; omega), q_lt, pl_2 k2 hi' ht (by omega) hlt d61 ((y.2.1 t).length - n) fu n (by omega) (Nat.le_refl _) (by unfold fu; omega)]
      rw [l_timed k2 hi' (by rw [h6, w6, nI_add]) (by rw [ed, mvm_14]; rfl) (by rw [ed, mvm_15]; rfl) (by rw [ed, mvm_16, w5, w6]; exact i_as _ _ _), q_bd, q_gd sb_isB1]
      exact gd_some ⟨_, nw, T + W, k2, hi', he', hz'⟩
    · rw [if_neg hcp] at k1 k2 hcb
      dsimp only at k1 k2
      subst hcb
      rw [k1, if_pos rfl, if_pos rfl, c3 k2 hi, q_bm, if_pos rfl, o1 k2 hi ht, q_bm, if_pos rfl, c0 k2 hi, q_bm, if_pos rfl]
      exact gd_some ⟨y, nw, tm, k2, hi.up (by omega), he, hz⟩
  refine gd_lt (fun J72 hJ72 => ?_)
  by_cases c : (y.2.1 t).length < n
  · rw [if_pos ((nI_ltI (by omega) (by omega)).mpr c), hJ72]
    dsimp only
    exact main 0 (by rw [if_neg (fun z => by have := (canP_iff.mp z).1; omega)])
  · rw [if_neg (fun z => c ((nI_ltI (by omega) (by omega)).mp z)), c4 b2 hi, q_bm]
    refine gd_lt (fun J76 hJ76 => ?_)
    have e76 : (if nI (y.2.1 t).length ≤ nI n then J76 (nI (y.2.1 t).length) μ2 else J76 (nI n) μ2) = J76 (nI n) μ2 := by
      by_cases q : (y.2.1 t).length ≤ n
      · rw [if_pos (nI_le q (by omega)), show (y.2.1 t).length = n by omega]
      · rw [if_neg (nI_ge (by omega) (by omega))]
    have eL := l_len (ka := 61) (i := 0) (j := n) b2 hi hlt (fun w hw => w30 hi (by omega) hw) b4 (Nat.zero_le _) (by omega)
    rw [List.drop_zero, show nI 0 = (0 : Int32) from rfl] at eL
    rw [e76, hJ76]
    dsimp only
    rw [eL, q_bd, c15 b2 hi, q_bm]
    by_cases q : y.1 0 0 < ssum (y.1 4) (y.2.1 8) + ssum (y.1 4) ((y.2.1 t).take n)
    · rw [if_pos q, hJ72]
      dsimp only
      exact main 0 (by rw [if_neg (fun z => (canP_iff.mp z).2 q)])
    · rw [if_neg q]
      exact main 1 (by rw [if_pos (canP_iff.mpr ⟨by omega, q⟩)])
end PULLED
