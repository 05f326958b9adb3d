section PUSHED
variable {y : yT} {nt nw tm B t n : Nat}
theorem sBring_f {a k : Nat} (h : a ≠ 0 ∧ a ≠ 3) : (sBring y t n).1 a k = y.1 a k := by
  unfold sBring
  rw [mvm_s (by omega)]
  unfold sBk
  dsimp only
  rw [sU_n (by omega)]
theorem sBring_0 {k : Nat} (hk : k ≠ 6 ∧ k ≠ 14 ∧ k ≠ 15 ∧ k ≠ 16) : (sBring y t n).1 0 k = y.1 0 k := by
  unfold sBring
  rw [mvm_s (by omega)]
  unfold sBk
  dsimp only
  rw [sU_n (by omega)]
theorem sBring_3 : (sBring y t n).1 3 t = y.1 3 t + nI n := by
  unfold sBring
  rw [mvm_s (by omega)]
  unfold sBk
  dsimp only
  rw [sU_s]
theorem canQ_iff : canQ y t n = true ↔ n ≤ (y.2.1 8).length ∧ ¬ y.1 1 t < ssum (y.1 4) (y.2.1 t) + ssum (y.1 4) ((y.2.1 8).drop ((y.2.1 8).length - n)) := by
  unfold canQ
  rw [Bool.and_eq_true, decide_eq_true_eq, Bool.not_eq_true', decide_eq_false_iff_not]
theorem sPush_ok (hi : iY y nt nw tm B) (ht : t < nt) (hn : 1 ≤ n ∧ n ≤ 30) : sPush y (nI t) (nI n) = if canQ y t n = true then (nI ((y.2.1 8).length - n), sBring y t n) else (-5, y) := by
  have h8 := hi.nt8
  have e1 : (1 : Int32) = nI 1 := rfl
  have e5 : (30 : Int32) = nI 30 := rfl
  unfold sPush
  rw [if_pos (isT_t hi.hnt hi.nt8 ht), if_neg (by rw [e1, e5, nI_ltI (by omega) (by omega), nI_ltI (by omega) (by omega)]; omega), q_cl (by omega), q_cl (by omega)]
theorem iY_push {tm' : Nat} (hi : iY y nt nw tm B) (hB : B < 1000000000) (ht : t < nt) (hn : 1 ≤ n ∧ n ≤ 30) (hc : canQ y t n = true) (h6 : (sBring y t n).1 0 6 = nI tm') (h6' : tm' < 2147483648) : iY (sBring y t n) nt nw tm' (B + 5000) := by
  have h := kp_push (a := nI t) (b := nI n) (⟨nt, nw, tm, hi⟩ : kY y B) hB
  rw [sPush_ok hi ht hn, if_pos hc] at h
  refine kY_id h (by omega) ?_ hi.nt8 ?_ hi.nw30 h6 h6'
  · rw [sBring_0 (by omega)]; exact hi.hnt
  · rw [sBring_0 (by omega)]; exact hi.hnw
theorem pE_push {tm' : Nat} (he : pE y nw tm) (ht : t < 8) (hc : canQ y t n = true) (hm : tm ≤ tm') : pE (sBring y t n) nw tm' := by
  obtain ⟨hn, hs⟩ := canQ_iff.mp hc
  refine pE_of he (fun k hk => sBring_0 (by omega)) (funext fun k => sBring_f (by omega)) (funext fun k => sBring_f (by omega)) (funext fun k => sBring_f (by omega)) (rwB_tot ht hn) (fun r w hr hw => ?_) (fun t' ht' => ?_) hm
  · show ∃ r', r' < 9 ∧ w ∈ rwB y.2.1 t n r'
    by_cases c8 : r = 8
    · subst c8
      rw [← List.take_append_drop ((y.2.1 8).length - n) (y.2.1 8)] at hw
      rcases List.mem_append.mp hw with z | z
      · exact ⟨8, by omega, by rw [rwB_8 ht]; exact z⟩
      · exact ⟨t, by omega, by rw [rwB_t]; exact List.mem_append_left _ z⟩
    · by_cases c : r = t
      · subst c
        exact ⟨r, by omega, by rw [rwB_t]; exact List.mem_append_right _ hw⟩
      · refine ⟨r, hr, ?_⟩
        unfold rwB
        rw [if_neg c, if_neg c8]
        exact hw
  · show ¬ y.1 1 t' < ssum (y.1 4) (rwB y.2.1 t n t')
    by_cases c : t' = t
    · subst c
      rw [rwB_t, ssum_app, Int32.add_comm]
      exact hs
    · unfold rwB
      rw [if_neg c, if_neg (by omega)]
      exact he.2.2.1 t' ht'
theorem trF_bit (hn : n ≠ 0) (ht : t < 8) : ∀ (d t0 : Nat) (v : Int32), t0 + d ≤ 8 → (sn (trF y n d t0 v) t ↔ sn v t ∨ (t0 ≤ t ∧ t < t0 + d ∧ canQ y t n = true))
  | 0, t0, v, _ => ⟨fun h => Or.inl h, fun h => h.elim id (fun z => by omega)⟩
  | d + 1, t0, v, hd => by
    show sn (trF y n d (t0 + 1) _) t ↔ _
    rw [trF_bit hn ht d (t0 + 1) _ (by omega), if_neg hn]
    by_cases c : canQ y t0 n = true
    · rw [if_pos c]
      show sn (v ||| (1 <<< (nI t0 &&& 31))) t ∨ _ ↔ _
      rw [sn_or (by omega) (by omega)]
      constructor
      · rintro ((z | z) | ⟨z1, z2, z3⟩)
        · exact Or.inl z
        · subst z; exact Or.inr ⟨Nat.le_refl _, by omega, c⟩
        · exact Or.inr ⟨by omega, by omega, z3⟩
      · rintro (z | ⟨z1, z2, z3⟩)
        · exact Or.inl (Or.inl z)
        · by_cases q : t = t0
          · exact Or.inl (Or.inr q)
          · exact Or.inr ⟨by omega, by omega, z3⟩
    · rw [if_neg c]
      constructor
      · rintro (z | ⟨z1, z2, z3⟩)
        · exact Or.inl z
        · exact Or.inr ⟨by omega, by omega, z3⟩
      · rintro (z | ⟨z1, z2, z3⟩)
        · exact Or.inl z
        · by_cases q : t = t0
          · subst q; exact absurd z3 c
          · exact Or.inr ⟨by omega, by omega, z3⟩
theorem ps_1 {μ : mT} {b2 b3 b4 b5 b6 b7 b8 : Int32} (h : PR μ (sBring y t n)) (hi' : iY (sBring y t n) nt nw tm B) (ht : t < nt) (ht8 : t < 8) (hn : n ≤ (y.2.1 8).length) (hl8 : (y.2.1 8).length ≤ 30) (hle : (y.2.1 t).length ≤ 30) (hc : ∀ i w, (y.2.1 8)[i]? = some w → μ 60 0 i = nI w) (hd : ∀ i w, (y.2.1 t)[i]? = some w → μ 61 0 i = nI w) : ∀ (dd f k : Nat), k + dd = (y.2.1 t).length + n → dd < f → ∀ K, f_L_isPushed_L312 (nI t) (nI n) (nI (y.2.1 8).length) (nI (y.2.1 t).length) b2 b3 b4 b5 b6 b7 b8 K f (nI k) μ = K μ := by
  have et : (sBring y t n).2.1 t = (y.2.1 8).drop ((y.2.1 8).length - n) ++ y.2.1 t := rwB_t
  have el : ((y.2.1 8).drop ((y.2.1 8).length - n)).length = n := by rw [List.length_drop]; omega
  intro dd
  induction dd with
  | zero =>
    intro f k hk hf K
    obtain ⟨f, rfl⟩ : ∃ n', f = n' + 1 := ⟨f - 1, by omega⟩
    rw [f_L_isPushed_L312, q_add, if_pos (nI_le (by omega) (by omega))]
  | succ dd ih =>
    intro f k hk hf K
    obtain ⟨f, rfl⟩ : ∃ n', f = n' + 1 := ⟨f - 1, by omega⟩
    rw [f_L_isPushed_L312, q_add, if_neg (nI_ge (by omega) (by omega)), att h hi' ht (by omega), et, q_bm, q_lt]
    by_cases c : n ≤ k
    · have e1 : (y.2.1 t)[k - n]? = some (y.2.1 t)[k - n] := List.getElem?_eq_getElem (by omega)
      have e2 : ((y.2.1 8).drop ((y.2.1 8).length - n) ++ y.2.1 t)[k]? = some (y.2.1 t)[k - n] := by
        rw [List.getElem?_append_right (by omega), el]
        exact e1
      rw [if_pos (nI_le c (by omega)), q_sub c, q_gdi (by omega) (by omega), q_cl (by omega), hd _ _ e1, atN_at e2]
      dsimp only
      rw [if_pos rfl, q_lt, nI_1]
      exact ih f (k + 1) (by omega) (by omega) K
    · have e1 : (y.2.1 8)[(y.2.1 8).length - n + k]? = some (y.2.1 8)[(y.2.1 8).length - n + k] := List.getElem?_eq_getElem (by omega)
      have e2 : ((y.2.1 8).drop ((y.2.1 8).length - n) ++ y.2.1 t)[k]? = some (y.2.1 8)[(y.2.1 8).length - n + k] := by
        rw [List.getElem?_append_left (by omega), List.getElem?_drop]
        exact e1
      rw [if_neg (nI_ge (by omega) (by omega)), q_sub hn, q_add, q_gdi (by omega) (by omega), q_cl (by omega), hc _ _ e1, atN_at e2]
      dsimp only
      rw [if_pos rfl, q_lt, nI_1]
      exact ih f (k + 1) (by omega) (by omega) K
theorem ps_2 {μ : mT} {b2 b3 b4 b5 b6 b7 b8 : Int32} (h : PR μ (sBring y t n)) (hi' : iY (sBring y t n) nt nw tm B) (ht8 : t < 8) (hn : n ≤ (y.2.1 8).length) (hl8 : (y.2.1 8).length ≤ 30) (hc : ∀ i w, (y.2.1 8)[i]? = some w → μ 60 0 i = nI w) : ∀ (dd f k : Nat), k + dd = (y.2.1 8).length - n → dd < f → ∀ K, f_L_isPushed_L367 (nI n) (nI (y.2.1 8).length) b2 b3 b4 b5 b6 b7 b8 K f (nI k) μ = K μ := by
  have e8 : (sBring y t n).2.1 8 = (y.2.1 8).take ((y.2.1 8).length - n) := rwB_8 ht8
  intro dd
  induction dd with
  | zero =>
    intro f k hk hf K
    obtain ⟨f, rfl⟩ : ∃ n', f = n' + 1 := ⟨f - 1, by omega⟩
    rw [f_L_isPushed_L367, q_sub hn, if_pos (nI_le (by omega) (by omega))]
  | succ dd ih =>
    intro f k hk hf K
    obtain ⟨f, rfl⟩ : ∃ n', f = n' + 1 := ⟨f - 1, by omega⟩
    have e1 : (y.2.1 8)[k]? = some (y.2.1 8)[k] := List.getElem?_eq_getElem (by omega)
    have e2 : ((y.2.1 8).take ((y.2.1 8).length - n))[k]? = some (y.2.1 8)[k] := by
      rw [List.getElem?_take_of_lt (by omega)]
      exact e1
    rw [f_L_isPushed_L367, q_sub hn, if_neg (nI_ge (by omega) (by omega)), ae h hi' (by omega), e8, q_bm, q_gdi (by omega) (by omega), q_cl (by omega), hc _ _ e1, atN_at e2, if_pos rfl, q_lt, nI_1]
    exact ih f (k + 1) (by omega) (by omega) K
theorem l_isPushed {μ : mT} (h : PR μ y) (hi : iY y nt nw tm B) (he : pE y nw tm) (hz : pZ y nw) (hB : B < 900000000) (ht : t ≤ nt) (hn : 1 ≤ n ∧ n ≤ 30) : Gd (f_L_isPushed (nI t) (nI n) μ) (LI nt (B + 5000)) := by
  have h8 := hi.nt8
  obtain ⟨hc, hp, hh⟩ := h
  have h : PR μ y := ⟨hc, hp, hh⟩
  unfold f_L_isPushed
  rw [c1 h hi, q_bm]
  by_cases htn : t = nt
  · subst htn
    rw [if_neg Int32.lt_irrefl]
    obtain ⟨μ', k1, k2, k3⟩ := PRc (kt_push (a := nI t) (b := nI n) hh hc hi)
    have er : sPush y (nI t) (nI n) = (-1, y) := by
      unfold sPush
      rw [if_neg (isT_no hi)]
    rw [er] at k1 k2
    rw [k1, if_pos rfl]
    exact gd_some ⟨y, nw, tm, k2, hi.up (by omega), he, hz⟩
  have ht : t < nt := by omega
  have hlt := (hi.rOK t (by omega)).1
  have hl8 := (hi.rOK 8 (by omega)).1
  have htot := tot_two (rw := y.2.1) (r := t) (by omega)
  have htn' := hi.tot
  rw [if_pos ((nI_ltI (by omega) (by omega)).mpr ht), q_lt, q_lt]
  obtain ⟨μ1, a1, a2, a3, a4⟩ := l_rowE (ka := 60) ((h.upr (ka := 60) (by omega) (fun _ => 0)).upr (ka := 61) (by omega) (fun _ => 0)) hi (by omega)
  obtain ⟨μ2, b1, b2, b3, b4⟩ := l_rowT (ka := 61) a2 hi ht (by omega)
  have hc60 : ∀ i w, (y.2.1 8)[i]? = some w → μ2 60 0 i = nI w := fun i w hw => by rw [b3 60 (by omega)]; exact a4 i w hw
  rw [a1, q_bd, b1, q_bd]
  refine gd_lt (fun J11 hJ11 => ?_)
  have main : ∀ cb : Int32, cb = (if canQ y t n = true then 1 else 0) → Gd (J11 cb μ2) (LI nt (B + 5000)) := by
    intro cb hcb
    rw [hJ11]
    dsimp only
    rw [k_roomFor b2.1 hi, q_bm]
    refine gd_lt (fun J16 hJ16 => ?_)
    have m16 : ∀ v17 : Int32, (n = (y.2.1 8).length → cb = v17) → Gd (J16 v17 μ2) (LI nt (B + 5000)) := by
      intro v17 hv17
      rw [hJ16]
      dsimp only
      refine gd_lt (fun J19 hJ19 => ?_)
      have m19 : Gd (J19 μ2) (LI nt (B + 5000)) := by
        rw [hJ19]
        dsimp only
        refine gd_lt (fun J21 hJ21 => ?_)
        obtain ⟨j, hj, hjD⟩ : ∃ j, j ≤ 2 ∧ jB y t = nI j := jB_n
        have e21 : (if nI (y.2.1 t).length ≤ 0 then J21 1 μ2 else J21 2 μ2) = J21 (nI j) μ2 := by
          rw [← hjD]
          unfold jB
          by_cases c : (y.2.1 t).length = 0
          · rw [c, if_pos (by decide), if_pos rfl]
          · rw [if_neg (show ¬ nI (y.2.1 t).length ≤ 0 from fun z => nI_ge (a := 0) (b := (y.2.1 t).length) (by omega) (by omega) z), if_neg c]
        rw [e21, hJ21]
        dsimp only
        obtain ⟨W, T, w1, w2, w3, w4, w5, w6, w7, w8, w9⟩ := mv_all (z := sBk y t n) (a := 4) (m := y.1 0 2) (j := j) hi he (by omega) (fun k => by unfold sBk; dsimp only; rw [sU_n (by omega)]) rfl (by omega) he.1.2.1 hj
        rw [c17 b2 hi, q_bm, c18 b2 hi, q_bm, w1, q_lt, c0 b2 hi, q_bm, ff b2 hi (by omega) (by omega), q_bm, c9 b2 hi, q_bm, c10 b2 hi, q_bm, c11 b2 hi, q_bm, o4 b2 hi ht, q_bm]
        obtain ⟨hb1, hb2, hb3⟩ := b2
        have b2 : PR μ2 y := ⟨hb1, hb2, hb3⟩
        obtain ⟨μ', k1, k2, k3⟩ := PRc (kt_push (a := nI t) (b := nI n) hb3 hb1 hi)
        rw [sPush_ok hi ht hn] at k1 k2
        by_cases hcp : canQ y t n = true
        · rw [if_pos hcp] at k1 k2 hcb
          dsimp only at k1 k2
          subst hcb
          obtain ⟨hnl, -⟩ := canQ_iff.mp hcp
          have ed : sBring y t n = mvm (sBk y t n) (y.1 0 2) (nI j) := by rw [← hjD]; rfl
          have h6 : (sBring y t n).1 0 6 = nI (T + W) := by rw [ed]; exact w9
          have hi' := iY_push hi (by omega) ht hn hcp h6 (by omega)
          have he' := pE_push (n := n) (tm' := T + W) he (by omega) hcp (by omega)
          have hz' : pZ (sBring y t n) nw := fun w h1 h2 => by rw [sBring_f (by omega)]; exact hz w h1 h2
          have d61 : ∀ i w, (y.2.1 t)[i]? = some w → μ' 61 0 i = nI w := fun i w hw => by rw [k3 61 (by omega)]; exact b4 i w hw
          have d60 : ∀ i w, (y.2.1 8)[i]? = some w → μ' 60 0 i = nI w := fun i w hw => by rw [k3 60 (by omega)]; exact hc60 i w hw
          have et : (sBring y t n).2.1 t = (y.2.1 8).drop ((y.2.1 8).length - n) ++ y.2.1 t := rwB_t
          have el : nI ((y.2.1 8).drop ((y.2.1 8).length - n) ++ y.2.1 t).length = nI (y.2.1 t).length + nI n := by
            rw [List.length_append, List.length_drop, nI_add]
            congr 1
            omega
          rw [k1, if_neg (by decide), if_pos (q_sub hnl).symm, o1 k2 hi' ht, et, q_bm, if_pos el, o4 k2 hi' ht, sBring_3, q_bm, if_pos rfl, q_lt]
          rw [show (0 : Int32) = nI 0 from rfl, ps_1 k2 hi' ht (by omega) hnl hl8 hlt d60 d61 ((y.2.1 t).length + n) fu 0 (by omega) (by unfold fu; omega), q_lt, ps_2 k2 hi' (by omega) hnl hl8 d60 ((y.2.1 8).length - n) fu 0 (by omega) (by unfold fu; omega)]
          rw [l_timed k2 hi' (by rw [h6, w6, nI_add]) (by rw [ed, mvm_14]; rfl) (by rw [ed, mvm_15]; rfl) (by rw [ed, mvm_16, w5, w6]; exact i_as _ _ _), q_bd, q_gd sb_isB1]
          exact gd_some ⟨_, nw, T + W, k2, hi', he', hz'⟩
        · rw [if_neg hcp] at k1 k2 hcb
          dsimp only at k1 k2
          subst hcb
          rw [k1, if_pos rfl, if_pos rfl, c3 k2 hi, q_bm, if_pos rfl, o1 k2 hi ht, q_bm, if_pos rfl, c0 k2 hi, q_bm, if_pos rfl]
          exact gd_some ⟨y, nw, tm, k2, hi.up (by omega), he, hz⟩
      by_cases c : n = (y.2.1 8).length
      · rw [if_pos (by rw [c]), if_pos (hv17 c)]
        exact m19
      · rw [if_neg (fun z => c (nI_inj (by omega) (by omega) z))]
        exact m19
    by_cases c : (((trF y (y.2.1 8).length nt 0 0) >>> (nI t &&& 31)) &&& 1) = 1
    · rw [if_pos c]
      refine m16 1 (fun q => ?_)
      have c : sn (trF y (y.2.1 8).length nt 0 0) t := c
      rw [← q, trF_bit (by omega) (by omega) nt 0 0 (by omega)] at c
      rcases c with c | ⟨-, -, c⟩
      · exact absurd c (sn_0 (by omega))
      · rw [hcb, if_pos c]
    · rw [if_neg c]
      refine m16 0 (fun q => ?_)
      have c : ¬ sn (trF y (y.2.1 8).length nt 0 0) t := c
      rw [← q, trF_bit (by omega) (by omega) nt 0 0 (by omega)] at c
      rw [hcb, if_neg (fun z => c (Or.inr ⟨Nat.zero_le _, by omega, z⟩))]
  refine gd_lt (fun J72 hJ72 => ?_)
  by_cases c : (y.2.1 8).length < n
  · rw [if_pos ((nI_ltI (by omega) (by omega)).mpr c), hJ72]
    dsimp only
    exact main 0 (by rw [if_neg (fun z => by have := (canQ_iff.mp z).1; omega)])
  · rw [if_neg (fun z => c ((nI_ltI (by omega) (by omega)).mp z)), o2 b2 hi ht, q_bm]
    refine gd_lt (fun J76 hJ76 => ?_)
    have e76 : (if nI (y.2.1 8).length ≤ nI n then J76 0 μ2 else J76 (nI (y.2.1 8).length - nI n) μ2) = J76 (nI ((y.2.1 8).length - n)) μ2 := by
      by_cases q : (y.2.1 8).length ≤ n
      · rw [if_pos (nI_le q (by omega)), show (y.2.1 8).length - n = 0 by omega]
        rfl
      · rw [if_neg (nI_ge (by omega) (by omega)), q_sub (by omega)]
    have eL := l_len (ka := 60) (i := (y.2.1 8).length - n) (j := (y.2.1 8).length) b2 hi hl8 (fun w hw => w30 hi (by omega) hw) hc60 (by omega) (Nat.le_refl _)
    rw [List.take_of_length_le (Nat.le_refl _)] at eL
    rw [e76, hJ76]
    dsimp only
    rw [eL, q_bd, o0 b2 hi ht, q_bm]
    by_cases q : y.1 1 t < ssum (y.1 4) (y.2.1 t) + ssum (y.1 4) ((y.2.1 8).drop ((y.2.1 8).length - n))
    · rw [if_pos q, hJ72]
      dsimp only
      exact main 0 (by rw [if_neg (fun z => (canQ_iff.mp z).2 q)])
    · rw [if_neg q]
      exact main 1 (by rw [if_pos (canQ_iff.mpr ⟨by omega, q⟩)])
end PUSHED
