theorem tIx_in {n t : Nat} (h : t < n) (hb : t < 2147483648) : tIx n (nI t) = some t := by
  unfold tIx
  rw [if_neg (nI_pos hb), q_cl hb, if_pos h]
theorem PRq {μ : mT} {y : yT} {v : Int32} {o : Option (Int32 × mT)} (h : PR μ y) (ho : ∃ μa, o = some (v, μa) ∧ only μ μa (Yd 1)) : ∃ μ' : mT, (∀ (α : Type) (K : Int32 → mT → Option α), bm o μ K = K v μ') ∧ PR μ' y := by
  obtain ⟨μa, a1, a2⟩ := ho
  obtain ⟨h1, hp, h2⟩ := h
  refine ⟨mix μ μa, fun α K => by rw [a1, q_bm2], PR.hi (μ := μa) ⟨h1.o (fun κ hκ => a2 κ 0 (by unfold Yd; omega)), hp, ?_⟩ (fun κ hκ => mix_lo hκ)⟩
  obtain ⟨b1, b2, σ, ⟨b3, b4⟩, b5⟩ := h2
  refine ⟨by rw [a2 19 0 (by unfold Yd; omega)]; exact b1, b2, σ, ⟨fun i hi => by rw [a2 22 0 (by unfold Yd; omega)]; exact b3 i hi, b4⟩, fun i hi => (b5 i hi).o (fun κ hκ => a2 κ _ (by
    have := (b3 i (by omega)).2.1
    unfold Yd
    omega))⟩
theorem late_eq {m d : Nat} (hm : m < 1000000000) (hd : d < 1000000000) : (if nI m ≤ nI d then (0 : Int32) else nI m - nI d) = lateN (nI m) (nI d) := by
  have e : (nI m - nI d).toInt = (m : Int) - d := by
    rw [Int32.toInt_sub, nI_toInt (by omega), nI_toInt (by omega)]
    exact Int.bmod_eq_of_le (by omega) (by omega)
  unfold lateN
  by_cases c : m ≤ d
  · rw [if_pos (nI_le c (by omega)), if_neg]
    rw [Int32.lt_iff_toInt_lt, e]
    show ¬ (0 : Int) < _
    omega
  · rw [if_neg (nI_ge (by omega) (by omega)), if_pos]
    rw [Int32.lt_iff_toInt_lt, e]
    show (0 : Int) < _
    omega
section LEFT
variable {y : yT} {nt nw tm B t : Nat} {e : Int32 × List Nat}
theorem tn0 {μ : mT} (h : PR μ y) (hi : iY y nt nw tm B) (ht : y.2.2.2[t]? = some e) : f_X7_ofTrain (nI t) 0 μ = some (nI e.2.length, μ) := by
  have hl := (List.getElem?_eq_some_iff.mp ht).1
  have := hi.tok.1
  rw [k_ofTrain h.1 hi]
  unfold qTrain
  rw [tIx_in hl (by omega)]
  dsimp only
  rw [ht]
  rfl
theorem tn1 {μ : mT} (h : PR μ y) (hi : iY y nt nw tm B) (ht : y.2.2.2[t]? = some e) : f_X7_ofTrain (nI t) 1 μ = some (e.1, μ) := by
  have hl := (List.getElem?_eq_some_iff.mp ht).1
  have := hi.tok.1
  rw [k_ofTrain h.1 hi]
  unfold qTrain
  rw [tIx_in hl (by omega)]
  dsimp only
  rw [ht]
  rfl
theorem tn10 {μ : mT} (h : PR μ y) (hi : iY y nt nw tm B) (ht : y.2.2.2[t]? = some e) : f_X7_ofTrain (nI t) 10 μ = some (ssum (y.1 4) e.2, μ) := by
  have hl := (List.getElem?_eq_some_iff.mp ht).1
  have := hi.tok.1
  rw [k_ofTrain h.1 hi]
  unfold qTrain
  rw [tIx_in hl (by omega)]
  dsimp only
  rw [ht]
  rfl
theorem tnk {μ : mT} {k : Nat} (h : PR μ y) (hi : iY y nt nw tm B) (ht : y.2.2.2[t]? = some e) (hk : k < 8) : f_X7_ofTrain (nI t) (2 + nI k) μ = some (atN e.2 k, μ) := by
  have hl := (List.getElem?_eq_some_iff.mp ht).1
  have := hi.tok.1
  have e0 : (0 : Int32) = nI 0 := rfl
  have e1 : (1 : Int32) = nI 1 := rfl
  have e2 : (2 : Int32) = nI 2 := rfl
  have e10 : (10 : Int32) = nI 10 := rfl
  rw [k_ofTrain h.1 hi]
  unfold qTrain
  rw [tIx_in hl (by omega)]
  dsimp only
  rw [ht]
  dsimp only
  rw [e2, nI_add, if_neg (nI_pos (by omega)), e10, if_pos (nI_le (by omega) (by omega)), e0, if_neg (fun z => by have := nI_inj (by omega) (by omega) z; omega), e1, if_neg (fun z => by have := nI_inj (by omega) (by omega) z; omega), if_neg (fun z => by have := nI_inj (by omega) (by omega) z; omega), q_cl (by omega), Nat.add_sub_cancel_left]
theorem lf_1 {μ : mT} {v1 : Int32} (h : PR μ y) (hi : iY y nt nw tm B) (ht : y.2.2.2[t]? = some e) (hlen : (y.2.1 8).length = e.2.length) (hl8 : e.2.length ≤ 8) : ∀ (dd f k : Nat), k + dd = e.2.length → dd + 1 < f → (y.2.1 8).take k = e.2.take k → ∀ K, f_L_isLeft_L53 (nI t) v1 (nI e.2.length) K f 1 (nI k) μ = K (if y.2.1 8 = e.2 then 1 else 0) μ := by
  intro dd
  induction dd with
  | zero =>
    intro f k hk hf hq K
    obtain ⟨f, rfl⟩ : ∃ n', f = n' + 1 := ⟨f - 1, by omega⟩
    rw [List.take_of_length_le (by omega), List.take_of_length_le (by omega)] at hq
    rw [f_L_isLeft_L53, if_pos (nI_le (by omega) (by omega)), if_pos hq]
  | succ dd ih =>
    intro f k hk hf hq K
    obtain ⟨f, rfl⟩ : ∃ n', f = n' + 1 := ⟨f - 1, by omega⟩
    have e1 : (y.2.1 8)[k]? = some (y.2.1 8)[k] := List.getElem?_eq_getElem (by omega)
    have e2 : e.2[k]? = some e.2[k] := List.getElem?_eq_getElem (by omega)
    have w1 := (hi.rOK 8 (by omega)).2.1 _ (List.mem_of_getElem? e1)
    have w2 := (hi.tok.2 t e ht).2.2.2 _ (List.mem_of_getElem? e2)
    rw [f_L_isLeft_L53, if_neg (nI_ge (by omega) (by omega)), if_neg (by decide), tnk h hi ht (by omega), q_bm, ae h hi (by omega), q_bm, atN_at e1, atN_at e2, q_lt]
    by_cases c : (y.2.1 8)[k] = e.2[k]
    · rw [if_pos (by rw [c])]
      dsimp only
      rw [q_lt, nI_1]
      exact ih f (k + 1) (by omega) (by omega) (by rw [List.take_succ, List.take_succ, hq, e1, e2, c]) K
    · rw [if_neg (fun z => c (nI_inj (by omega) (by omega) z.symm))]
      dsimp only
      rw [q_lt, nI_1, if_neg (show ¬ y.2.1 8 = e.2 from fun z => c (by simp only [z]))]
      obtain ⟨f, rfl⟩ : ∃ n', f = n' + 1 := ⟨f - 1, by omega⟩
      rw [f_L_isLeft_L53]
      by_cases c2 : nI e.2.length ≤ nI (k + 1)
      · rw [if_pos c2]
      · rw [if_neg c2, if_pos rfl]
theorem fpS_self {l : List Nat} (h : y.2.1 8 = l) : fpS y l = some [] := by
  unfold fpS
  rw [h]
  have e : lcp l l = l.length := (lcp_eq rfl).mpr rfl
  rw [if_pos e]
  unfold layC
  rw [if_pos rfl]
theorem sLeave_ok (hi : iY y nt nw tm B) (ht : y.2.2.2[t]? = some e) : sLeave y (nI t) = if y.2.1 8 = e.2 then (lateN (y.1 0 6) e.1, sLv y t e.1) else (-5, y) := by
  have hl := (List.getElem?_eq_some_iff.mp ht).1
  have := hi.tok.1
  unfold sLeave
  rw [tIx_in hl (by omega)]
  dsimp only
  rw [ht]
theorem tot_8 (rw : Nat → List Nat) : tot (fun r => if r = 8 then [] else rw r) + (rw 8).length = tot rw := by
  unfold tot
  simp
theorem sLv_f {due : Int32} {a k : Nat} (h : a ≠ 5 ∧ ¬ (a = 0 ∧ (k = 17 ∨ k = 10 ∨ k = 12))) : (sLv y t due).1 a k = y.1 a k := by
  unfold sLv
  dsimp only
  rw [sU_n (by omega), sU_n (by omega), sU_n (by omega), sGone_n h.1]
theorem sLv_5 {due : Int32} {k : Nat} : (sLv y t due).1 5 k = if k ∈ y.2.1 8 then y.1 0 6 else y.1 5 k := by
  unfold sLv
  dsimp only
  rw [sU_n (by omega), sU_n (by omega), sU_n (by omega)]
  unfold sGone
  by_cases c : k ∈ y.2.1 8
  · rw [if_pos ⟨rfl, c⟩, if_pos c]
  · rw [if_neg (fun z => c z.2), if_neg c]
theorem iY_leave (hi : iY y nt nw tm B) (hB : B < 1000000000) (ht : y.2.2.2[t]? = some e) (hc : y.2.1 8 = e.2) : iY (sLv y t e.1) nt nw tm (B + 5000) := by
  have h := kp_leave (a := nI t) (⟨nt, nw, tm, hi⟩ : kY y B) hB
  rw [sLeave_ok hi ht, if_pos hc] at h
  have := hi.tmB
  exact kY_id h (by omega) (by rw [sLv_f (by omega)]; exact hi.hnt) hi.nt8 (by rw [sLv_f (by omega)]; exact hi.hnw) hi.nw30 (by rw [sLv_f (by omega)]; exact hi.htm) (by omega)
theorem pE_leave {due : Int32} (hi : iY y nt nw tm B) (he : pE y nw tm) : pE (sLv y t due) nw tm := by
  obtain ⟨⟨⟨c, c1, c2⟩, a2, a3⟩, b, d, f, g⟩ := he
  have h4 : (sLv y t due).1 4 = y.1 4 := funext fun k => sLv_f (by omega)
  have hT := tot_8 y.2.1
  have hT2 := hi.totn
  refine ⟨⟨⟨c, c1, (sLv_f (by omega)).trans c2⟩, (sLv_f (by omega)).trans a2, (sLv_f (by omega)).trans a3⟩, fun w hw => by rw [h4]; exact b w hw, fun t' ht' => ?_, ?_, fun w hw hn => ?_⟩
  · rw [h4, sLv_f (by omega)]
    show ¬ y.1 1 t' < ssum (y.1 4) (if t' = 8 then [] else y.2.1 t')
    rw [if_neg (by omega)]
    exact d t' ht'
  · have e1 : (sLv y t due).1 0 10 = y.1 0 10 + nI (y.2.1 8).length := by
      unfold sLv
      dsimp only
      rw [sU_n (by omega), sU_s]
    rw [e1, f, nI_add]
    show nI _ = nI (nw - tot (fun r => if r = 8 then [] else y.2.1 r))
    congr 1
    omega
  · rw [sLv_5]
    by_cases q : w ∈ y.2.1 8
    · rw [if_pos q]
      exact ⟨tm, Nat.le_refl _, hi.htm⟩
    · rw [if_neg q]
      refine g w hw (fun r hr hm => ?_)
      by_cases q8 : r = 8
      · subst q8; exact q hm
      · exact hn r hr (by show w ∈ (if r = 8 then [] else y.2.1 r); rw [if_neg q8]; exact hm)
theorem l_isLeft {μ : mT} (h : PR μ y) (hi : iY y nt nw tm B) (he : pE y nw tm) (hz : pZ y nw) (hB : B < 900000000) (ht : t ≤ y.2.2.2.length) : Gd (f_L_isLeft (nI t) μ) (LI nt (B + 5000)) := by
  have h8 := hi.tok.1
  have htm := hi.tmB
  obtain ⟨hc, hp, hh⟩ := h
  have h : PR μ y := ⟨hc, hp, hh⟩
  unfold f_L_isLeft
  rw [c6 h hi, q_bm]
  by_cases htn : t = y.2.2.2.length
  · subst htn
    rw [if_neg Int32.lt_irrefl]
    obtain ⟨μ', k1, k2, k3⟩ := PRc (kt_leave (a := nI y.2.2.2.length) hh hc hi)
    have er : sLeave y (nI y.2.2.2.length) = (-1, y) := by
      unfold sLeave
      have : tIx y.2.2.2.length (nI y.2.2.2.length) = none := by
        unfold tIx
        rw [if_neg (nI_pos (by omega)), q_cl (by omega), if_neg (by omega)]
      rw [this]
    rw [er] at k1 k2
    rw [k1, if_pos rfl]
    exact gd_some ⟨y, nw, tm, k2, hi.up (by omega), he, hz⟩
  have htl : t < y.2.2.2.length := by omega
  obtain ⟨e, hte⟩ : ∃ e, y.2.2.2[t]? = some e := ⟨_, List.getElem?_eq_getElem htl⟩
  obtain ⟨o1, o2, o3, o4⟩ := hi.tok.2 t e hte
  obtain ⟨⟨d, d1, d2⟩, hew⟩ := hi.2.2.2.2.2.2.2.2.2.2 e (List.mem_of_getElem? hte)
  have hl8 := (hi.rOK 8 (by omega)).1
  rw [if_pos ((nI_ltI (by omega) (by omega)).mpr htl), tn0 h hi hte, q_bm, c3 h hi, q_bm]
  refine gd_lt (fun J7 hJ7 => ?_)
  have m7 : (if nI e.2.length = nI (y.2.1 8).length then J7 1 μ else J7 0 μ) = J7 (if e.2.length = (y.2.1 8).length then 1 else 0) μ := by
    by_cases c : e.2.length = (y.2.1 8).length
    · rw [if_pos (by rw [c]), if_pos c]
    · rw [if_neg (fun z => c (nI_inj (by omega) (by omega) z)), if_neg c]
  rw [m7, hJ7]
  dsimp only
  refine gd_lt (fun K13 hK13 => ?_)
  have m13 : f_L_isLeft_L53 (nI t) (nI y.2.2.2.length) (nI e.2.length) K13 fu (if e.2.length = (y.2.1 8).length then 1 else 0) 0 μ = K13 (if y.2.1 8 = e.2 then 1 else 0) μ := by
    have hfu : 100 < fu := by unfold fu; omega
    generalize fu = F at hfu ⊢
    by_cases c : e.2.length = (y.2.1 8).length
    · rw [if_pos c]
      exact lf_1 h hi hte c.symm o2 e.2.length F 0 (by omega) (by omega) (by rw [List.take_zero, List.take_zero]) K13
    · rw [if_neg c, if_neg (show ¬ y.2.1 8 = e.2 from fun z => c (by rw [z]))]
      obtain ⟨F, rfl⟩ : ∃ n', F = n' + 1 := ⟨F - 1, by omega⟩
      rw [f_L_isLeft_L53, if_neg (show ¬ nI e.2.length ≤ 0 from fun z => nI_ge (a := 0) (b := e.2.length) (by omega) (by omega) z), if_pos rfl]
  rw [m13, hK13]
  dsimp only
  rw [c0 h hi, q_bm, tn1 h hi hte, q_bm]
  refine gd_lt (fun J20 hJ20 => ?_)
  have m20 : (if y.1 0 6 ≤ e.1 then J20 0 μ else bm (f_X7_count 0 μ) μ (fun v59 μ60 => bm (f_X7_ofTrain (nI t) 1 μ60) μ60 (fun v61 μ62 => J20 (v59 - v61) μ62))) = J20 (lateN (y.1 0 6) e.1) μ := by
    have hL := late_eq (m := tm) (d := d) (by omega) (by omega)
    rw [← hi.htm, ← d2] at hL
    rw [← hL]
    by_cases c : y.1 0 6 ≤ e.1
    · rw [if_pos c, if_pos c]
    · rw [if_neg c, if_neg c, c0 h hi, q_bm, tn1 h hi hte, q_bm]
  rw [m20, hJ20]
  dsimp only
  obtain ⟨w0, ew0⟩ : ∃ w0, e.2[0]? = some w0 := ⟨_, List.getElem?_eq_getElem (by omega)⟩
  have et2 : f_X7_ofTrain (nI t) 2 μ = some (nI w0, μ) := by
    have := tnk (k := 0) h hi hte (by omega)
    rw [atN_at ew0] at this
    exact this
  rw [c12 h hi, q_bm, c7 h hi, q_bm, et2, q_bm]
  refine gd_lt (fun J29 hJ29 => ?_)
  have m29 : ∀ μ1, PR μ1 y → Gd (J29 μ1) (LI nt (B + 5000)) := by
    intro μ1 h
    obtain ⟨hc, hp, hh⟩ := h
    obtain ⟨μ', k1, k2, k3⟩ := PRc (kt_leave (a := nI t) hh hc hi)
    rw [sLeave_ok hi hte] at k1 k2
    rw [hJ29]
    dsimp only
    by_cases c : y.2.1 8 = e.2
    · rw [if_pos c] at k1 k2
      dsimp only at k1 k2
      have hi' := iY_leave hi (by omega) hte c
      have he' := pE_leave (t := t) (due := e.1) hi he
      have hz' : pZ (sLv y t e.1) nw := fun w h1 h2 => by rw [sLv_f (by omega)]; exact hz w h1 h2
      have hw8 : w0 ∈ y.2.1 8 := by rw [c]; exact List.mem_of_getElem? ew0
      have hno : ∀ r, r < 9 → w0 ∉ (sLv y t e.1).2.1 r := fun r hr hm => by
        have hm : w0 ∈ (if r = 8 then [] else y.2.1 r) := hm
        by_cases q : r = 8
        · rw [if_pos q] at hm; exact List.not_mem_nil hm
        · rw [if_neg q] at hm
          exact q (hi.2.2.2.1 r 8 w0 hr (by omega) hm hw8)
      have e12 : (sLv y t e.1).1 0 17 = y.1 0 17 + lateN (y.1 0 6) e.1 * y.1 0 5 := by
        unfold sLv
        dsimp only
        rw [sU_n (by omega), sU_n (by omega), sU_s]
      have e7 : (sLv y t e.1).1 0 12 = y.1 0 12 + 1 := by
        unfold sLv
        dsimp only
        rw [sU_s]
      have e6 : (sLv y t e.1).2.2.2.length = y.2.2.2.length - 1 := by
        show (y.2.2.2.eraseIdx t).length = _
        rw [List.length_eraseIdx, if_pos htl]
      have e3 : ((sLv y t e.1).2.1 8).length = 0 := rfl
      have e1' : (1 : Int32) = nI 1 := rfl
      have ew : f_X7_ofWagon (nI w0) 4 μ' = some (y.1 0 6, μ') := by
        rw [v4g k2 hi' (w30 hi (by omega) hw8) hno, sLv_5, if_pos hw8]
      rw [k1, if_pos c, if_neg (by decide), if_pos rfl, c12 k2 hi', q_bm, e12, c20 k2 hi', q_bm, sLv_f (by omega), if_pos rfl, c6 k2 hi', q_bm, e6, if_pos (by rw [e1', q_sub (by omega)]), c7 k2 hi', q_bm, e7, if_pos rfl, c3 k2 hi', q_bm, e3, if_pos (show nI 0 = (0 : Int32) from rfl), ew, q_bm, c0 k2 hi', q_bm, sLv_f (by omega), if_pos rfl]
      exact gd_some ⟨_, nw, tm, k2, hi', he', hz'⟩
    · rw [if_neg c] at k1 k2
      dsimp only at k1 k2
      rw [k1, if_neg c, if_pos rfl, if_pos rfl, c6 k2 hi, q_bm, if_pos rfl, c7 k2 hi, q_bm, if_pos rfl]
      exact gd_some ⟨y, nw, tm, k2, hi.up (by omega), he, hz⟩
  by_cases c : y.2.1 8 = e.2
  · rw [if_pos c, if_neg (by decide)]
    have hfp := fpS_self c
    obtain ⟨μ1, p1, p2⟩ := PRq h (k_moves (a := nI t) h.1 hi.gn)
    have em : qMov y nt (nI t) = 0 := by
      unfold qMov
      rw [tIx_in htl (by omega)]
      dsimp only
      rw [hte]
      dsimp only
      unfold mvS
      rw [if_pos c]
    obtain ⟨μ2, r1, r2⟩ := PRq p2 (k_pulls (a := nI t) p2.1 hi.gn)
    have ep : qPul y (nI t) = 0 := by
      unfold qPul
      rw [tIx_in htl (by omega)]
      dsimp only
      rw [hte]
      dsimp only
      rw [hfp]
      rfl
    obtain ⟨μ3, s1, s2⟩ := PRq r2 (k_wouldLeave (a := nI t) r2.1 hi)
    have ewl : qWou y (nI t) = y.1 0 6 := by
      unfold qWou
      rw [tIx_in htl (by omega)]
      dsimp only
      rw [hte]
      dsimp only
      rw [hfp]
      rfl
    rw [p1, em, if_pos rfl, r1, ep, if_pos rfl, s1, ewl, c0 s2 hi, q_bm, if_pos rfl]
    exact m29 μ3 s2
  · rw [if_neg c, if_pos rfl]
    exact m29 μ h
end LEFT
