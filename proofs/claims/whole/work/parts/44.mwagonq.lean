theorem plc_n6 {d : List Nat} {w : Nat} (hl : d.length ≤ 30) : plc d w = -6 ∨ ∃ i, i < d.length ∧ plc d w = nI i := by
  unfold plc
  cases e : idx w d with
  | none => exact Or.inl rfl
  | some i => exact Or.inr ⟨i, (List.getElem?_eq_some_iff.mp (idx_some e)).1, rfl⟩
theorem plc_mem {d : List Nat} {w : Nat} (hl : d.length ≤ 30) : plc d w < 0 ↔ w ∉ d := by
  unfold plc
  cases e : idx w d with
  | none => exact ⟨fun _ => idx_none e, fun _ => by decide⟩
  | some i => 
    have := (List.getElem?_eq_some_iff.mp (idx_some e)).1
    exact ⟨fun q => absurd q (nI_pos (by omega)), fun q => absurd (List.mem_of_getElem? (idx_some e)) q⟩
theorem m_ofWagon {nt nw tm B : Nat} {a b : Int32} {y : yT} {μ : mT} (h : mY (μ 28 0) y) (hi : iY y nt nw tm B) : f_X8_ofWagon a b μ = some (qWagon y a b, μ) := by
  have hnw := hi.nw30
  unfold f_X8_ofWagon qWagon
  rw [m_isWagon h hi.hnw hi.nw30, q_bd]
  by_cases h0 : a < 0
  · rw [if_pos h0, if_neg (show ¬ (tIx nw a).isSome = true from by unfold tIx; rw [if_pos h0]; decide), if_pos p00]
  obtain ⟨w, hw, rfl⟩ := nI_of h0
  rw [if_neg h0, hi.hnw, q_cl hw]
  by_cases h1 : w < nw
  case neg =>
    rw [if_neg (show ¬ nI w < nI nw from by rw [nI_ltI hw (by omega)]; exact h1), if_neg (show ¬ (tIx nw (nI w)).isSome = true from by unfold tIx; rw [if_neg h0, q_cl hw, if_neg h1]; decide), if_pos p00]
  rw [if_pos (nI_lt h1 (by omega)), if_pos (show (tIx nw (nI w)).isSome = true from by unfold tIx; rw [if_neg h0, q_cl hw, if_pos h1]; rfl), if_neg n10, m_trackOf h hi.gn (by omega), q_bd]
  have e9 : μ 28 0 (9 : Int32).toNatClampNeg = nI (y.2.1 8).length := h.2.1.n8
  have p8 := m_placeIn (w := w) h hi.rOK (r := 8) (by omega) (by omega)
  rw [show nI (60 + 30 * 8) = 300 from rfl] at p8
  rw [e9, p8, q_bd, q_lt]
  have hl8 := (hi.rOK 8 (by omega)).1
  have hdis := hi.2.2.2.1
  -- the three places
  have hpl : (if (0 : Int32) ≤ tkOf y.2.1 w then (∃ t, t < 8 ∧ tkOf y.2.1 w = nI t ∧ rOf y.2.1 w = nI t ∧ plc (y.2.1 8) w = -6) else ((rOf y.2.1 w = 8 ∧ ¬ plc (y.2.1 8) w < 0) ∨ (rOf y.2.1 w = -6 ∧ plc (y.2.1 8) w = -6)) ∧ tkOf y.2.1 w = -6) := by
    unfold tkOf
    by_cases c6 : rOf y.2.1 w = -6
    · rw [if_neg (by rw [c6]; decide), if_neg (by rw [c6]; decide)]
      refine ⟨Or.inr ⟨c6, ?_⟩, c6⟩
      rcases plc_n6 (w := w) hl8 with q | ⟨i, q1, q2⟩
      · exact q
      · have := (plc_mem (w := w) hl8).mpr (rOf_out c6 8 (by omega))
        rw [q2] at this
        exact absurd this (nI_pos (by omega))
    · obtain ⟨r, hr, hr1, hr2⟩ := rOf_in c6
      by_cases c8 : r = 8
      · subst c8
        rw [hr1]
        rw [if_pos (show nI 8 = 8 from rfl), if_neg (by decide)]
        exact ⟨Or.inl ⟨rfl, fun q => (plc_mem hl8).mp q hr2⟩, rfl⟩
      · have hne : ¬ rOf y.2.1 w = 8 := by
          rw [hr1, z_l8, nI_eq (by omega) (by omega)]
          exact c8
        rw [if_neg hne, if_pos (by rw [hr1]; exact nI_pos' (by omega))]
        refine ⟨r, by omega, hr1, hr1, ?_⟩
        rcases plc_n6 (w := w) hl8 with q | ⟨i, q1, q2⟩
        · exact q
        · have := (plc_mem (w := w) hl8).mpr (fun z => c8 (hdis r 8 w hr (by omega) hr2 z))
          rw [q2] at this
          exact absurd this (nI_pos (by omega))
  have hw5 := hi.2.2.2.2.2.2.1 w h1
  have e330 : (330 : Int32) + 4 * nI w = nI (330 + 4 * w) := by rw [z_l330, z_l4, q_mul, q_add]
  have e331 : nI (330 + 4 * w) + 1 = nI (330 + 4 * w + 1) := nI_1 _
  have e332 : nI (330 + 4 * w) + 2 = nI (330 + 4 * w + 2) := by rw [z_l2, q_add]
  have elen : f_X8_lengthOf (nI w) μ = some (y.1 4 w, μ) := by
    unfold f_X8_lengthOf
    rw [e330, q_gdi (by omega) (by omega), q_cl (by omega), h.1.w4 (by omega)]
  have etr := m_trainOf (w := w) h hi.tok (by omega)
  have hmem : ∀ r, r < 9 → rOf y.2.1 w = nI r → w ∈ y.2.1 r := fun r hr q => by
    obtain ⟨r', hr', q1, q2⟩ := rOf_in (w := w) (rw := y.2.1) (by rw [q]; exact q_n6 (by omega))
    rw [q, nI_eq (by omega) (by omega)] at q1
    rw [q1]
    exact q2
  by_cases c0 : (0 : Int32) ≤ tkOf y.2.1 w
  · rw [if_pos c0] at hpl
    obtain ⟨t, ht, e1, e2, e3⟩ := hpl
    have et : (60 : Int32) + 30 * nI t = nI (60 + 30 * t) := by rw [z_l60, z_l30, q_mul, q_add]
    have n8 : ¬ nI t = 8 := by rw [z_l8, nI_eq (by omega) (by omega)]; omega
    rw [if_pos c0, e1, m_manyOn h ht, q_bd, et, m_placeIn h hi.rOK (by omega) (by omega), q_bd, e2, e3]
    simp only [↓reduceIte, if_neg n8, if_neg (q_n6 (i := t) (by omega))]
    unfold rwI
    rw [q_cl (by omega)]
    rw [elen, q_bd, e330, e331, e332, q_gdi (by omega) (by omega), q_gdi (by omega) (by omega), q_cl (by omega), q_cl (by omega), h.1.w5 (by omega), h.1.w6 (by omega), etr, q_bd, if_pos (nI_pos' (by omega))]
    by_cases b0 : b = 0
    · rw [if_pos b0, if_pos b0]
    rw [if_neg b0, if_neg b0]
    by_cases b1 : b = 1
    · rw [if_pos b1, if_pos b1]
    rw [if_neg b1, if_neg b1]
    by_cases b2 : b = 2
    · rw [if_pos b2, if_pos b2]
    rw [if_neg b2, if_neg b2]
    by_cases b3 : b = 3
    · rw [if_pos b3, if_pos b3, if_pos (show (-6 : Int32) < 0 from by decide)]
    rw [if_neg b3, if_neg b3]
    by_cases b4 : b = 4
    · rw [if_pos b4, if_pos b4]
      rw [hw5 t (by omega) (hmem t (by omega) e2)]
    rw [if_neg b4, if_neg b4]
    by_cases b5 : b = 5
    · rw [if_pos b5, if_pos b5]
    rw [if_neg b5, if_neg b5]
    by_cases b6 : b = 6
    · rw [if_pos b6, if_pos b6]
    rw [if_neg b6, if_neg b6]
    by_cases b7 : b = 7
    · rw [if_pos b7, if_pos b7]
    rw [if_neg b7, if_neg b7]
  · rw [if_neg c0] at hpl
    obtain ⟨hpl, hk⟩ := hpl
    rw [if_neg c0, hk]
    dsimp only
    rw [elen, q_bd, e330, e331, e332, q_gdi (by omega) (by omega), q_gdi (by omega) (by omega), q_cl (by omega), q_cl (by omega), h.1.w5 (by omega), h.1.w6 (by omega), etr, q_bd, if_neg (show ¬ (0 : Int32) ≤ -6 from by decide)]
    rcases hpl with ⟨r8, p8'⟩ | ⟨r6, p6⟩
    · rw [r8]
      simp only [↓reduceIte, if_pos (show (8 : Int32) = 8 from rfl), if_neg p8', if_neg (show ¬ (8 : Int32) = -6 from by decide)]
      have hr8 : rwI y.2.1 8 = y.2.1 8 := rfl
      rw [hr8]
      by_cases b0 : b = 0
      · rw [if_pos b0, if_pos b0]
      rw [if_neg b0, if_neg b0]
      by_cases b1 : b = 1
      · rw [if_pos b1, if_pos b1]
      rw [if_neg b1, if_neg b1]
      by_cases b2 : b = 2
      · rw [if_pos b2, if_pos b2]
      rw [if_neg b2, if_neg b2]
      by_cases b3 : b = 3
      · rw [if_pos b3, if_pos b3]
      rw [if_neg b3, if_neg b3]
      by_cases b4 : b = 4
      · rw [if_pos b4, if_pos b4]
        rw [hw5 8 (by omega) (hmem 8 (by omega) r8)]
      rw [if_neg b4, if_neg b4]
      by_cases b5 : b = 5
      · rw [if_pos b5, if_pos b5]
      rw [if_neg b5, if_neg b5]
      by_cases b6 : b = 6
      · rw [if_pos b6, if_pos b6]
      rw [if_neg b6, if_neg b6]
      by_cases b7 : b = 7
      · rw [if_pos b7, if_pos b7]
      rw [if_neg b7, if_neg b7]
    · rw [r6, p6]
      simp only [↓reduceIte, if_pos (show (-6 : Int32) = -6 from rfl), if_neg (show ¬ (-6 : Int32) = 8 from by decide), if_pos (show (-6 : Int32) < 0 from by decide)]
      by_cases b0 : b = 0
      · rw [if_pos b0, if_pos b0]
      rw [if_neg b0, if_neg b0]
      by_cases b1 : b = 1
      · rw [if_pos b1, if_pos b1]
      rw [if_neg b1, if_neg b1]
      by_cases b2 : b = 2
      · rw [if_pos b2, if_pos b2]
      rw [if_neg b2, if_neg b2]
      by_cases b3 : b = 3
      · rw [if_pos b3, if_pos b3]
      rw [if_neg b3, if_neg b3]
      by_cases b4 : b = 4
      · rw [if_pos b4, if_pos b4]
      rw [if_neg b4, if_neg b4]
      by_cases b5 : b = 5
      · rw [if_pos b5, if_pos b5]
      rw [if_neg b5, if_neg b5]
      by_cases b6 : b = 6
      · rw [if_pos b6, if_pos b6]
      rw [if_neg b6, if_neg b6]
      by_cases b7 : b = 7
      · rw [if_pos b7, if_pos b7]
      rw [if_neg b7, if_neg b7]
