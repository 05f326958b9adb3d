theorem sU_c {s : sT} {a k a' k' : Nat} {x x' : Int32} (h : ¬ (a' = a ∧ k' = k)) : sU (sU s a k x) a' k' x' = sU (sU s a' k' x') a k x := by
  funext b l
  unfold sU
  grind
theorem m_wsh {t were : Nat} {w a1 : Int32} {ρ : Nat → Int32} (ht : t < 8) (hst : were < 30) : ∀ (d f : Nat) (μ : mT), d ≤ were → d < f → (∀ x, μ 28 0 x = if 60 + 30 * t + d < x ∧ x ≤ 60 + 30 * t + were then ρ (x - 1) else ρ x) →
    ∃ μ', (∀ K, f_X8_wagon_L129 a1 w (nI (60 + 30 * t)) K f (nI d) μ = K μ') ∧ (∀ x, μ' 28 0 x = if 60 + 30 * t < x ∧ x ≤ 60 + 30 * t + were then ρ (x - 1) else ρ x) ∧ only μ μ' Mo := by
  intro d
  induction d with
  | zero =>
    intro f μ hi hf hx
    obtain ⟨f, rfl⟩ : ∃ n', f = n' + 1 := ⟨f - 1, by omega⟩
    refine ⟨μ, ?_, hx, only.rf⟩
    intro K
    rw [f_X8_wagon_L129, if_pos (by decide)]
  | succ d ih =>
    intro f μ hi hf hx
    obtain ⟨f, rfl⟩ : ∃ n', f = n' + 1 := ⟨f - 1, by omega⟩
    have er : μ 28 0 (60 + 30 * t + (d + 1) - 1) = ρ (60 + 30 * t + d) := by rw [hx, if_neg (by omega)]; rfl
    have hstep : ∀ K, f_X8_wagon_L129 a1 w (nI (60 + 30 * t)) K (f + 1) (nI (d + 1)) μ = f_X8_wagon_L129 a1 w (nI (60 + 30 * t)) K f (nI d) (upM μ 28 0 (60 + 30 * t + (d + 1)) (ρ (60 + 30 * t + d))) := by
      intro K
      rw [f_X8_wagon_L129, if_neg (nI_nle (by omega) (by omega)), q_m1 (by omega), z_l1]
      simp (disch := omega) only [q_add, q_sub, q_gdi, q_cl, q_lt, er]
      rfl
    simp only [hstep]
    obtain ⟨μ', g1, g2, g3⟩ := ih f (upM μ 28 0 (60 + 30 * t + (d + 1)) (ρ (60 + 30 * t + d))) (by omega) (by omega) (fun x => by
      rw [r28, upd_e, hx]
      by_cases c : x = 60 + 30 * t + (d + 1)
      · subst c
        rw [if_pos rfl, if_pos (by omega)]
        rfl
      · rw [if_neg c]
        by_cases c2 : 60 + 30 * t + (d + 1) < x ∧ x ≤ 60 + 30 * t + were
        · rw [if_pos c2, if_pos (by omega)]
        · rw [if_neg c2, if_neg (by omega)])
    exact ⟨μ', g1, g2, (only28 rfl).tr g3⟩
theorem m_wagon {nt nw tm B : Nat} {a b : Int32} {y : yT} {hp : hT} {tx : Bool} {μ : mT} (h : hM μ y hp tx) (hi : iY y nt nw tm B) (hf : hF hp) :
    MR μ y hp tx (sWagon y a b) (f_X8_wagon a b μ) := by
  unfold f_X8_wagon sWagon
  rw [m_isTrack h.1 hi.hnt hi.nt8, q_bd]
  by_cases ht : isT y a = true
  case neg =>
    rw [if_neg ht, if_neg ht, if_pos p00]
    exact MR.no h _ (by decide)
  obtain ⟨t, ht1, rfl⟩ := isT_in hi.hnt hi.nt8 ht
  have hn8 := hi.nt8
  have ht8 : t < 8 := by omega
  rw [if_pos ht, if_pos ht, if_neg n10, m_in, q_bd]
  by_cases hb : b < 1 ∨ 4 < b
  case pos =>
    rw [if_pos hb, if_pos hb, if_pos p00]
    exact MR.no h _ (by decide)
  rw [if_neg hb, if_neg hb, if_neg n10]
  have f8 : μ 28 0 (8 : Int32).toNatClampNeg = nI nw := (h.1.1.z (k := 8) (by omega)).trans hi.hnw
  have hw30 := hi.nw30
  rw [f8, hi.hnw, z_l30]
  by_cases h30 : 30 ≤ nw
  case pos =>
    rw [if_pos (nI_le h30 (by omega)), if_pos (show nI nw = nI 30 from by rw [show nw = 30 by omega])]
    exact MR.no h _ (by decide)
  rw [if_neg (nI_ge (by omega) (by omega)), if_neg (show ¬ nI nw = nI 30 from by rw [nI_eq (by omega) (by omega)]; omega), m_lengthOn h.1 hi.rOK ht8, q_bd, z_l20, z_l4, q_mul, q_add, q_gdi (by omega) (by omega), q_cl (by omega), q_cl (by omega), q_cl (by omega), h.1.1.t1 ht8]
  by_cases hff : y.1 1 t < ssum (y.1 4) (y.2.1 t) + b
  case pos =>
    rw [if_pos hff, if_neg (Int32.not_le.mpr hff)]
    exact MR.no h _ (by decide)
  rw [if_neg hff, if_pos (Int32.not_lt.mp hff)]
  have hlt30 : (y.2.1 t).length < 30 := by
    have := hi.totn
    have := tot_one (rw := y.2.1) (r := t) (by omega)
    omega
  obtain ⟨μ1, b1, b2, b3, b4⟩ := m_record h hi.g hf
  have g8 : μ1 28 0 (8 : Int32).toNatClampNeg = nI nw := (b2.1.1.z (k := 8) (by omega)).trans hi.hnw
  rw [b1, q_bd, g8, q_lt, z_l330, z_l1, q_mul, q_add, q_add, q_add, q_gdi (by omega) (by omega), q_cl (by omega), q_lt, q_gdi (by omega) (by omega), q_cl (by omega), q_lt]
  have h1 := b2.1.up hi.g (a0 := 4) (k0 := nw) (i := 330 + 4 * nw) b (sdw (by omega) (by omega)) rfl
  have h2 := h1.up hi.g (a0 := 5) (k0 := nw) (i := 330 + 4 * nw + 1) (-6) (sdw (by omega) (by omega)) (by unfold mi; simp only [Nat.reduceEqDiff, ↓reduceIte]; omega)
  have h3 := h2.up hi.g (a0 := 0) (k0 := 8) (i := 8) (nI (nw + 1)) (sd0 (by omega)) rfl
  have g82 : upM (upM μ1 28 0 (330 + 4 * nw) b) 28 0 (330 + 4 * nw + 1) (-6) 28 0 (8 : Int32).toNatClampNeg = nI nw := by
    rw [r28, r28, upd_e, upd_e, if_neg (by show ¬ 8 = _; omega), if_neg (by show ¬ 8 = _; omega)]
    exact g8
  rw [g82, q_add, q_lt]
  have o2 : only μ1 (upM (upM (upM μ1 28 0 (330 + 4 * nw) b) 28 0 (330 + 4 * nw + 1) (-6)) 28 0 (8 : Int32).toNatClampNeg (nI (nw + 1))) Mo := (only28 rfl).tr ((only28 rfl).tr (only28 rfl))
  have h4 : mY (upM (upM (upM μ1 28 0 (330 + 4 * nw) b) 28 0 (330 + 4 * nw + 1) (-6)) 28 0 (8 : Int32).toNatClampNeg (nI (nw + 1)) 28 0) (sU (sU (sU y.1 4 nw b) 5 nw (-6)) 0 8 (nI (nw + 1)), y.2) := by
    rw [r28, r28, r28]
    exact h3
  generalize upM (upM (upM μ1 28 0 (330 + 4 * nw) b) 28 0 (330 + 4 * nw + 1) (-6)) 28 0 (8 : Int32).toNatClampNeg (nI (nw + 1)) = μ2 at h4 o2 ⊢
  rw [z_l60, q_mul, q_add, q_lt, m_manyOn h4 ht8, q_bd]
  obtain ⟨μ3, c1, c2, c3⟩ := m_wsh (t := t) (were := (y.2.1 t).length) (w := nI nw) (a1 := nI t) (ρ := μ2 28 0) ht8 hlt30 (y.2.1 t).length fu μ2 (Nat.le_refl _) (by unfold fu; omega) (fun x => by rw [if_neg (by omega)])
  rw [q_lt]
  dsimp only
  rw [c1, q_gdi (by omega) (by omega), q_cl (by omega), q_lt, q_add, q_gdi (by omega) (by omega), q_gdi (by omega) (by omega), q_cl (by omega), q_lt]
  have e1 : upM μ3 28 0 (60 + 30 * t) (nI nw) 28 0 (20 + 4 * t + 1) = nI (y.2.1 t).length := by
    rw [r28, upd_e, if_neg (by omega), c2, if_neg (by omega)]
    exact h4.2.1.n ht8
  rw [e1, q_add]
  refine MR.yes b2 b3 b4 ?_ (o2.tr (c3.tr ((only28 rfl).tr (only28 rfl)))) (nI_pos (by omega))
  rw [r28, r28]
  have hx : ∀ x, upd (upd (μ3 28 0) (60 + 30 * t) (nI nw)) (20 + 4 * t + 1) (nI ((y.2.1 t).length + 1)) x = if x = 20 + 4 * t + 1 then nI ((y.2.1 t).length + 1) else if x = 60 + 30 * t then nI nw else if 60 + 30 * t < x ∧ x ≤ 60 + 30 * t + (y.2.1 t).length then μ2 28 0 (x - 1) else μ2 28 0 x := fun x => by
    rw [upd_e, upd_e, c2]
  have es : (sU (sU (sU y.1 4 nw b) 5 nw (-6)) 0 8 (nI (nw + 1))) = sU (sU (sU y.1 0 8 (nI (nw + 1))) 4 nw b) 5 nw (-6) := by
    rw [sU_c (a := 5) (by omega), sU_c (a := 4) (by omega)]
  refine ⟨?_, fun r hr => ?_, h4.2.2.1.cong (fun x hq => ?_), h4.2.2.2.cong hi.tok (fun x hq => ?_)⟩
  · intro a0 k0 hd
    dsimp only
    rw [← es]
    have hm : mi a0 k0 < 60 ∨ 330 ≤ mi a0 k0 := by unfold mi; unfold sdom at hd; grind (splits := 40)
    have hm1 : ¬ mi a0 k0 = 20 + 4 * t + 1 := by unfold mi; unfold sdom at hd; grind (splits := 40)
    rw [hx, if_neg hm1, if_neg (by omega), if_neg (by omega)]
    exact h4.1 a0 k0 hd
  · dsimp only
    by_cases c : r = t
    · subst c
      rw [if_pos rfl, rc_t ht8, hx, if_pos rfl]
      refine ⟨by rw [List.length_cons], fun p w hp => ?_⟩
      rw [hx, if_neg (by omega)]
      cases p with
      | zero =>
        simp at hp
        rw [if_pos (by omega), hp]
      | succ p =>
        rw [List.getElem?_cons_succ] at hp
        have := (List.getElem?_eq_some_iff.mp hp).1
        rw [if_neg (by omega), if_pos (by omega)]
        exact (h4.2.1 r hr).2 p w hp
    · rw [if_neg c]
      have hl := (hi.rOK r hr).1
      have hk := h4.2.1 r hr
      dsimp only at hk
      refine ⟨?_, fun p w hp => ?_⟩
      · rw [hx, if_neg (by unfold rc; split <;> omega), if_neg (by unfold rc; split <;> omega), if_neg (by unfold rc; split <;> omega)]
        exact hk.1
      · have := (List.getElem?_eq_some_iff.mp hp).1
        rw [hx, if_neg (by omega), if_neg (by omega), if_neg (by omega)]
        exact hk.2 p w hp
  · rw [hx, if_neg (by omega), if_neg (by omega), if_neg (by omega)]
  · rw [hx, if_neg (by omega), if_neg (by omega), if_neg (by omega)]
