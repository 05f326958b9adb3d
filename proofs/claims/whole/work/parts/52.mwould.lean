theorem m_zero2 : ∀ (d f i : Nat) (μ : mT), i + d = 8 → d < f → (∀ r, r < i → μ 36 0 r = 0) →
    ∃ μ', (∀ K, f_X8_wouldLeave_L23 K f (nI i) μ = K μ') ∧ (∀ r, r < 8 → μ' 36 0 r = 0) ∧ only μ μ' (fun κ j => κ = 36 ∧ j = 0) := by
  intro d
  induction d with
  | zero =>
    intro f i μ hi hf hx
    obtain ⟨f, rfl⟩ : ∃ n', f = n' + 1 := ⟨f - 1, by omega⟩
    refine ⟨μ, fun K => ?_, fun r hr => hx r (by omega), only.rf⟩
    rw [f_X8_wouldLeave_L23, z_l8, if_pos (nI_le (by omega) (by omega))]
  | succ d ih =>
    intro f i μ hi hf hx
    obtain ⟨f, rfl⟩ : ∃ n', f = n' + 1 := ⟨f - 1, by omega⟩
    obtain ⟨μ', g1, g2, g3⟩ := ih f (i + 1) (upM μ 36 0 i 0) (by omega) (by omega) (fun r hr => by
      rw [q_up]
      by_cases c : r = i
      · rw [if_pos ⟨rfl, rfl, c⟩]
      · rw [if_neg (fun z => c z.2.2)]; exact hx r (by omega))
    refine ⟨μ', fun K => ?_, g2, (q_uple rfl).tr g3⟩
    rw [f_X8_wouldLeave_L23, z_l8, if_neg (nI_ge (by omega) (by omega)), q_gdi (by omega) (by omega), q_cl (by omega), q_lt, q_lt, show (nI i + 1 : Int32) = nI (i + 1) from nI_1 i]
    exact g1 K
theorem m_wl {y : yT} {ps : List (Nat × Nat)} (hg : gY y) (hps : ps.length ≤ 8) (h8 : ∀ p ∈ ps, p.1 < 8 ∧ p.2 ≤ 30) : ∀ (d f i : Nat) (k : Nat → Nat) (t : Int32) (μ : mT), i + d = ps.length → d < f → TK μ k → (∀ r, r < 8 → k r ≤ 30 * i) → PL μ ps → mY (μ 28 0) y →
    ∃ μ', f_X8_wouldLeave_L52 f t (nI i) μ = some (wl y.2.1 y.2.2.1 (y.1 0 2) (y.1 0 3) k t (ps.drop i), μ') ∧ only μ μ' (fun κ j => κ = 36 ∧ j = 0) := by
  intro d
  induction d with
  | zero =>
    intro f i k t μ hi hf hT hk hP h
    obtain ⟨f, rfl⟩ : ∃ n', f = n' + 1 := ⟨f - 1, by omega⟩
    rw [f_X8_wouldLeave_L52, hP.1, if_pos (nI_le (by omega) (by omega)), List.drop_eq_nil_of_le (by omega)]
    exact ⟨μ, rfl, only.rf⟩
  | succ d ih =>
    intro f i k t μ hi hf hT hk hP h
    obtain ⟨f, rfl⟩ : ∃ n', f = n' + 1 := ⟨f - 1, by omega⟩
    obtain ⟨⟨r, n⟩, hrn⟩ : ∃ q, ps[i]? = some q := ⟨_, List.getElem?_eq_getElem (by omega)⟩
    obtain ⟨hr8, hn30⟩ := h8 _ (List.mem_of_getElem? hrn)
    dsimp only at hr8 hn30
    obtain ⟨p1, p2⟩ := hP.2 i r n hrn
    have hkr := hk r hr8
    have hl30 := (hg.1 r (by omega)).1
    have e1 : ∀ x, (nI x + 1 : Int32) = nI (x + 1) := nI_1
    rw [f_X8_wouldLeave_L52, hP.1, if_neg (nI_ge (by omega) (by omega)), q_gdi (by omega) (by omega), q_cl (by omega), p1, q_lt, q_gdi hr8 (by omega), q_gdi (by omega) (by omega), q_gdi hr8 (by omega), q_cl (by omega), hT r hr8, p2, q_add, q_lt]
    have hT1 : TK (upM μ 36 0 r (nI (k r + n))) (fun r' => if r' = r then k r + n else k r') := fun r' hr' => by
      rw [q_up]
      dsimp only
      by_cases c : r' = r
      · rw [if_pos c, if_pos ⟨rfl, rfl, c⟩]
      · rw [if_neg c, if_neg (fun z => c z.2.2)]
        exact hT r' hr'
    have hP1 : PL (upM μ 36 0 r (nI (k r + n))) ps := ⟨by rw [q_upn (by omega)]; exact hP.1, fun i a b q => by rw [q_upn (by omega), q_upn (by omega)]; exact hP.2 i a b q⟩
    have ho1 : only μ (upM μ 36 0 r (nI (k r + n))) (fun κ j => κ = 36 ∧ j = 0) := q_uple rfl
    have h281 : mY ((upM μ 36 0 r (nI (k r + n))) 28 0) y := by rw [q_upn (by omega)]; exact h
    generalize upM μ 36 0 r (nI (k r + n)) = μ1 at hT1 hP1 ho1 h281 ⊢
    have h2 : μ1 28 0 (2 : Int32).toNatClampNeg = y.1 0 2 := h281.1.z (k := 2) (by omega)
    have h3 : μ1 28 0 (3 : Int32).toNatClampNeg = y.1 0 3 := h281.1.z (k := 3) (by omega)
    have hTr : μ1 36 0 r = nI (k r + n) := by
      have := hT1 r hr8
      dsimp only at this
      rw [if_pos rfl] at this
      exact this
    rw [m_manyOn h281 hr8, q_bd, q_gdi hr8 (by omega), q_ltJ, hTr, drop_cons_of' hrn]
    have hif : (if nI (y.2.1 r).length ≤ nI (k r + n) then (1 : Int32) else 2) = if (y.2.1 r).length ≤ k r + n then 1 else 2 := by
      by_cases c : (y.2.1 r).length ≤ k r + n
      · rw [if_pos c, if_pos (nI_le c (by omega))]
      · rw [if_neg c, if_neg (nI_ge (by omega) (by omega))]
    rw [hif, h2, h3, q_lt, m_freeAt h281 hg.2.2.2.1, q_bd, q_lt, q_lt, e1]
    obtain ⟨μ', g1, g2⟩ := ih f (i + 1) (fun r' => if r' = r then k r + n else k r') (free (y.1 0 2 + y.1 0 3 * (if (y.2.1 r).length ≤ k r + n then 1 else 2)) y.2.2.1 t + (y.1 0 2 + y.1 0 3 * (if (y.2.1 r).length ≤ k r + n then 1 else 2))) μ1 (by omega) (by omega) hT1 (fun r' hr' => by
      have := hk r' hr'
      try dsimp only
      split <;> omega) hP1 h281
    exact ⟨μ', g1, ho1.tr g2⟩
theorem layC_8 : ∀ {F : Nat} {rw : Nat → List Nat} {l : List Nat} {got : Nat} {ps : List (Nat × Nat)}, (∀ r, r < 8 → (rw r).length ≤ 30) → layC F rw l got = some ps → ∀ p ∈ ps, p.1 < 8 ∧ p.2 ≤ 30
  | 0, rw, l, got, ps, _, h => by cases h
  | F + 1, rw, l, got, ps, hr, h => by
    unfold layC at h
    split at h
    · cases h; exact fun p q => (List.not_mem_nil q).elim
    · split at h
      · cases h
      · rename_i r hnx
        split at h
        · cases h
        · cases e : layC F (rwD rw r (lcp (rw r) (l.drop got))) l (got + lcp (rw r) (l.drop got)) with
          | none => rw [e] at h; cases h
          | some qs =>
            rw [e] at h
            cases h
            have hr8 := (nxtR_some hnx).1
            have hle := (lcp_le (a := rw r) (b := l.drop got)).1
            have := hr r hr8
            intro p hp
            rcases List.mem_cons.mp hp with z | z
            · rw [z]; exact ⟨hr8, by dsimp only; omega⟩
            · refine layC_8 (fun r' hr' => ?_) e p z
              unfold rwD
              by_cases c : r' = r
              · rw [if_pos c, List.length_drop]; omega
              · rw [if_neg c, if_neg (by omega)]
                exact hr r' hr'
theorem layC_len2 : ∀ {F : Nat} {rw : Nat → List Nat} {l : List Nat} {got : Nat} {ps : List (Nat × Nat)}, layC F rw l got = some ps → got ≤ l.length → ps.length + got ≤ l.length
  | 0, rw, l, got, ps, h, _ => by cases h
  | F + 1, rw, l, got, ps, h, hg => by
    unfold layC at h
    split at h
    · cases h; simp; omega
    · split at h
      · cases h
      · rename_i r _
        split at h
        · cases h
        · cases e : layC F (rwD rw r (lcp (rw r) (l.drop got))) l (got + lcp (rw r) (l.drop got)) with
          | none => rw [e] at h; cases h
          | some qs =>
            rw [e] at h
            cases h
            have hle := (lcp_le (a := rw r) (b := l.drop got)).2
            rw [List.length_drop] at hle
            have := layC_len2 e (by omega)
            rw [List.length_cons]
            omega
def qWou (y : yT) (a : Int32) : Int32 := match tIx y.2.2.2.length a with
  | none => -1
  | some t => match y.2.2.2[t]? with
    | none => -1
    | some e => match fpS y e.2 with
      | none => -6
      | some ps => (drS y ps).1 0 6
theorem m_wouldLeave {nt nw tm B : Nat} {a : Int32} {y : yT} {μ : mT} (h : mY (μ 28 0) y) (hi : iY y nt nw tm B) (hB : B < 1000000000) :
    ∃ μ', f_X8_wouldLeave a μ = some (qWou y a, μ') ∧ only μ μ' L5 ∧ (∀ x, x ≠ 14 → μ' 27 0 x = μ 27 0 x) := by
  have hg := hi.gn
  unfold f_X8_wouldLeave qWou
  rw [m_isTrain h hg.1.2.2.2.2.1, q_bd]
  cases et : tIx y.2.2.2.length a with
  | none => exact ⟨μ, rfl, only.rf, fun _ _ => rfl⟩
  | some t =>
    obtain ⟨rfl, ht⟩ := tIx_some et
    obtain ⟨e, he⟩ : ∃ e, y.2.2.2[t]? = some e := ⟨_, List.getElem?_eq_getElem ht⟩
    obtain ⟨o1, o2, o3, o4⟩ := hg.1.2.2.2.2.2 t e he
    obtain ⟨μ1, a1, a2, a3, a4⟩ := m_layPulls h hg he
    dsimp only
    rw [if_pos (show (some t).isSome = true from rfl), if_neg n10, he, a1, q_bd]
    dsimp only
    cases ef : fpS y e.2 with
    | none => exact ⟨μ1, rfl, a3, a4⟩
    | some ps =>
      dsimp only
      rw [if_neg n10, q_lt]
      obtain ⟨μ2, b1, b2, b3⟩ := m_zero2 8 fu 0 μ1 (by omega) (by unfold fu; omega) (fun r hr => by omega)
      rw [← z_l0] at b1
      rw [b1, q_lt]
      have hP := a2 ps ef
      have hP2 : PL μ2 ps := ⟨by rw [b3 27 0 (by omega)]; exact hP.1, fun i a b q => by rw [b3 37 0 (by omega), b3 38 0 (by omega)]; exact hP.2 i a b q⟩
      have h2 : mY (μ2 28 0) y := by rw [b3 28 0 (by omega), a3 28 0 (by unfold L5; omega)]; exact h
      have hlay := fpS_lay ef
      have hcE : (y.2.1 8).length ≤ e.2.length := by
        unfold fpS at ef
        split at ef
        · rename_i z
          have := (lcp_le (a := y.2.1 8) (b := e.2)).2
          omega
        · cases ef
      have hlen := layC_len2 hlay hcE
      have h8 := layC_8 (fun r hr => (hg.1.1 r (by omega)).1) hlay
      have e6 : μ2 28 0 (6 : Int32).toNatClampNeg = y.1 0 6 := h2.1.z (k := 6) (by omega)
      obtain ⟨μ3, c1, c2⟩ := m_wl hg.1 (by omega) h8 ps.length fu 0 (fun _ => 0) (y.1 0 6) μ2 (by omega) (by unfold fu; omega) (fun r hr => b2 r hr) (fun r _ => Nat.zero_le _) hP2 h2
      rw [← z_l0] at c1
      rw [e6, c1, List.drop_zero]
      refine ⟨μ3, ?_, a3.tr ((b3.w (by unfold L5; omega)).tr (c2.w (by unfold L5; omega))), fun x hx => by rw [c2 27 0 (by omega), b3 27 0 (by omega), a4 x hx]⟩
      obtain ⟨s2, s2a, s2b⟩ := hi.2.1 2 (by omega)
      obtain ⟨s3, s3a, s3b⟩ := hi.2.1 3 (by omega)
      have htm := hi.tmB
      have := drS_wl (rw0 := y.2.1) (bl := y.2.2.1) (B0 := B) s2a s3a (fun b hb => by
        obtain ⟨x, e', q1, q2, q3⟩ := hi.2.2.2.2.2.2.2.2.1.2 b hb
        exact ⟨e', q2, by rw [q3]⟩) ps y (fun _ => 0) tm B (fun _ => true) s2b s3b hi.htm (Nat.le_refl _) htm (by omega) (List.filter_eq_self.mpr (fun _ _ => rfl)).symm (fun b _ z => by cases z) (fun r _ => List.drop_zero.symm) (fun q hq => (h8 q hq).1)
      rw [this, s2b, s3b, hi.htm]
theorem k_wouldLeave {nt nw tm B : Nat} {a : Int32} {y : yT} {μ : mT} (h : cY μ 0 y) (hi : iY y nt nw tm B) :
    ∃ μ', f_X7_wouldLeave a μ = some (qWou y a, μ') ∧ only μ μ' (Yd 1) := by
  have hg := hi.gn
  unfold f_X7_wouldLeave qWou
  rw [k_has h.2.2.2 hg.1.2.2.2.2.1, q_bd]
  cases et : tIx y.2.2.2.length a with
  | none => exact ⟨μ, rfl, only.rf⟩
  | some t =>
    obtain ⟨rfl, ht⟩ := tIx_some et
    obtain ⟨e, he⟩ : ∃ e, y.2.2.2[t]? = some e := ⟨_, List.getElem?_eq_getElem ht⟩
    obtain ⟨μ1, a1, a2, a3⟩ := k_fewestPulls (j := 0) (by omega) h hg he
    dsimp only
    rw [if_pos (show (some t).isSome = true from rfl), if_neg n10, he, a1, q_bd]
    dsimp only
    refine ⟨μ1, ?_, a2⟩
    cases ef : fpS y e.2 with
    | none => rfl
    | some ps =>
      dsimp only
      rw [if_neg (q_n6 (by have := layC_len (fpS_lay ef); omega)), (a3 ps ef).1.minute]
