theorem m_place {r w : Nat} {y : yT} {μ : mT} (h : mY (μ 28 0) y) (ho : rOK y.2.1) (hr : r < 9) (hw : w < 2147483648) : ∀ (d f i : Nat), i + d = (y.2.1 r).length → d < f →
    f_X8_placeIn_L3 (nI (60 + 30 * r)) (nI (y.2.1 r).length) (nI w) f (nI i) μ = some ((match idx w ((y.2.1 r).drop i) with | some k => nI (i + k) | none => -6), μ) := by
  have h30 := ho r hr
  intro d
  induction d with
  | zero =>
    intro f i hi hf
    obtain ⟨f, rfl⟩ : ∃ n', f = n' + 1 := ⟨f - 1, by omega⟩
    rw [f_X8_placeIn_L3, if_pos (nI_le (by omega) (by omega)), List.drop_eq_nil_of_le (by omega)]
    rfl
  | succ d ih =>
    intro f i hi hf
    obtain ⟨f, rfl⟩ : ∃ n', f = n' + 1 := ⟨f - 1, by omega⟩
    obtain ⟨v, hv⟩ : ∃ v, (y.2.1 r)[i]? = some v := ⟨_, List.getElem?_eq_getElem (by omega)⟩
    have hv30 := h30.2.1 v (List.mem_of_getElem? hv)
    rw [f_X8_placeIn_L3, if_neg (nI_ge (by omega) (by omega)), q_add, q_gdi (by omega) (by omega), q_cl (by omega), (h.2.1 r hr).2 i v hv, drop_cons_of hv]
    unfold idx
    by_cases q : v = w
    · rw [if_pos (by rw [q]), if_pos q]
      rfl
    · rw [if_neg (by rw [nI_eq (by omega) hw]; exact q), if_neg q, q_lt, z_l1, q_add, ih f (i + 1) (by omega) (by omega)]
      cases idx w ((y.2.1 r).drop (i + 1)) with
      | none => rfl
      | some k =>
        simp only [Option.map_some]
        congr 3
        omega
theorem m_placeIn {r w : Nat} {y : yT} {μ : mT} (h : mY (μ 28 0) y) (ho : rOK y.2.1) (hr : r < 9) (hw : w < 2147483648) : f_X8_placeIn (nI (60 + 30 * r)) (nI (y.2.1 r).length) (nI w) μ = some (plc (y.2.1 r) w, μ) := by
  unfold f_X8_placeIn plc
  have := ho r hr
  rw [z_l0, m_place h ho hr hw _ fu 0 (Nat.zero_add _) (by unfold fu; omega), List.drop_zero]
  cases idx w (y.2.1 r) with
  | none => rfl
  | some k => simp
/-- the track of a wagon, as the reference tells it: none for one at the engine -/
def tkOf (rw : Nat → List Nat) (w : Nat) : Int32 := if rOf rw w = 8 then -6 else rOf rw w
theorem m_track {w nt : Nat} {y : yT} {μ : mT} (h : mY (μ 28 0) y) (hg : gN y nt) (hw : w < 2147483648) : ∀ (d f t : Nat), t + d = nt → d < f → (∀ t', t' < t → w ∉ y.2.1 t') →
    f_X8_trackOf_L2 (nI w) f (nI t) μ = some (tkOf y.2.1 w, μ) := by
  have hn8 := hg.2.1
  have e7 : μ 28 0 (7 : Int32).toNatClampNeg = nI nt := (h.1.z (k := 7) (by omega)).trans hg.2.2.1
  intro d
  induction d with
  | zero =>
    intro f t ht hf hb
    obtain ⟨f, rfl⟩ : ∃ n', f = n' + 1 := ⟨f - 1, by omega⟩
    rw [f_X8_trackOf_L2, e7, if_pos (nI_le (by omega) (by omega))]
    unfold tkOf
    by_cases q : rOf y.2.1 w = 8
    · rw [if_pos q]
    · rw [if_neg q]
      by_cases q6 : rOf y.2.1 w = -6
      · rw [q6]
      · obtain ⟨r, r1, r2, r3⟩ := rOf_in q6
        exfalso
        have : r ≠ 8 := fun z => q (by rw [r2, z]; rfl)
        rcases Nat.lt_or_ge r nt with z | z
        · exact hb r (by omega) r3
        · rw [hg.2.2.2 r z (by omega)] at r3
          simp at r3
  | succ d ih =>
    intro f t ht hf hb
    obtain ⟨f, rfl⟩ : ∃ n', f = n' + 1 := ⟨f - 1, by omega⟩
    rw [f_X8_trackOf_L2, e7, if_neg (nI_ge (by omega) (by omega)), m_manyOn h (by omega), q_bd]
    simp (disch := omega) only [z_l60, z_l30, q_mul, q_add]
    rw [m_placeIn h hg.1.1 (by omega) hw, q_bd]
    by_cases q : w ∈ y.2.1 t
    · obtain ⟨p, hp⟩ := List.getElem?_of_mem q
      have hpl := (List.getElem?_eq_some_iff.mp hp).1
      have h30 := hg.1.1 t (by omega)
      rw [plc_at h30.2.2 hp, if_neg (nI_pos (by omega))]
      have hr : rOf y.2.1 w = nI t := by
        by_cases q6 : rOf y.2.1 w = -6
        · exact absurd q (rOf_out q6 t (by omega))
        · obtain ⟨r, r1, r2, r3⟩ := rOf_in q6
          rw [r2, hg.1.2.1 r t w r1 (by omega) r3 q]
      unfold tkOf
      rw [hr, if_neg (by rw [z_l8, nI_eq (by omega) (by omega)]; omega)]
    · rw [plc_out q, if_pos (by decide), q_lt, z_l1, q_add]
      refine ih f (t + 1) (by omega) (by omega) (fun t' ht' => ?_)
      by_cases e : t' = t
      · subst e; exact q
      · exact hb t' (by omega)
theorem m_trackOf {w nt : Nat} {y : yT} {μ : mT} (h : mY (μ 28 0) y) (hg : gN y nt) (hw : w < 2147483648) : f_X8_trackOf (nI w) μ = some (tkOf y.2.1 w, μ) := by
  have hn8 := hg.2.1
  unfold f_X8_trackOf
  exact m_track h hg hw nt fu 0 (Nat.zero_add _) (by unfold fu; omega) (fun t' h => by omega)
theorem m_to1 {t w : Nat} {e : Int32 × List Nat} {y : yT} {μ : mT} (h : mY (μ 28 0) y) (ho : tOK y.2.2.2) (ht : y.2.2.2[t]? = some e) (hw : w < 2147483648) {K : mT → Option (Int32 × mT)} : ∀ (d f i : Nat), i + d = e.2.length → d < f →
    f_X8_trainOf_L15 (nI w) (nI t) K f (nI i) μ = if w ∈ e.2.drop i then some (nI t, μ) else K μ := by
  have htl := (List.getElem?_eq_some_iff.mp ht).1
  have htl8 := ho.1
  obtain ⟨o1, o2, o3, o4⟩ := ho.2 t e ht
  obtain ⟨a1, a2, a3⟩ := h.2.2.2.2 t e ht
  intro d
  induction d with
  | zero =>
    intro f i hi hf
    obtain ⟨f, rfl⟩ : ∃ n', f = n' + 1 := ⟨f - 1, by omega⟩
    rw [f_X8_trainOf_L15]
    simp (disch := omega) only [z_l450, z_l10, z_l1, q_mul, q_add, q_gdi, q_cl, a2]
    rw [if_pos (nI_le (by omega) (by omega)), List.drop_eq_nil_of_le (by omega), if_neg (by simp)]
  | succ d ih =>
    intro f i hi hf
    obtain ⟨f, rfl⟩ : ∃ n', f = n' + 1 := ⟨f - 1, by omega⟩
    obtain ⟨v, hv⟩ : ∃ v, e.2[i]? = some v := ⟨_, List.getElem?_eq_getElem (by omega)⟩
    have hv30 := o4 v (List.mem_of_getElem? hv)
    rw [f_X8_trainOf_L15, drop_cons_of hv]
    simp (disch := omega) only [z_l450, z_l10, z_l1, z_l2, q_mul, q_add, q_gdi, q_cl, a2, a3 i v hv, q_lt]
    rw [if_neg (nI_ge (by omega) (by omega))]
    by_cases q : v = w
    · rw [if_pos (by rw [q]), if_pos (by rw [q]; exact List.mem_cons_self)]
    · rw [if_neg (by rw [nI_eq (by omega) hw]; exact q), ih f (i + 1) (by omega) (by omega)]
      by_cases z : w ∈ e.2.drop (i + 1)
      · rw [if_pos z, if_pos (List.mem_cons_of_mem _ z)]
      · rw [if_neg z, if_neg]
        intro z'
        rcases List.mem_cons.mp z' with z' | z'
        · exact q z'.symm
        · exact z z'
theorem m_to2 {w : Nat} {y : yT} {μ : mT} (h : mY (μ 28 0) y) (ho : tOK y.2.2.2) (hw : w < 2147483648) : ∀ (d f i : Nat), i + d = y.2.2.2.length → d < f →
    f_X8_trainOf_L2 (nI w) f (nI i) μ = some ((match tFind w i (y.2.2.2.drop i) with | some t => nI t | none => -6), μ) := by
  have htl8 := ho.1
  have e11 : μ 28 0 (11 : Int32).toNatClampNeg = nI y.2.2.2.length := h.2.2.2.1
  intro d
  induction d with
  | zero =>
    intro f i hi hf
    obtain ⟨f, rfl⟩ : ∃ n', f = n' + 1 := ⟨f - 1, by omega⟩
    rw [f_X8_trainOf_L2, e11, if_pos (nI_le (by omega) (by omega)), List.drop_eq_nil_of_le (by omega)]
    rfl
  | succ d ih =>
    intro f i hi hf
    obtain ⟨f, rfl⟩ : ∃ n', f = n' + 1 := ⟨f - 1, by omega⟩
    obtain ⟨e, he⟩ : ∃ e, y.2.2.2[i]? = some e := ⟨_, List.getElem?_eq_getElem (by omega)⟩
    obtain ⟨o1, o2, o3, o4⟩ := ho.2 i e he
    rw [f_X8_trainOf_L2, e11, if_neg (nI_ge (by omega) (by omega)), q_lt, z_l0, m_to1 h ho he hw e.2.length fu 0 (Nat.zero_add _) (by unfold fu; omega), drop_cons_of' he, List.drop_zero]
    unfold tFind
    by_cases hm : w ∈ e.2
    · rw [if_pos hm, if_pos hm]
    · rw [if_neg hm, if_neg hm, q_lt, z_l1, q_add, ih f (i + 1) (by omega) (by omega)]
theorem m_trainOf {w : Nat} {y : yT} {μ : mT} (h : mY (μ 28 0) y) (ho : tOK y.2.2.2) (hw : w < 2147483648) : f_X8_trainOf (nI w) μ = some (tOf y.2.2.2 w, μ) := by
  have htl8 := ho.1
  unfold f_X8_trainOf tOf
  rw [z_l0, m_to2 h ho hw y.2.2.2.length fu 0 (Nat.zero_add _) (by unfold fu; omega), List.drop_zero]
  rfl
theorem m_drp {t L : Nat} {ρ : Nat → Int32} (hL : L ≤ 8) (h11 : ρ 11 = nI (L - 1)) (ht : t < L) : ∀ (d f i : Nat) (μ : mT), i + d = 10 * (L - 1) → d < f → 10 * t ≤ i → (∀ x, μ 28 0 x = if 450 + 10 * t ≤ x ∧ x < 450 + i then ρ (x + 10) else ρ x) →
    ∃ μ', f_X8_dropTrain_L20 f (nI (450 + i)) μ = some (0, μ') ∧ (∀ x, μ' 28 0 x = if 450 + 10 * t ≤ x ∧ x < 450 + 10 * (L - 1) then ρ (x + 10) else ρ x) ∧ only μ μ' Mo := by
  intro d
  induction d with
  | zero =>
    intro f i μ hi hf hti hx
    obtain ⟨f, rfl⟩ : ∃ n', f = n' + 1 := ⟨f - 1, by omega⟩
    have e11 : μ 28 0 (11 : Int32).toNatClampNeg = nI (L - 1) := by
      show μ 28 0 11 = _
      rw [hx, if_neg (by omega), h11]
    refine ⟨μ, ?_, ?_, only.rf⟩
    · rw [f_X8_dropTrain_L20, e11]
      simp (disch := omega) only [z_l450, z_l10, q_mul, q_add]
      rw [if_pos (nI_le (by omega) (by omega))]
    · rw [show 10 * (L - 1) = i by omega]
      exact hx
  | succ d ih =>
    intro f i μ hi hf hti hx
    obtain ⟨f, rfl⟩ : ∃ n', f = n' + 1 := ⟨f - 1, by omega⟩
    have e11 : μ 28 0 (11 : Int32).toNatClampNeg = nI (L - 1) := by
      show μ 28 0 11 = _
      rw [hx, if_neg (by omega), h11]
    have er : μ 28 0 (450 + i + 10) = ρ (450 + i + 10) := by rw [hx, if_neg (by omega)]
    rw [f_X8_dropTrain_L20, e11]
    simp (disch := omega) only [z_l450, z_l10, z_l1, q_mul, q_add, q_gdi, q_cl, q_lt, er]
    rw [if_neg (nI_ge (by omega) (by omega))]
    obtain ⟨μ', g1, g2, g3⟩ := ih f (i + 1) (upM μ 28 0 (450 + i) (ρ (450 + i + 10))) (by omega) (by omega) (by omega) (fun x => by
      rw [r28, upd_e, hx]
      by_cases c : x = 450 + i
      · subst c
        rw [if_pos rfl, if_pos (by omega)]
      · rw [if_neg c]
        by_cases c2 : 450 + 10 * t ≤ x ∧ x < 450 + i
        · rw [if_pos c2, if_pos (by omega)]
        · rw [if_neg c2, if_neg (by omega)])
    exact ⟨μ', g1, g2, (only28 rfl).tr g3⟩
theorem m_dropTrain {t : Nat} {y : yT} {μ : mT} (h : mY (μ 28 0) y) (hg : gY y) (ht : t < y.2.2.2.length) :
    ∃ μ', f_X8_dropTrain (nI t) μ = some (0, μ') ∧ mY (μ' 28 0) (y.1, y.2.1, y.2.2.1, y.2.2.2.eraseIdx t) ∧ only μ μ' Mo := by
  obtain ⟨ho, hD, hT, hl10, hk⟩ := hg
  have htl8 := hk.1
  have e11 : μ 28 0 (11 : Int32).toNatClampNeg = nI y.2.2.2.length := h.2.2.2.1
  obtain ⟨μ', g1, g2, g3⟩ := m_drp (t := t) (L := y.2.2.2.length) (ρ := (upM μ 28 0 11 (nI (y.2.2.2.length - 1))) 28 0) htl8 (by rw [r28]; exact if_pos rfl) ht (10 * (y.2.2.2.length - 1) - 10 * t) fu (10 * t) (upM μ 28 0 11 (nI (y.2.2.2.length - 1))) (by omega) (by unfold fu; omega) (Nat.le_refl _) (fun x => by rw [if_neg (by omega)])
  have hx : ∀ x, μ' 28 0 x = if 450 + 10 * t ≤ x ∧ x < 450 + 10 * (y.2.2.2.length - 1) then μ 28 0 (x + 10) else if x = 11 then nI (y.2.2.2.length - 1) else μ 28 0 x := by
    intro x
    rw [g2, r28, upd_e, upd_e]
    by_cases c : 450 + 10 * t ≤ x ∧ x < 450 + 10 * (y.2.2.2.length - 1)
    · rw [if_pos c, if_pos c, if_neg (by omega)]
    · rw [if_neg c, if_neg c]
  refine ⟨μ', ?_, ⟨h.1.cong (fun x hx' => by rw [hx, if_neg (by omega), if_neg (by omega)]), h.2.1.cong ho (fun x hx' => by rw [hx, if_neg (by omega), if_neg (by omega)]), h.2.2.1.cong (fun x hx' => by rw [hx, if_neg (by omega), if_neg (by omega)]), ⟨?_, fun k e he => ?_⟩⟩, (only28 rfl).tr g3⟩
  · unfold f_X8_dropTrain
    rw [e11, z_l1, q_sub (by omega)]
    simp (disch := omega) only [z_l450, z_l10, q_mul, q_add, q_lt]
    exact g1
  · show μ' 28 0 11 = nI (y.2.2.2.eraseIdx t).length
    rw [hx, if_neg (by omega), if_pos rfl, List.length_eraseIdx_of_lt ht]
  · have hkl := (List.getElem?_eq_some_iff.mp he).1
    rw [List.length_eraseIdx_of_lt ht] at hkl
    rw [List.getElem?_eraseIdx] at he
    by_cases c : k < t
    · rw [if_pos c] at he
      obtain ⟨a1, a2, a3⟩ := h.2.2.2.2 k e he
      obtain ⟨o1, o2, o3, o4⟩ := hk.2 k e he
      refine ⟨by rw [hx, if_neg (by omega), if_neg (by omega)]; exact a1, by rw [hx, if_neg (by omega), if_neg (by omega)]; exact a2, fun p w hp => ?_⟩
      have hpl := (List.getElem?_eq_some_iff.mp hp).1
      rw [hx, if_neg (by omega), if_neg (by omega)]
      exact a3 p w hp
    · rw [if_neg c] at he
      obtain ⟨a1, a2, a3⟩ := h.2.2.2.2 (k + 1) e he
      obtain ⟨o1, o2, o3, o4⟩ := hk.2 (k + 1) e he
      refine ⟨?_, ?_, fun p w hp => ?_⟩
      · rw [hx, if_pos (by omega), show 450 + 10 * k + 10 = 450 + 10 * (k + 1) by omega]; exact a1
      · rw [hx, if_pos (by omega), show 450 + 10 * k + 1 + 10 = 450 + 10 * (k + 1) + 1 by omega]; exact a2
      · have hpl := (List.getElem?_eq_some_iff.mp hp).1
        rw [hx, if_pos (by omega), show 450 + 10 * k + 2 + p + 10 = 450 + 10 * (k + 1) + 2 + p by omega]
        exact a3 p w hp
theorem m_cl {t : Nat} {e : Int32 × List Nat} {y : yT} {μ : mT} (h : mY (μ 28 0) y) (hg : gY y) (ht : y.2.2.2[t]? = some e) (hl : (y.2.1 8).length = e.2.length) : ∀ (d f i : Nat), i + d = (y.2.1 8).length → d + 1 < f →
    f_X8_canLeave_L36 (nI (450 + 10 * t)) f 1 (nI i) μ = some (if (y.2.1 8).drop i = e.2.drop i then 1 else 0, μ) := by
  obtain ⟨ho, hD, hT, hl10, hk⟩ := hg
  have h30 := ho 8 (by omega)
  have htl := (List.getElem?_eq_some_iff.mp ht).1
  have htl8 := hk.1
  obtain ⟨o1, o2, o3, o4⟩ := hk.2 t e ht
  obtain ⟨a1, a2, a3⟩ := h.2.2.2.2 t e ht
  have e9 : μ 28 0 (9 : Int32).toNatClampNeg = nI (y.2.1 8).length := h.2.1.n8
  intro d
  induction d with
  | zero =>
    intro f i hi hf
    obtain ⟨f, rfl⟩ : ∃ n', f = n' + 1 := ⟨f - 1, by omega⟩
    rw [f_X8_canLeave_L36, e9, if_pos (nI_le (by omega) (by omega)), q_gd (by decide), List.drop_eq_nil_of_le (by omega), List.drop_eq_nil_of_le (by omega), if_pos rfl]
  | succ d ih =>
    intro f i hi hf
    obtain ⟨f, rfl⟩ : ∃ n', f = n' + 1 := ⟨f - 1, by omega⟩
    obtain ⟨v, hv⟩ : ∃ v, (y.2.1 8)[i]? = some v := ⟨_, List.getElem?_eq_getElem (by omega)⟩
    obtain ⟨w, hw⟩ : ∃ w, e.2[i]? = some w := ⟨_, List.getElem?_eq_getElem (by omega)⟩
    have hv30 := h30.2.1 v (List.mem_of_getElem? hv)
    have hw30 := o4 w (List.mem_of_getElem? hw)
    rw [f_X8_canLeave_L36, e9, if_neg (nI_ge (by omega) (by omega)), if_neg (by decide)]
    simp (disch := omega) only [z_l2, z_l300, q_add, q_gdi, q_cl, q_lt, a3 i w hw, h.2.1.e8 hv]
    rw [drop_cons_of hv, drop_cons_of hw]
    by_cases q : w = v
    · subst q
      rw [if_pos rfl, z_l1, q_add]
      have := ih f (i + 1) (by omega) (by omega)
      rw [z_l1] at this
      rw [this]
      simp
    · rw [if_neg (by rw [nI_eq (by omega) (by omega)]; exact q), z_l1, q_add, if_neg (by simp; exact fun z => absurd z.symm q)]
      obtain ⟨f, rfl⟩ : ∃ n', f = n' + 1 := ⟨f - 1, by omega⟩
      rw [f_X8_canLeave_L36, e9]
      by_cases z : nI (y.2.1 8).length ≤ nI (i + 1)
      · rw [if_pos z, q_gd (by decide)]
      · rw [if_neg z, if_pos rfl, q_gd (by decide)]
theorem m_canLeave {t : Nat} {e : Int32 × List Nat} {y : yT} {μ : mT} (h : mY (μ 28 0) y) (hg : gY y) (ht : y.2.2.2[t]? = some e) : f_X8_canLeave (nI t) μ = some (if y.2.1 8 = e.2 then 1 else 0, μ) := by
  have h30 := hg.1 8 (by omega)
  have htl := (List.getElem?_eq_some_iff.mp ht).1
  have htl8 := hg.2.2.2.2.1
  obtain ⟨o1, o2, o3, o4⟩ := hg.2.2.2.2.2 t e ht
  obtain ⟨a1, a2, a3⟩ := h.2.2.2.2 t e ht
  have e9 : μ 28 0 (9 : Int32).toNatClampNeg = nI (y.2.1 8).length := h.2.1.n8
  unfold f_X8_canLeave
  rw [e9]
  simp (disch := omega) only [z_l450, z_l10, z_l1, z_l0, q_mul, q_add, q_gdi, q_cl, q_lt, a2]
  by_cases q : e.2.length = (y.2.1 8).length
  · rw [if_pos (by rw [q])]
    have := m_cl h hg ht q.symm (y.2.1 8).length fu 0 (Nat.zero_add _) (by unfold fu; omega)
    rw [z_l1] at this
    rw [this]
    simp
    rfl
  · rw [if_neg (by rw [nI_eq (by omega) (by omega)]; exact q), if_neg (fun z => q (by rw [z]))]
    rw [show fu = 3999 + 1 from rfl, f_X8_canLeave_L36, e9]
    by_cases z : nI (y.2.1 8).length ≤ nI 0
    · rw [if_pos z, q_gd (by decide)]
    · rw [if_neg z, if_pos (show nI 0 = 0 from rfl), q_gd (by decide)]
