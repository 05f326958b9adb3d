theorem m_room {nt nw tm B : Nat} {y : yT} {μ : mT} (h : mY (μ 28 0) y) (hi : iY y nt nw tm B) : ∀ (d f t : Nat) (v : Int32), t + d = nt → d < f →
    f_X8_roomFor_L4 f v (nI t) μ = some (trF y (y.2.1 8).length d t v, μ) := by
  have hn8 := hi.nt8
  have hl8 := (hi.rOK 8 (by omega)).1
  have e7 : μ 28 0 (7 : Int32).toNatClampNeg = nI nt := (h.1.z (k := 7) (by omega)).trans hi.hnt
  have e9 : μ 28 0 (9 : Int32).toNatClampNeg = nI (y.2.1 8).length := h.2.1.n8
  intro d
  induction d with
  | zero =>
    intro f t v ht hf
    obtain ⟨f, rfl⟩ : ∃ n', f = n' + 1 := ⟨f - 1, by omega⟩
    rw [f_X8_roomFor_L4, e7, if_pos (nI_le (by omega) (by omega))]
    rfl
  | succ d ih =>
    intro f t v ht hf
    obtain ⟨f, rfl⟩ : ∃ n', f = n' + 1 := ⟨f - 1, by omega⟩
    rw [f_X8_roomFor_L4, e7, if_neg (nI_ge (by omega) (by omega)), e9, q_lt, q_lt]
    unfold trF
    have e1 : (nI t + 1 : Int32) = nI (t + 1) := nI_1 t
    by_cases c : (y.2.1 8).length = 0
    · rw [if_pos (by rw [c]; decide), if_pos c]
      dsimp only
      rw [q_lt, q_lt, e1, Int32.or_zero]
      exact ih f (t + 1) v (by omega) (by omega)
    · rw [if_neg (nI_nle (by omega) (by omega)), if_neg c, m_canPush h hi.rOK (by omega) (by omega), q_bd]
      by_cases c2 : canQ y t (y.2.1 8).length = true
      · rw [if_pos c2, if_pos c2, if_neg n10]
        dsimp only
        rw [q_lt, q_lt, e1]
        exact ih f (t + 1) _ (by omega) (by omega)
      · rw [if_neg c2, if_neg c2, if_pos p00]
        dsimp only
        rw [q_lt, q_lt, e1, Int32.or_zero]
        exact ih f (t + 1) v (by omega) (by omega)
theorem m_bu57 {nt nw tm B t p w : Nat} {y : yT} {μ : mT} (h : mY (μ 28 0) y) (hi : iY y nt nw tm B) (ht : t < 8) (hw : (y.2.1 t)[p]? = some w) {v5 v2 : Int32} {K : Int32 → mT → Option (Int32 × mT)} : ∀ (d f i : Nat) (v : Int32), i + d = p → d < f → (v = 0 ∨ v = 1) →
    f_X8_buried_L57 v5 v2 (nI (60 + 30 * t)) (nI p) (tOf y.2.2.2 w) K f v (nI i) μ = K (cIf (v = 1 ∨ ∃ k u, i ≤ k ∧ k < p ∧ (y.2.1 t)[k]? = some u ∧ ¬ tOf y.2.2.2 u = tOf y.2.2.2 w) 1 0) μ := by
  have ho := hi.rOK t (by omega)
  have hpl := (List.getElem?_eq_some_iff.mp hw).1
  intro d
  induction d with
  | zero =>
    intro f i v hi' hf hv
    obtain ⟨f, rfl⟩ : ∃ n', f = n' + 1 := ⟨f - 1, by omega⟩
    rw [f_X8_buried_L57, if_pos (nI_le (by omega) (by omega))]
    rcases hv with rfl | rfl
    · rw [cIf_f]
      rintro (z | ⟨k, u, a, b, c⟩)
      · exact absurd z (by decide)
      · omega
    · rw [cIf_t (Or.inl rfl)]
  | succ d ih =>
    intro f i v hi' hf hv
    obtain ⟨f, rfl⟩ : ∃ n', f = n' + 1 := ⟨f - 1, by omega⟩
    obtain ⟨u, hu⟩ : ∃ u, (y.2.1 t)[i]? = some u := ⟨_, List.getElem?_eq_getElem (by omega)⟩
    have hu30 := ho.2.1 u (List.mem_of_getElem? hu)
    have e1 : (nI i + 1 : Int32) = nI (i + 1) := nI_1 i
    rw [f_X8_buried_L57, if_neg (nI_ge (by omega) (by omega)), q_lt, q_lt]
    rcases hv with rfl | rfl
    · rw [if_pos p00, q_add, q_gdi (by omega) (by omega), q_cl (by omega), (h.2.1 t (by omega)).2 i u hu, m_trainOf h hi.tok (by omega), q_bd]
      by_cases q : tOf y.2.2.2 u = tOf y.2.2.2 w
      · rw [if_pos q]
        dsimp only
        rw [q_lt, e1, ih f (i + 1) 0 (by omega) (by omega) (Or.inl rfl)]
        congr 1
        by_cases z : (0 : Int32) = 1 ∨ ∃ k u, i + 1 ≤ k ∧ k < p ∧ (y.2.1 t)[k]? = some u ∧ ¬ tOf y.2.2.2 u = tOf y.2.2.2 w
        · rw [cIf_t z, cIf_t (z.imp id (fun ⟨k, u, a, b⟩ => ⟨k, u, by omega, b⟩))]
        · rw [cIf_f z, cIf_f]
          rintro (z' | ⟨k, u', a, b, c, d⟩)
          · exact absurd z' (by decide)
          · by_cases ek : k = i
            · subst ek
              rw [hu] at c
              cases c
              exact d q
            · exact z (Or.inr ⟨k, u', by omega, b, c, d⟩)
      · rw [if_neg q]
        dsimp only
        rw [q_lt, e1, ih f (i + 1) 1 (by omega) (by omega) (Or.inr rfl), cIf_t (Or.inl rfl), cIf_t (Or.inr ⟨i, u, Nat.le_refl _, by omega, hu, q⟩)]
    · rw [if_neg n10]
      dsimp only
      rw [q_lt, e1, ih f (i + 1) 1 (by omega) (by omega) (Or.inr rfl), cIf_t (Or.inl rfl), cIf_t (Or.inl rfl)]
theorem m_bu26 {nt nw tm B t : Nat} {y : yT} {μ : mT} (h : mY (μ 28 0) y) (hi : iY y nt nw tm B) (ht : t < 8) {K : Int32 → mT → Option (Int32 × mT)} : ∀ (d f p : Nat) (v : Int32), p + d = (y.2.1 t).length → d < f →
    f_X8_buried_L26 (nI t) (nI (60 + 30 * t)) K f v (nI p) μ = K (buI y t d p v) μ := by
  have ho := hi.rOK t (by omega)
  have htl := hi.tok.1
  intro d
  induction d with
  | zero =>
    intro f p v hp hf
    obtain ⟨f, rfl⟩ : ∃ n', f = n' + 1 := ⟨f - 1, by omega⟩
    rw [f_X8_buried_L26, m_manyOn h ht, q_bd, if_pos (nI_le (by omega) (by omega))]
    rfl
  | succ d ih =>
    intro f p v hp hf
    obtain ⟨f, rfl⟩ : ∃ n', f = n' + 1 := ⟨f - 1, by omega⟩
    obtain ⟨w, hw⟩ : ∃ w, (y.2.1 t)[p]? = some w := ⟨_, List.getElem?_eq_getElem (by omega)⟩
    have hw30 := ho.2.1 w (List.mem_of_getElem? hw)
    have e1 : (nI p + 1 : Int32) = nI (p + 1) := nI_1 p
    have hl30 := ho.1
    rw [f_X8_buried_L26, m_manyOn h ht, q_bd, if_neg (nI_ge (by omega) (by omega)), q_add, q_gdi (by omega) (by omega), q_cl (by omega), (h.2.1 t (by omega)).2 p w hw, m_trainOf h hi.tok (by omega), q_bd, q_lt, z_l0, m_bu57 h hi ht hw p fu 0 (nI 0) (by omega) (by unfold fu; omega) (Or.inl rfl), ← z_l0]
    rw [q_lt, q_lt]
    have hb : bur y t p ↔ ¬ tOf y.2.2.2 w = -6 ∧ ∃ k u, 0 ≤ k ∧ k < p ∧ (y.2.1 t)[k]? = some u ∧ ¬ tOf y.2.2.2 u = tOf y.2.2.2 w := by
      unfold bur
      rw [atN_at hw]
      constructor
      · rintro ⟨-, w', a, b, i, v, c, d, e⟩
        rw [hw] at a
        cases a
        exact ⟨b, i, v, Nat.zero_le _, c, d, e⟩
      · rintro ⟨b, i, v, -, c, d, e⟩
        exact ⟨q_n6 (by omega), w, hw, b, i, v, c, d, e⟩
    have hneg : tOf y.2.2.2 w < 0 ↔ tOf y.2.2.2 w = -6 := by
      constructor
      · intro q
        apply Classical.byContradiction
        intro q'
        unfold tOf at q q'
        cases e : tFind w 0 y.2.2.2 with
        | none => rw [e] at q'; exact q' rfl
        | some t' =>
          have := tFind_lt e
          rw [e] at q
          exact absurd q (nI_pos (by omega))
      · intro q
        rw [q]
        decide
    have hB : buI y t (d + 1) p v = buI y t d (p + 1) (cIf (bur y t p) (v + 1) v) := rfl
    rw [hB]
    have key : ∀ x : Int32, f_X8_buried_L26 (nI t) (nI (60 + 30 * t)) K f x (nI (p + 1)) μ = K (buI y t d (p + 1) x) μ := fun x => ih f (p + 1) x (by omega) (by omega)
    by_cases c : tOf y.2.2.2 w = -6
    · rw [if_pos (hneg.mpr c), cIf_f (fun z => (hb.mp z).1 c)]
      dsimp only
      rw [q_lt, q_lt, e1, Int32.add_zero]
      exact key v
    · rw [if_neg (fun z => c (hneg.mp z))]
      by_cases c2 : ∃ k u, 0 ≤ k ∧ k < p ∧ (y.2.1 t)[k]? = some u ∧ ¬ tOf y.2.2.2 u = tOf y.2.2.2 w
      · rw [cIf_t (Or.inr c2), if_neg n10, cIf_t (hb.mpr ⟨c, c2⟩)]
        dsimp only
        rw [q_lt, q_lt, e1]
        exact key (v + 1)
      · rw [cIf_f (fun z => z.elim (fun z => absurd z (by decide)) c2), if_pos p00, cIf_f (fun z => c2 (hb.mp z).2)]
        dsimp only
        rw [q_lt, q_lt, e1, Int32.add_zero]
        exact key v
theorem m_bu4 {nt nw tm B : Nat} {y : yT} {μ : mT} (h : mY (μ 28 0) y) (hi : iY y nt nw tm B) : ∀ (d f t : Nat) (v : Int32), t + d = nt → d < f →
    f_X8_buried_L4 f v (nI t) μ = some (buO y d t v, μ) := by
  have hn8 := hi.nt8
  have e7 : μ 28 0 (7 : Int32).toNatClampNeg = nI nt := (h.1.z (k := 7) (by omega)).trans hi.hnt
  intro d
  induction d with
  | zero =>
    intro f t v ht hf
    obtain ⟨f, rfl⟩ : ∃ n', f = n' + 1 := ⟨f - 1, by omega⟩
    rw [f_X8_buried_L4, e7, if_pos (nI_le (by omega) (by omega))]
    rfl
  | succ d ih =>
    intro f t v ht hf
    obtain ⟨f, rfl⟩ : ∃ n', f = n' + 1 := ⟨f - 1, by omega⟩
    have e1 : (nI t + 1 : Int32) = nI (t + 1) := nI_1 t
    have hl := (hi.rOK t (by omega)).1
    rw [f_X8_buried_L4, e7, if_neg (nI_ge (by omega) (by omega)), show (60 : Int32) + 30 * nI t = nI (60 + 30 * t) from by rw [z_l60, z_l30, q_mul, q_add], q_lt, q_lt, z_l0, m_bu26 h hi (by omega) (y.2.1 t).length fu 0 v (by omega) (by unfold fu; omega), q_lt, e1]
    exact ih f (t + 1) _ (by omega) (by omega)
theorem m_roomFor {nt nw tm B : Nat} {y : yT} {μ : mT} (h : mY (μ 28 0) y) (hi : iY y nt nw tm B) : f_X8_roomFor μ = some (trF y (y.2.1 8).length nt 0 0, μ) := by
  have := hi.nt8
  exact m_room h hi nt fu 0 0 (by omega) (by unfold fu; omega)
theorem m_buried {nt nw tm B : Nat} {y : yT} {μ : mT} (h : mY (μ 28 0) y) (hi : iY y nt nw tm B) : f_X8_buried μ = some (buO y nt 0 0, μ) := by
  have := hi.nt8
  exact m_bu4 h hi nt fu 0 0 (by omega) (by unfold fu; omega)
theorem k_roomFor {nt nw tm B : Nat} {y : yT} {μ : mT} (h : cY μ 0 y) (hi : iY y nt nw tm B) : f_X7_roomFor μ = some (trF y (y.2.1 8).length nt 0 0, μ) := by
  have := hi.nt8
  have hl8 := (hi.rOK 8 (by omega)).1
  unfold f_X7_roomFor f_X6_tracksFor
  rw [z_l8, k_manyIn (by omega), q_bd, cRow.nl h.2.1 (by omega)]
  have := k_tracksFor h hi (n := (y.2.1 8).length) (by omega) nt fu 0 0 (by omega) (by unfold fu; omega)
  rw [← z_l0] at this
  rw [this, q_bd]
theorem k_buried {nt nw tm B : Nat} {y : yT} {μ : mT} (h : cY μ 0 y) (hi : iY y nt nw tm B) : f_X7_buried μ = some (buO y nt 0 0, μ) := by
  have := hi.nt8
  unfold f_X7_buried f_X6_manyBuried
  have := k_mbO h hi nt fu 0 0 (by omega) (by unfold fu; omega)
  rw [← z_l0] at this
  rw [this, q_bd]
