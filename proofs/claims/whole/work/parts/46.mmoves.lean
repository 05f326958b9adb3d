def O3 : Nat → Nat → Prop := fun κ j => (κ = 28 ∨ κ = 29 ∨ κ = 30) ∧ j = 0
theorem one_cong {s s' : sT} {rw : Nat → List Nat} {b : List (Int32 × Int32) × List (Int32 × List Nat)} {nt : Nat} {l : List Nat} (h0 : s' 0 0 = s 0 0) (h1 : s' 0 1 = s 0 1) (h2 : s' 1 = s 1) (h3 : s' 4 = s 4) : one (s', rw, b) nt l ↔ one (s, rw, b) nt l := by
  unfold one canP canQ canR
  dsimp only
  simp only [h0, h1, h2, h3]
theorem one_D {y : yT} {r m nt : Nat} {l : List Nat} : one (dO y r m) nt l ↔ one (y.1, rwD y.2.1 r m, y.2.2) nt l := by
  unfold dO
  apply one_cong
  · unfold nP
    rw [sU_n (by omega), if_neg (by omega)]
  · unfold nP
    rw [sU_n (by omega), if_neg (by omega)]
  · funext k
    unfold nP
    rw [sU_n (by omega), if_neg (by omega)]
  · funext k
    unfold nP
    rw [sU_n (by omega), if_neg (by omega)]
theorem one_B {y : yT} {r m nt : Nat} {l : List Nat} : one (sBk y r m) nt l ↔ one (y.1, rwB y.2.1 r m, y.2.2) nt l := by
  unfold sBk
  apply one_cong
  · rw [sU_n (by omega)]
  · rw [sU_n (by omega)]
  · funext k
    rw [sU_n (by omega)]
  · funext k
    rw [sU_n (by omega)]
def twoN (y : yT) (nt r : Nat) (l : List Nat) (m : Nat) : Prop := (canP y r m = true ∧ one (y.1, rwD y.2.1 r m, y.2.2) nt l) ∨ (canQ y r m = true ∧ one (y.1, rwB y.2.1 r m, y.2.2) nt l)
theorem m_o79 {nt t r : Nat} {y : yT} {e : Int32 × List Nat} (hg : gN y nt) (ht : y.2.2.2[t]? = some e) (hr : r < nt) : ∀ (d f n : Nat) (μ : mT), n + d = 31 → d < f → mY (μ 28 0) y → mY (μ 29 0) y →
    ∃ μ', (∀ K, f_X8_moves_L79 (nI t) (nI r) K f 0 (nI n) μ = K (cIf (∃ m, n ≤ m ∧ m ≤ 30 ∧ twoN y nt r e.2 m) 1 0) μ') ∧ mY (μ' 28 0) y ∧ mY (μ' 29 0) y ∧ only μ μ' O3 := by
  have hn8 := hg.2.1
  intro d
  induction d with
  | zero =>
    intro f n μ hi hf h h30
    obtain ⟨f, rfl⟩ : ∃ n', f = n' + 1 := ⟨f - 1, by omega⟩
    refine ⟨μ, fun K => ?_, h, h30, only.rf⟩
    rw [f_X8_moves_L79, z_l31, if_pos (nI_le (by omega) (by omega)), cIf_f (by rintro ⟨m, a, b, c⟩; omega)]
  | succ d ih =>
    intro f n μ hi hf h h30
    obtain ⟨f, rfl⟩ : ∃ n', f = n' + 1 := ⟨f - 1, by omega⟩
    have stop : ∀ (μ : mT) K, f_X8_moves_L79 (nI t) (nI r) K f 1 (nI (n + 1)) μ = K 1 μ := fun μ K => by
      obtain ⟨f, rfl⟩ : ∃ n', f = n' + 1 := ⟨f - 1, by omega⟩
      rw [f_X8_moves_L79, if_neg n10]
      split <;> rfl
    -- the pull
    have hP : ∃ μ1, (∀ (F : Int32 → mT → Option (Int32 × mT)), bd (f_X8_canPull (nI r) (nI n) μ) (fun v26 μ27 => if v26 = 0 then F 0 μ27 else bd (f_X8_drawOut (nI r) (nI n) μ27) (fun v43 μ44 => bd (f_X8_oneMore (nI t) μ44) (fun v45 μ46 => bd (f_X8_comeBack μ46) (fun _ μ48 => F v45 μ48)))) = F (cIf (canP y r n = true ∧ one (y.1, rwD y.2.1 r n, y.2.2) nt e.2) 1 0) μ1) ∧ mY (μ1 28 0) y ∧ mY (μ1 29 0) y ∧ only μ μ1 O3 := by
      by_cases c : canP y r n = true
      · have hle := canP_le c
        obtain ⟨μ1, a1, a2, a3⟩ := m_drawOut (t := r) (n := n) h hg.1 (by omega) hle
        obtain ⟨μ1', c1, c2, c3⟩ := m_oneMore (t := t) (e := e) a2 (gD' hg hr hle) ht
        have h30' : mY (μ1' 29 0) y := by rw [c3 29 0 (by unfold O2; omega), a3 29 0 (by unfold Mo; omega)]; exact h30
        obtain ⟨μ2, b1, b2, b3⟩ := m_comeBack h30' hg.1
        refine ⟨μ2, fun F => ?_, b2, by rw [b3 29 0 (by unfold Mo; omega)]; exact h30', (a3.w (by unfold Mo O3; omega)).tr ((c3.w (by unfold O2 O3; omega)).tr (b3.w (by unfold Mo O3; omega)))⟩
        rw [m_canPull h hg.1.1 (by omega) (by omega), q_bd, if_pos c, if_neg n10, a1, q_bd, c1, q_bd, b1, q_bd]
        by_cases q : one (y.1, rwD y.2.1 r n, y.2.2) nt e.2
        · rw [cIf_t (one_D.mpr q), cIf_t ⟨c, q⟩]
        · rw [cIf_f (fun z => q (one_D.mp z)), cIf_f (fun z => q z.2)]
      · refine ⟨μ, fun F => ?_, h, h30, only.rf⟩
        rw [m_canPull h hg.1.1 (by omega) (by omega), q_bd, if_neg c, if_pos p00, cIf_f (fun z => c z.1)]
    obtain ⟨μ1, p1, p2, p3, p4⟩ := hP
    have hQ : ∃ μ2, (∀ (F : Int32 → mT → Option (Int32 × mT)), bd (f_X8_canPush (nI r) (nI n) μ1) (fun v26 μ27 => if v26 = 0 then F 0 μ27 else bd (f_X8_setBack (nI r) (nI n) μ27) (fun v43 μ44 => bd (f_X8_oneMore (nI t) μ44) (fun v45 μ46 => bd (f_X8_comeBack μ46) (fun _ μ48 => F v45 μ48)))) = F (cIf (canQ y r n = true ∧ one (y.1, rwB y.2.1 r n, y.2.2) nt e.2) 1 0) μ2) ∧ mY (μ2 28 0) y ∧ mY (μ2 29 0) y ∧ only μ1 μ2 O3 := by
      by_cases c : canQ y r n = true
      · have hle := canQ_le c
        obtain ⟨μ1', a1, a2, a3⟩ := m_setBack (t := r) (n := n) p2 hg.1 (by omega) hle
        obtain ⟨μ1'', c1, c2, c3⟩ := m_oneMore (t := t) (e := e) a2 (gB' hg hr hle) ht
        have h30' : mY (μ1'' 29 0) y := by rw [c3 29 0 (by unfold O2; omega), a3 29 0 (by unfold Mo; omega)]; exact p3
        obtain ⟨μ2, b1, b2, b3⟩ := m_comeBack h30' hg.1
        refine ⟨μ2, fun F => ?_, b2, by rw [b3 29 0 (by unfold Mo; omega)]; exact h30', (a3.w (by unfold Mo O3; omega)).tr ((c3.w (by unfold O2 O3; omega)).tr (b3.w (by unfold Mo O3; omega)))⟩
        rw [m_canPush p2 hg.1.1 (by omega) (by omega), q_bd, if_pos c, if_neg n10, a1, q_bd, c1, q_bd, b1, q_bd]
        by_cases q : one (y.1, rwB y.2.1 r n, y.2.2) nt e.2
        · rw [cIf_t (one_B.mpr q), cIf_t ⟨c, q⟩]
        · rw [cIf_f (fun z => q (one_B.mp z)), cIf_f (fun z => q z.2)]
      · refine ⟨μ1, fun F => ?_, p2, p3, only.rf⟩
        rw [m_canPush p2 hg.1.1 (by omega) (by omega), q_bd, if_neg c, if_pos p00, cIf_f (fun z => c z.1)]
    obtain ⟨μ2, q1, q2, q3, q4⟩ := hQ
    have hex : (∃ m, n ≤ m ∧ m ≤ 30 ∧ twoN y nt r e.2 m) ↔ (canP y r n = true ∧ one (y.1, rwD y.2.1 r n, y.2.2) nt e.2) ∨ (canQ y r n = true ∧ one (y.1, rwB y.2.1 r n, y.2.2) nt e.2) ∨ ∃ m, n + 1 ≤ m ∧ m ≤ 30 ∧ twoN y nt r e.2 m := by
      constructor
      · rintro ⟨m, a, b, c⟩
        by_cases z : m = n
        · subst z
          exact c.elim Or.inl (fun c => Or.inr (Or.inl c))
        · exact Or.inr (Or.inr ⟨m, by omega, b, c⟩)
      · rintro (z | z | ⟨m, a, b, c⟩)
        · exact ⟨n, Nat.le_refl _, by omega, Or.inl z⟩
        · exact ⟨n, Nat.le_refl _, by omega, Or.inr z⟩
        · exact ⟨m, by omega, b, c⟩
    have en : (nI n + 1 : Int32) = nI (n + 1) := nI_1 n
    have hstep : ∀ K, f_X8_moves_L79 (nI t) (nI r) K (f + 1) 0 (nI n) μ = (fun (v29 : Int32) (μ30 : mT) => lt (fun (v32 : Int32) (μ33 : mT) => lt (nI n + 1 : Int32) (fun v34 => f_X8_moves_L79 (nI t) (nI r) K f v32 v34 μ33)) (fun J31 => if v29 = 0 then bd (f_X8_canPush (nI r) (nI n) μ30) (fun v35 μ36 => if v35 = 0 then J31 v29 μ36 else bd (f_X8_setBack (nI r) (nI n) μ36) (fun v37 μ38 => bd (f_X8_oneMore (nI t) μ38) (fun v39 μ40 => bd (f_X8_comeBack μ40) (fun _ μ42 => J31 v39 μ42)))) else J31 v29 μ30)) (cIf (canP y r n = true ∧ one (y.1, rwD y.2.1 r n, y.2.2) nt e.2) 1 0) μ1 := fun K => by
      rw [f_X8_moves_L79, z_l31, if_neg (nI_ge (by omega) (by omega)), if_pos p00]
      exact p1 _
    by_cases c1 : canP y r n = true ∧ one (y.1, rwD y.2.1 r n, y.2.2) nt e.2
    · refine ⟨μ1, fun K => ?_, p2, p3, p4⟩
      rw [hstep, cIf_t c1, cIf_t (hex.mpr (Or.inl c1))]
      dsimp only
      rw [q_lt, if_neg n10]
      dsimp only
      rw [q_lt, en, stop]
    · have hstep2 : ∀ K, f_X8_moves_L79 (nI t) (nI r) K (f + 1) 0 (nI n) μ = f_X8_moves_L79 (nI t) (nI r) K f (cIf (canQ y r n = true ∧ one (y.1, rwB y.2.1 r n, y.2.2) nt e.2) 1 0) (nI (n + 1)) μ2 := fun K => by
        rw [hstep, cIf_f c1]
        dsimp only
        rw [q_lt, if_pos p00, ← en]
        exact q1 (fun v32 μ33 => f_X8_moves_L79 (nI t) (nI r) K f v32 (nI n + 1) μ33)
      by_cases c2 : canQ y r n = true ∧ one (y.1, rwB y.2.1 r n, y.2.2) nt e.2
      · refine ⟨μ2, fun K => ?_, q2, q3, p4.tr q4⟩
        rw [hstep2, cIf_t c2, stop, cIf_t (hex.mpr (Or.inr (Or.inl c2)))]
      · obtain ⟨μ3, r1, r2, r3, r4⟩ := ih f (n + 1) μ2 (by omega) (by omega) q2 q3
        refine ⟨μ3, fun K => ?_, r2, r3, p4.tr (q4.tr r4)⟩
        rw [hstep2, cIf_f c2, r1]
        congr 1
        by_cases c3 : ∃ m, n + 1 ≤ m ∧ m ≤ 30 ∧ twoN y nt r e.2 m
        · rw [cIf_t c3, cIf_t (hex.mpr (Or.inr (Or.inr c3)))]
        · rw [cIf_f c3, cIf_f (fun z => (hex.mp z).elim c1 (fun z => z.elim c2 c3))]
theorem m_o61 {nt t : Nat} {y : yT} {e : Int32 × List Nat} (hg : gN y nt) (ht : y.2.2.2[t]? = some e) : ∀ (d f r : Nat) (μ : mT), r + d = nt → d < f → mY (μ 28 0) y → mY (μ 29 0) y →
    ∃ μ', (∀ K, f_X8_moves_L61 (nI t) K f 0 (nI r) μ = K (cIf (∃ r' m, r ≤ r' ∧ r' < nt ∧ 1 ≤ m ∧ m ≤ 30 ∧ twoN y nt r' e.2 m) 1 0) μ') ∧ mY (μ' 28 0) y ∧ mY (μ' 29 0) y ∧ only μ μ' O3 := by
  have hn8 := hg.2.1
  intro d
  induction d with
  | zero =>
    intro f r μ hi hf h h30
    obtain ⟨f, rfl⟩ : ∃ n', f = n' + 1 := ⟨f - 1, by omega⟩
    refine ⟨μ, fun K => ?_, h, h30, only.rf⟩
    have e7 : μ 28 0 (7 : Int32).toNatClampNeg = nI nt := (h.1.z (k := 7) (by omega)).trans hg.2.2.1
    rw [f_X8_moves_L61, e7, if_pos (nI_le (by omega) (by omega)), cIf_f (by rintro ⟨r', m, a, b, c⟩; omega)]
  | succ d ih =>
    intro f r μ hi hf h h30
    obtain ⟨f, rfl⟩ : ∃ n', f = n' + 1 := ⟨f - 1, by omega⟩
    have e7 : ∀ {μ : mT}, mY (μ 28 0) y → μ 28 0 (7 : Int32).toNatClampNeg = nI nt := fun h => (h.1.z (k := 7) (by omega)).trans hg.2.2.1
    have stop : ∀ (μ : mT) K, f_X8_moves_L61 (nI t) K (f + 1) 1 (nI (r + 1)) μ = K 1 μ := fun μ K => by
      rw [f_X8_moves_L61, if_neg n10]
      split <;> rfl
    obtain ⟨μ1, a1, a2, a3, a4⟩ := m_o79 hg ht (r := r) (by omega) 30 fu 1 μ (by omega) (by unfold fu; omega) h h30
    have hstep : ∀ K, f_X8_moves_L61 (nI t) K (f + 1) 0 (nI r) μ = f_X8_moves_L61 (nI t) K f (cIf (∃ m, 1 ≤ m ∧ m ≤ 30 ∧ twoN y nt r e.2 m) 1 0) (nI (r + 1)) μ1 := fun K => by
      rw [f_X8_moves_L61, e7 h, if_neg (nI_ge (by omega) (by omega)), if_pos p00, q_lt, z_l1, a1, q_lt, q_add, ← z_l1]
    have hex : (∃ r' m, r ≤ r' ∧ r' < nt ∧ 1 ≤ m ∧ m ≤ 30 ∧ twoN y nt r' e.2 m) ↔ (∃ m, 1 ≤ m ∧ m ≤ 30 ∧ twoN y nt r e.2 m) ∨ ∃ r' m, r + 1 ≤ r' ∧ r' < nt ∧ 1 ≤ m ∧ m ≤ 30 ∧ twoN y nt r' e.2 m := by
      constructor
      · rintro ⟨r', m, a, b, c⟩
        by_cases z : r' = r
        · subst z
          exact Or.inl ⟨m, c⟩
        · exact Or.inr ⟨r', m, by omega, b, c⟩
      · rintro (⟨m, c⟩ | ⟨r', m, a, b, c⟩)
        · exact ⟨r, m, Nat.le_refl _, by omega, c⟩
        · exact ⟨r', m, by omega, b, c⟩
    by_cases c1 : ∃ m, 1 ≤ m ∧ m ≤ 30 ∧ twoN y nt r e.2 m
    · refine ⟨μ1, fun K => ?_, a2, a3, a4⟩
      obtain ⟨f, rfl⟩ : ∃ n', f = n' + 1 := ⟨f - 1, by omega⟩
      rw [hstep, cIf_t c1, cIf_t (hex.mpr (Or.inl c1)), f_X8_moves_L61, if_neg n10]
      split <;> rfl
    · obtain ⟨μ2, b1, b2, b3, b4⟩ := ih f (r + 1) μ1 (by omega) (by omega) a2 a3
      refine ⟨μ2, fun K => ?_, b2, b3, a4.tr b4⟩
      rw [hstep, cIf_f c1, b1]
      congr 1
      by_cases c3 : ∃ r' m, r + 1 ≤ r' ∧ r' < nt ∧ 1 ≤ m ∧ m ≤ 30 ∧ twoN y nt r' e.2 m
      · rw [cIf_t c3, cIf_t (hex.mpr (Or.inr c3))]
      · rw [cIf_f c3, cIf_f (fun z => (hex.mp z).elim c1 c3)]
theorem m_movesOf {nt t : Nat} {y : yT} {e : Int32 × List Nat} {μ : mT} (h : mY (μ 28 0) y) (hg : gN y nt) (ht : y.2.2.2[t]? = some e) :
    ∃ μ', f_X8_moves (nI t) μ = some (mvS y nt e.2, μ') ∧ mY (μ' 28 0) y ∧ only μ μ' O3 := by
  have htl := (List.getElem?_eq_some_iff.mp ht).1
  have htl8 := hg.1.2.2.2.2.1
  unfold f_X8_moves mvS
  rw [m_isTrain h htl8, q_bd, if_pos (show (tIx y.2.2.2.length (nI t)).isSome = true from by
    unfold tIx
    rw [if_neg (nI_pos (by omega)), q_cl (by omega), if_pos htl]
    rfl), if_neg n10, m_canLeave h hg.1 ht, q_bd]
  by_cases q : y.2.1 8 = e.2
  · rw [if_pos q, if_pos q, if_neg n10]
    exact ⟨μ, rfl, h, only.rf⟩
  rw [if_neg q, if_neg q, if_pos p00]
  obtain ⟨μ1, a1, a2, a3⟩ := m_oneMore h hg ht
  have o1 : only μ μ1 O3 := a3.w (by unfold O2 O3; omega)
  rw [a1, q_bd]
  by_cases c1 : one y nt e.2
  · rw [cIf_t c1, cIf_t c1, if_neg n10]
    exact ⟨μ1, rfl, a2, o1⟩
  rw [cIf_f c1, cIf_f c1, if_pos p00]
  obtain ⟨μ2, z1, z2, z3⟩ := m_cpD (a1 := nI t) (ρ := μ1 29 0) (ρs := μ1 28 0) 560 fu 0 μ1 (by omega) (by unfold fu; omega) (fun x => by rw [if_neg (by omega)]) (fun x => rfl)
  have h0 : mY (μ2 28 0) y := by rw [z3 28 0 (by omega)]; exact a2
  have h30 : mY (μ2 29 0) y := a2.cong hg.1 (fun x hx => by rw [z2, if_pos hx])
  obtain ⟨μ3, b1, b2, b3, b4⟩ := m_o61 hg ht nt fu 0 μ2 (by omega) (by have := hg.2.1; unfold fu; omega) h0 h30
  rw [← z_l0] at z1 b1
  rw [q_lt, z1, q_lt, b1]
  have o3 : only μ μ3 O3 := o1.tr ((z3.w (by unfold O3; omega)).tr b4)
  have htwo : two y nt e.2 ↔ (∃ r' m, 0 ≤ r' ∧ r' < nt ∧ 1 ≤ m ∧ m ≤ 30 ∧ twoN y nt r' e.2 m) ∨ twoR y nt e.2 := by
    unfold two twoP twoQ twoN
    constructor
    · rintro (⟨r, a, ⟨m, b, c, d⟩ | ⟨m, b, c, d⟩⟩ | z)
      · exact Or.inl ⟨r, m, Nat.zero_le _, a, b, c, Or.inl d⟩
      · exact Or.inl ⟨r, m, Nat.zero_le _, a, b, c, Or.inr d⟩
      · exact Or.inr z
    · rintro (⟨r, m, -, a, b, c, d | d⟩ | z)
      · exact Or.inl ⟨r, a, Or.inl ⟨m, b, c, d⟩⟩
      · exact Or.inl ⟨r, a, Or.inr ⟨m, b, c, d⟩⟩
      · exact Or.inr z
  rw [q_lt]
  by_cases c2 : ∃ r' m, 0 ≤ r' ∧ r' < nt ∧ 1 ≤ m ∧ m ≤ 30 ∧ twoN y nt r' e.2 m
  · rw [cIf_t c2, cIf_t (htwo.mpr (Or.inl c2)), if_neg n10]
    exact ⟨μ3, rfl, b2, o3⟩
  · rw [cIf_f c2, if_pos p00, m_canRound b2 hg.1.1, q_bd]
    by_cases c3 : canR y = true
    · rw [if_pos c3, if_neg n10]
      obtain ⟨μ4, d1, d2, d3⟩ := m_turnRound b2 hg.1
      have hgr : gN (y.1, rwR y.2.1, y.2.2) nt := gN_R hg rfl hg.1.2.2.2.1
      obtain ⟨μ5, e1, e2, e3⟩ := m_oneMore d2 hgr ht
      have h30' : mY (μ5 29 0) y := by rw [e3 29 0 (by unfold O2; omega), d3 29 0 (by unfold Mo; omega)]; exact b3
      obtain ⟨μ6, f1, f2, f3⟩ := m_comeBack h30' hg.1
      rw [d1, q_bd, e1, q_bd, f1, q_bd]
      refine ⟨μ6, ?_, f2, o3.tr ((d3.w (by unfold Mo O3; omega)).tr ((e3.w (by unfold O2 O3; omega)).tr (f3.w (by unfold Mo O3; omega))))⟩
      by_cases q : one (y.1, rwR y.2.1, y.2.2) nt e.2
      · rw [cIf_t q, cIf_t (htwo.mpr (Or.inr ⟨c3, q⟩))]
        rfl
      · rw [cIf_f q, cIf_f (fun z => (htwo.mp z).elim c2 (fun z => q z.2))]
        rfl
    · rw [if_neg c3, if_pos p00, cIf_f (fun z => (htwo.mp z).elim c2 (fun z => c3 z.1))]
      exact ⟨μ3, rfl, b2, o3⟩
