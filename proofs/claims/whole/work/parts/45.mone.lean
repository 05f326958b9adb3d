theorem m_cpA {a1 : Int32} {ρ ρs : Nat → Int32} : ∀ (d f i : Nat) (μ : mT), i + d = 560 → d < f → (∀ x, μ 30 0 x = if x < i then ρs x else ρ x) → (∀ x, μ 28 0 x = ρs x) →
    ∃ μ', (∀ K, f_X8_oneMore_L4 a1 K f (nI i) μ = K μ') ∧ (∀ x, μ' 30 0 x = if x < 560 then ρs x else ρ x) ∧ only μ μ' (fun κ j => κ = 30 ∧ j = 0) := by
  intro d
  induction d with
  | zero =>
    intro f i μ hi hf hx hs
    obtain ⟨f, rfl⟩ : ∃ n', f = n' + 1 := ⟨f - 1, by omega⟩
    refine ⟨μ, ?_, ?_, only.rf⟩
    · intro K
      rw [f_X8_oneMore_L4, z_l560, if_pos (nI_le (by omega) (by omega))]
    · rw [show 560 = i by omega]
      exact hx
  | succ d ih =>
    intro f i μ hi hf hx hs
    obtain ⟨f, rfl⟩ : ∃ n', f = n' + 1 := ⟨f - 1, by omega⟩
    have er : μ 28 0 i = ρs i := hs i
    have hstep : ∀ K, f_X8_oneMore_L4 a1 K (f + 1) (nI i) μ = f_X8_oneMore_L4 a1 K f (nI (i + 1)) (upM μ 30 0 i (ρs i)) := by
      intro K
      rw [f_X8_oneMore_L4, z_l560, if_neg (nI_ge (by omega) (by omega))]
      simp (disch := omega) only [z_l1, q_add, q_gdi, q_cl, q_lt, er]
    simp only [hstep]
    obtain ⟨μ', g1, g2, g3⟩ := ih f (i + 1) (upM μ 30 0 i (ρs i)) (by omega) (by omega) (fun x => by
      rw [q_up, hx]
      by_cases c : x = i
      · subst c
        rw [if_pos ⟨rfl, rfl, rfl⟩, if_pos (by omega)]
      · rw [if_neg (fun z => c z.2.2)]
        by_cases c2 : x < i
        · rw [if_pos c2, if_pos (by omega)]
        · rw [if_neg c2, if_neg (by omega)]) (fun x => by rw [q_upn (by omega)]; exact hs x)
    exact ⟨μ', g1, g2, (q_uple rfl).tr g3⟩
theorem m_cpB {ρ ρs : Nat → Int32} : ∀ (d f i : Nat) (μ : mT), i + d = 560 → d < f → (∀ x, μ 28 0 x = if x < i then ρs x else ρ x) → (∀ x, μ 30 0 x = ρs x) →
    ∃ μ', (f_X8_comeBack2_L2 f (nI i) μ = some (0, μ')) ∧ (∀ x, μ' 28 0 x = if x < 560 then ρs x else ρ x) ∧ only μ μ' (fun κ j => κ = 28 ∧ j = 0) := by
  intro d
  induction d with
  | zero =>
    intro f i μ hi hf hx hs
    obtain ⟨f, rfl⟩ : ∃ n', f = n' + 1 := ⟨f - 1, by omega⟩
    refine ⟨μ, ?_, ?_, only.rf⟩
    · skip
      rw [f_X8_comeBack2_L2, z_l560, if_pos (nI_le (by omega) (by omega))]
    · rw [show 560 = i by omega]
      exact hx
  | succ d ih =>
    intro f i μ hi hf hx hs
    obtain ⟨f, rfl⟩ : ∃ n', f = n' + 1 := ⟨f - 1, by omega⟩
    have er : μ 30 0 i = ρs i := hs i
    have hstep : f_X8_comeBack2_L2 (f + 1) (nI i) μ = f_X8_comeBack2_L2 f (nI (i + 1)) (upM μ 28 0 i (ρs i)) := by
      skip
      rw [f_X8_comeBack2_L2, z_l560, if_neg (nI_ge (by omega) (by omega))]
      simp (disch := omega) only [z_l1, q_add, q_gdi, q_cl, q_lt, er]
    simp only [hstep]
    obtain ⟨μ', g1, g2, g3⟩ := ih f (i + 1) (upM μ 28 0 i (ρs i)) (by omega) (by omega) (fun x => by
      rw [q_up, hx]
      by_cases c : x = i
      · subst c
        rw [if_pos ⟨rfl, rfl, rfl⟩, if_pos (by omega)]
      · rw [if_neg (fun z => c z.2.2)]
        by_cases c2 : x < i
        · rw [if_pos c2, if_pos (by omega)]
        · rw [if_neg c2, if_neg (by omega)]) (fun x => by rw [q_upn (by omega)]; exact hs x)
    exact ⟨μ', g1, g2, (q_uple rfl).tr g3⟩
theorem m_cpC {ρ ρs : Nat → Int32} : ∀ (d f i : Nat) (μ : mT), i + d = 560 → d < f → (∀ x, μ 28 0 x = if x < i then ρs x else ρ x) → (∀ x, μ 29 0 x = ρs x) →
    ∃ μ', (f_X8_comeBack_L2 f (nI i) μ = some (0, μ')) ∧ (∀ x, μ' 28 0 x = if x < 560 then ρs x else ρ x) ∧ only μ μ' (fun κ j => κ = 28 ∧ j = 0) := by
  intro d
  induction d with
  | zero =>
    intro f i μ hi hf hx hs
    obtain ⟨f, rfl⟩ : ∃ n', f = n' + 1 := ⟨f - 1, by omega⟩
    refine ⟨μ, ?_, ?_, only.rf⟩
    · skip
      rw [f_X8_comeBack_L2, z_l560, if_pos (nI_le (by omega) (by omega))]
    · rw [show 560 = i by omega]
      exact hx
  | succ d ih =>
    intro f i μ hi hf hx hs
    obtain ⟨f, rfl⟩ : ∃ n', f = n' + 1 := ⟨f - 1, by omega⟩
    have er : μ 29 0 i = ρs i := hs i
    have hstep : f_X8_comeBack_L2 (f + 1) (nI i) μ = f_X8_comeBack_L2 f (nI (i + 1)) (upM μ 28 0 i (ρs i)) := by
      skip
      rw [f_X8_comeBack_L2, z_l560, if_neg (nI_ge (by omega) (by omega))]
      simp (disch := omega) only [z_l1, q_add, q_gdi, q_cl, q_lt, er]
    simp only [hstep]
    obtain ⟨μ', g1, g2, g3⟩ := ih f (i + 1) (upM μ 28 0 i (ρs i)) (by omega) (by omega) (fun x => by
      rw [q_up, hx]
      by_cases c : x = i
      · subst c
        rw [if_pos ⟨rfl, rfl, rfl⟩, if_pos (by omega)]
      · rw [if_neg (fun z => c z.2.2)]
        by_cases c2 : x < i
        · rw [if_pos c2, if_pos (by omega)]
        · rw [if_neg c2, if_neg (by omega)]) (fun x => by rw [q_upn (by omega)]; exact hs x)
    exact ⟨μ', g1, g2, (q_uple rfl).tr g3⟩
theorem m_cpD {a1 : Int32} {ρ ρs : Nat → Int32} : ∀ (d f i : Nat) (μ : mT), i + d = 560 → d < f → (∀ x, μ 29 0 x = if x < i then ρs x else ρ x) → (∀ x, μ 28 0 x = ρs x) →
    ∃ μ', (∀ K, f_X8_moves_L34 a1 K f (nI i) μ = K μ') ∧ (∀ x, μ' 29 0 x = if x < 560 then ρs x else ρ x) ∧ only μ μ' (fun κ j => κ = 29 ∧ j = 0) := by
  intro d
  induction d with
  | zero =>
    intro f i μ hi hf hx hs
    obtain ⟨f, rfl⟩ : ∃ n', f = n' + 1 := ⟨f - 1, by omega⟩
    refine ⟨μ, ?_, ?_, only.rf⟩
    · intro K
      rw [f_X8_moves_L34, z_l560, if_pos (nI_le (by omega) (by omega))]
    · rw [show 560 = i by omega]
      exact hx
  | succ d ih =>
    intro f i μ hi hf hx hs
    obtain ⟨f, rfl⟩ : ∃ n', f = n' + 1 := ⟨f - 1, by omega⟩
    have er : μ 28 0 i = ρs i := hs i
    have hstep : ∀ K, f_X8_moves_L34 a1 K (f + 1) (nI i) μ = f_X8_moves_L34 a1 K f (nI (i + 1)) (upM μ 29 0 i (ρs i)) := by
      intro K
      rw [f_X8_moves_L34, z_l560, if_neg (nI_ge (by omega) (by omega))]
      simp (disch := omega) only [z_l1, q_add, q_gdi, q_cl, q_lt, er]
    simp only [hstep]
    obtain ⟨μ', g1, g2, g3⟩ := ih f (i + 1) (upM μ 29 0 i (ρs i)) (by omega) (by omega) (fun x => by
      rw [q_up, hx]
      by_cases c : x = i
      · subst c
        rw [if_pos ⟨rfl, rfl, rfl⟩, if_pos (by omega)]
      · rw [if_neg (fun z => c z.2.2)]
        by_cases c2 : x < i
        · rw [if_pos c2, if_pos (by omega)]
        · rw [if_neg c2, if_neg (by omega)]) (fun x => by rw [q_upn (by omega)]; exact hs x)
    exact ⟨μ', g1, g2, (q_uple rfl).tr g3⟩
theorem m_comeBack2 {y : yT} {μ : mT} (h : mY (μ 30 0) y) (hg : gY y) : ∃ μ', f_X8_comeBack2 μ = some (0, μ') ∧ mY (μ' 28 0) y ∧ only μ μ' Mo := by
  unfold f_X8_comeBack2
  obtain ⟨μ', a1, a2, a3⟩ := m_cpB (ρ := μ 28 0) (ρs := μ 30 0) 560 fu 0 μ (by omega) (by unfold fu; omega) (fun x => by rw [if_neg (by omega)]) (fun x => rfl)
  rw [← z_l0] at a1
  exact ⟨μ', a1, h.cong hg (fun x hx => by rw [a2, if_pos hx]), a3⟩
theorem m_comeBack {y : yT} {μ : mT} (h : mY (μ 29 0) y) (hg : gY y) : ∃ μ', f_X8_comeBack μ = some (0, μ') ∧ mY (μ' 28 0) y ∧ only μ μ' Mo := by
  unfold f_X8_comeBack
  obtain ⟨μ', a1, a2, a3⟩ := m_cpC (ρ := μ 28 0) (ρs := μ 29 0) 560 fu 0 μ (by omega) (by unfold fu; omega) (fun x => by rw [if_neg (by omega)]) (fun x => rfl)
  rw [← z_l0] at a1
  exact ⟨μ', a1, h.cong hg (fun x hx => by rw [a2, if_pos hx]), a3⟩
def oneN (y : yT) (r : Nat) (l : List Nat) (m : Nat) : Prop := (canP y r m = true ∧ y.2.1 8 ++ (y.2.1 r).take m = l) ∨ (canQ y r m = true ∧ (y.2.1 8).take ((y.2.1 8).length - m) = l)
def O2 : Nat → Nat → Prop := fun κ j => (κ = 28 ∨ κ = 30) ∧ j = 0
theorem gD' {y : yT} {nt t n : Nat} (hg : gN y nt) (ht : t < nt) (hn : n ≤ (y.2.1 t).length) : gN (dO y t n) nt :=
  gN_D (s := (dO y t n).1) (bl := y.2.2.1) hg (by
    unfold dO nP
    dsimp only
    rw [sU_n (by omega), if_neg (by omega)]) ht hn hg.1.2.2.2.1
theorem gB' {y : yT} {nt t n : Nat} (hg : gN y nt) (ht : t < nt) (hn : n ≤ (y.2.1 8).length) : gN (sBk y t n) nt :=
  gN_B (s := (sBk y t n).1) (bl := y.2.2.1) hg (by
    unfold sBk
    dsimp only
    rw [sU_n (by omega)]) ht hn hg.1.2.2.2.1
theorem m_o49 {nt t r : Nat} {y : yT} {e : Int32 × List Nat} (hg : gN y nt) (ht : y.2.2.2[t]? = some e) (hr : r < nt) : ∀ (d f n : Nat) (μ : mT), n + d = 31 → d < f → mY (μ 28 0) y → mY (μ 30 0) y →
    ∃ μ', (∀ K, f_X8_oneMore_L49 (nI t) (nI r) K f 0 (nI n) μ = K (cIf (∃ m, n ≤ m ∧ m ≤ 30 ∧ oneN y r e.2 m) 1 0) μ') ∧ mY (μ' 28 0) y ∧ mY (μ' 30 0) y ∧ only μ μ' O2 := by
  have hn8 := hg.2.1
  intro d
  induction d with
  | zero =>
    intro f n μ hi hf h h30
    obtain ⟨f, rfl⟩ : ∃ n', f = n' + 1 := ⟨f - 1, by omega⟩
    refine ⟨μ, fun K => ?_, h, h30, only.rf⟩
    rw [f_X8_oneMore_L49, z_l31, if_pos (nI_le (by omega) (by omega)), cIf_f (by rintro ⟨m, a, b, c⟩; omega)]
  | succ d ih =>
    intro f n μ hi hf h h30
    obtain ⟨f, rfl⟩ : ∃ n', f = n' + 1 := ⟨f - 1, by omega⟩
    have stop : ∀ (μ : mT) K, f_X8_oneMore_L49 (nI t) (nI r) K f 1 (nI (n + 1)) μ = K 1 μ := fun μ K => by
      obtain ⟨f, rfl⟩ : ∃ n', f = n' + 1 := ⟨f - 1, by omega⟩
      rw [f_X8_oneMore_L49, if_neg n10]
      split <;> rfl
    -- the pull
    have hP : ∃ μ1, (∀ (F : Int32 → mT → Option (Int32 × mT)), bd (f_X8_canPull (nI r) (nI n) μ) (fun v26 μ27 => if v26 = 0 then F 0 μ27 else bd (f_X8_drawOut (nI r) (nI n) μ27) (fun v43 μ44 => bd (f_X8_canLeave (nI t) μ44) (fun v45 μ46 => bd (f_X8_comeBack2 μ46) (fun _ μ48 => F v45 μ48)))) = F (cIf (canP y r n = true ∧ y.2.1 8 ++ (y.2.1 r).take n = e.2) 1 0) μ1) ∧ mY (μ1 28 0) y ∧ mY (μ1 30 0) y ∧ only μ μ1 O2 := by
      by_cases c : canP y r n = true
      · have hle := canP_le c
        obtain ⟨μ1, a1, a2, a3⟩ := m_drawOut (t := r) (n := n) h hg.1 (by omega) hle
        have h30' : mY (μ1 30 0) y := by rw [a3 30 0 (by unfold Mo; omega)]; exact h30
        obtain ⟨μ2, b1, b2, b3⟩ := m_comeBack2 h30' hg.1
        refine ⟨μ2, fun F => ?_, b2, by rw [b3 30 0 (by unfold Mo; omega)]; exact h30', (a3.tr b3).w (by unfold Mo O2; omega)⟩
        rw [m_canPull h hg.1.1 (by omega) (by omega), q_bd, if_pos c, if_neg n10, a1, q_bd, m_canLeave a2 (gD' hg hr hle).1 ht, q_bd, b1, q_bd]
        have e8 : (dO y r n).2.1 8 = y.2.1 8 ++ (y.2.1 r).take n := by
          show rwD y.2.1 r n 8 = _
          unfold rwD
          rw [if_neg (by omega), if_pos rfl]
        rw [e8]
        by_cases q : y.2.1 8 ++ (y.2.1 r).take n = e.2
        · rw [if_pos q, cIf_t ⟨c, q⟩]
        · rw [if_neg q, cIf_f (fun z => q z.2)]
      · refine ⟨μ, fun F => ?_, h, h30, only.rf⟩
        rw [m_canPull h hg.1.1 (by omega) (by omega), q_bd, if_neg c, if_pos p00, cIf_f (fun z => c z.1)]
    obtain ⟨μ1, p1, p2, p3, p4⟩ := hP
    have hQ : ∃ μ2, (∀ (F : Int32 → mT → Option (Int32 × mT)), bd (f_X8_canPush (nI r) (nI n) μ1) (fun v26 μ27 => if v26 = 0 then F 0 μ27 else bd (f_X8_setBack (nI r) (nI n) μ27) (fun v43 μ44 => bd (f_X8_canLeave (nI t) μ44) (fun v45 μ46 => bd (f_X8_comeBack2 μ46) (fun _ μ48 => F v45 μ48)))) = F (cIf (canQ y r n = true ∧ (y.2.1 8).take ((y.2.1 8).length - n) = e.2) 1 0) μ2) ∧ mY (μ2 28 0) y ∧ mY (μ2 30 0) y ∧ only μ1 μ2 O2 := by
      by_cases c : canQ y r n = true
      · have hle := canQ_le c
        obtain ⟨μ1', a1, a2, a3⟩ := m_setBack (t := r) (n := n) p2 hg.1 (by omega) hle
        have h30' : mY (μ1' 30 0) y := by rw [a3 30 0 (by unfold Mo; omega)]; exact p3
        obtain ⟨μ2, b1, b2, b3⟩ := m_comeBack2 h30' hg.1
        refine ⟨μ2, fun F => ?_, b2, by rw [b3 30 0 (by unfold Mo; omega)]; exact h30', (a3.tr b3).w (by unfold Mo O2; omega)⟩
        rw [m_canPush p2 hg.1.1 (by omega) (by omega), q_bd, if_pos c, if_neg n10, a1, q_bd, m_canLeave a2 (gB' hg hr hle).1 ht, q_bd, b1, q_bd]
        have e8 : (sBk y r n).2.1 8 = (y.2.1 8).take ((y.2.1 8).length - n) := by
          show rwB y.2.1 r n 8 = _
          unfold rwB
          rw [if_neg (by omega), if_pos rfl]
        rw [e8]
        by_cases q : (y.2.1 8).take ((y.2.1 8).length - n) = e.2
        · rw [if_pos q, cIf_t ⟨c, q⟩]
        · rw [if_neg q, cIf_f (fun z => q z.2)]
      · refine ⟨μ1, fun F => ?_, p2, p3, only.rf⟩
        rw [m_canPush p2 hg.1.1 (by omega) (by omega), q_bd, if_neg c, if_pos p00, cIf_f (fun z => c z.1)]
    obtain ⟨μ2, q1, q2, q3, q4⟩ := hQ
    have hex : (∃ m, n ≤ m ∧ m ≤ 30 ∧ oneN y r e.2 m) ↔ (canP y r n = true ∧ y.2.1 8 ++ (y.2.1 r).take n = e.2) ∨ (canQ y r n = true ∧ (y.2.1 8).take ((y.2.1 8).length - n) = e.2) ∨ ∃ m, n + 1 ≤ m ∧ m ≤ 30 ∧ oneN y r e.2 m := by
      constructor
      · rintro ⟨m, a, b, c⟩
        by_cases z : m = n
        · subst z
          exact c.elim Or.inl (fun c => Or.inr (Or.inl c))
        · exact Or.inr (Or.inr ⟨m, by omega, b, c⟩)
      · rintro (z | z | ⟨m, a, b, c⟩)
        · exact ⟨n, Nat.le_refl _, by omega, Or.inl z⟩
        · exact ⟨n, Nat.le_refl _, by omega, Or.inr z⟩
        · exact ⟨m, by omega, b, c⟩
    have en : (nI n + 1 : Int32) = nI (n + 1) := nI_1 n
    have hstep : ∀ K, f_X8_oneMore_L49 (nI t) (nI r) K (f + 1) 0 (nI n) μ = (fun (v29 : Int32) (μ30 : mT) => lt (fun (v32 : Int32) (μ33 : mT) => lt (nI n + 1 : Int32) (fun v34 => f_X8_oneMore_L49 (nI t) (nI r) K f v32 v34 μ33)) (fun J31 => if v29 = 0 then bd (f_X8_canPush (nI r) (nI n) μ30) (fun v35 μ36 => if v35 = 0 then J31 v29 μ36 else bd (f_X8_setBack (nI r) (nI n) μ36) (fun v37 μ38 => bd (f_X8_canLeave (nI t) μ38) (fun v39 μ40 => bd (f_X8_comeBack2 μ40) (fun _ μ42 => J31 v39 μ42)))) else J31 v29 μ30)) (cIf (canP y r n = true ∧ y.2.1 8 ++ (y.2.1 r).take n = e.2) 1 0) μ1 := fun K => by
      rw [f_X8_oneMore_L49, z_l31, if_neg (nI_ge (by omega) (by omega)), if_pos p00]
      exact p1 _
    by_cases c1 : canP y r n = true ∧ y.2.1 8 ++ (y.2.1 r).take n = e.2
    · refine ⟨μ1, fun K => ?_, p2, p3, p4⟩
      rw [hstep, cIf_t c1, cIf_t (hex.mpr (Or.inl c1))]
      dsimp only
      rw [q_lt, if_neg n10]
      dsimp only
      rw [q_lt, en, stop]
    · have hstep2 : ∀ K, f_X8_oneMore_L49 (nI t) (nI r) K (f + 1) 0 (nI n) μ = f_X8_oneMore_L49 (nI t) (nI r) K f (cIf (canQ y r n = true ∧ (y.2.1 8).take ((y.2.1 8).length - n) = e.2) 1 0) (nI (n + 1)) μ2 := fun K => by
        rw [hstep, cIf_f c1]
        dsimp only
        rw [q_lt, if_pos p00, ← en]
        exact q1 (fun v32 μ33 => f_X8_oneMore_L49 (nI t) (nI r) K f v32 (nI n + 1) μ33)
      by_cases c2 : canQ y r n = true ∧ (y.2.1 8).take ((y.2.1 8).length - n) = e.2
      · refine ⟨μ2, fun K => ?_, q2, q3, p4.tr q4⟩
        rw [hstep2, cIf_t c2, stop, cIf_t (hex.mpr (Or.inr (Or.inl c2)))]
      · obtain ⟨μ3, r1, r2, r3, r4⟩ := ih f (n + 1) μ2 (by omega) (by omega) q2 q3
        refine ⟨μ3, fun K => ?_, r2, r3, p4.tr (q4.tr r4)⟩
        rw [hstep2, cIf_f c2, r1]
        congr 1
        by_cases c3 : ∃ m, n + 1 ≤ m ∧ m ≤ 30 ∧ oneN y r e.2 m
        · rw [cIf_t c3, cIf_t (hex.mpr (Or.inr (Or.inr c3)))]
        · rw [cIf_f c3, cIf_f (fun z => (hex.mp z).elim c1 (fun z => z.elim c2 c3))]
theorem m_o31 {nt t : Nat} {y : yT} {e : Int32 × List Nat} (hg : gN y nt) (ht : y.2.2.2[t]? = some e) : ∀ (d f r : Nat) (μ : mT), r + d = nt → d < f → mY (μ 28 0) y → mY (μ 30 0) y →
    ∃ μ', (∀ K, f_X8_oneMore_L31 (nI t) K f 0 (nI r) μ = K (cIf (∃ r' m, r ≤ r' ∧ r' < nt ∧ 1 ≤ m ∧ m ≤ 30 ∧ oneN y r' e.2 m) 1 0) μ') ∧ mY (μ' 28 0) y ∧ mY (μ' 30 0) y ∧ only μ μ' O2 := by
  have hn8 := hg.2.1
  intro d
  induction d with
  | zero =>
    intro f r μ hi hf h h30
    obtain ⟨f, rfl⟩ : ∃ n', f = n' + 1 := ⟨f - 1, by omega⟩
    refine ⟨μ, fun K => ?_, h, h30, only.rf⟩
    have e7 : μ 28 0 (7 : Int32).toNatClampNeg = nI nt := (h.1.z (k := 7) (by omega)).trans hg.2.2.1
    rw [f_X8_oneMore_L31, e7, if_pos (nI_le (by omega) (by omega)), cIf_f (by rintro ⟨r', m, a, b, c⟩; omega)]
  | succ d ih =>
    intro f r μ hi hf h h30
    obtain ⟨f, rfl⟩ : ∃ n', f = n' + 1 := ⟨f - 1, by omega⟩
    have e7 : ∀ {μ : mT}, mY (μ 28 0) y → μ 28 0 (7 : Int32).toNatClampNeg = nI nt := fun h => (h.1.z (k := 7) (by omega)).trans hg.2.2.1
    have stop : ∀ (μ : mT) K, f_X8_oneMore_L31 (nI t) K (f + 1) 1 (nI (r + 1)) μ = K 1 μ := fun μ K => by
      rw [f_X8_oneMore_L31, if_neg n10]
      split <;> rfl
    obtain ⟨μ1, a1, a2, a3, a4⟩ := m_o49 hg ht (r := r) (by omega) 30 fu 1 μ (by omega) (by unfold fu; omega) h h30
    have hstep : ∀ K, f_X8_oneMore_L31 (nI t) K (f + 1) 0 (nI r) μ = f_X8_oneMore_L31 (nI t) K f (cIf (∃ m, 1 ≤ m ∧ m ≤ 30 ∧ oneN y r e.2 m) 1 0) (nI (r + 1)) μ1 := fun K => by
      rw [f_X8_oneMore_L31, e7 h, if_neg (nI_ge (by omega) (by omega)), if_pos p00, q_lt, z_l1, a1, q_lt, q_add, ← z_l1]
    have hex : (∃ r' m, r ≤ r' ∧ r' < nt ∧ 1 ≤ m ∧ m ≤ 30 ∧ oneN y r' e.2 m) ↔ (∃ m, 1 ≤ m ∧ m ≤ 30 ∧ oneN y r e.2 m) ∨ ∃ r' m, r + 1 ≤ r' ∧ r' < nt ∧ 1 ≤ m ∧ m ≤ 30 ∧ oneN y r' e.2 m := by
      constructor
      · rintro ⟨r', m, a, b, c⟩
        by_cases z : r' = r
        · subst z
          exact Or.inl ⟨m, c⟩
        · exact Or.inr ⟨r', m, by omega, b, c⟩
      · rintro (⟨m, c⟩ | ⟨r', m, a, b, c⟩)
        · exact ⟨r, m, Nat.le_refl _, by omega, c⟩
        · exact ⟨r', m, by omega, b, c⟩
    by_cases c1 : ∃ m, 1 ≤ m ∧ m ≤ 30 ∧ oneN y r e.2 m
    · refine ⟨μ1, fun K => ?_, a2, a3, a4⟩
      obtain ⟨f, rfl⟩ : ∃ n', f = n' + 1 := ⟨f - 1, by omega⟩
      rw [hstep, cIf_t c1, cIf_t (hex.mpr (Or.inl c1)), f_X8_oneMore_L31, if_neg n10]
      split <;> rfl
    · obtain ⟨μ2, b1, b2, b3, b4⟩ := ih f (r + 1) μ1 (by omega) (by omega) a2 a3
      refine ⟨μ2, fun K => ?_, b2, b3, a4.tr b4⟩
      rw [hstep, cIf_f c1, b1]
      congr 1
      by_cases c3 : ∃ r' m, r + 1 ≤ r' ∧ r' < nt ∧ 1 ≤ m ∧ m ≤ 30 ∧ oneN y r' e.2 m
      · rw [cIf_t c3, cIf_t (hex.mpr (Or.inr c3))]
      · rw [cIf_f c3, cIf_f (fun z => (hex.mp z).elim c1 c3)]
theorem m_oneMore {nt t : Nat} {y : yT} {e : Int32 × List Nat} {μ : mT} (h : mY (μ 28 0) y) (hg : gN y nt) (ht : y.2.2.2[t]? = some e) :
    ∃ μ', f_X8_oneMore (nI t) μ = some (cIf (one y nt e.2) 1 0, μ') ∧ mY (μ' 28 0) y ∧ only μ μ' O2 := by
  unfold f_X8_oneMore
  obtain ⟨μ0, z1, z2, z3⟩ := m_cpA (a1 := nI t) (ρ := μ 30 0) (ρs := μ 28 0) 560 fu 0 μ (by omega) (by unfold fu; omega) (fun x => by rw [if_neg (by omega)]) (fun x => rfl)
  have h0 : mY (μ0 28 0) y := by rw [z3 28 0 (by omega)]; exact h
  have h30 : mY (μ0 30 0) y := h.cong hg.1 (fun x hx => by rw [z2, if_pos hx])
  obtain ⟨μ1, a1, a2, a3, a4⟩ := m_o31 hg ht nt fu 0 μ0 (by omega) (by have := hg.2.1; unfold fu; omega) h0 h30
  rw [← z_l0] at z1 a1
  rw [q_lt, z1, q_lt, a1]
  have hone : one y nt e.2 ↔ (∃ r' m, 0 ≤ r' ∧ r' < nt ∧ 1 ≤ m ∧ m ≤ 30 ∧ oneN y r' e.2 m) ∨ (canR y = true ∧ (y.2.1 8).reverse = e.2) := by
    unfold one oneN
    constructor
    · rintro (⟨r, m, a, b, c, d⟩ | ⟨r, m, a, b, c, d⟩ | z)
      · exact Or.inl ⟨r, m, Nat.zero_le _, a, b, c, Or.inl d⟩
      · exact Or.inl ⟨r, m, Nat.zero_le _, a, b, c, Or.inr d⟩
      · exact Or.inr z
    · rintro (⟨r, m, -, a, b, c, d | d⟩ | z)
      · exact Or.inl ⟨r, m, a, b, c, d⟩
      · exact Or.inr (Or.inl ⟨r, m, a, b, c, d⟩)
      · exact Or.inr (Or.inr z)
  have o1 : only μ μ1 O2 := (z3.w (by unfold O2; omega)).tr a4
  by_cases c1 : ∃ r' m, 0 ≤ r' ∧ r' < nt ∧ 1 ≤ m ∧ m ≤ 30 ∧ oneN y r' e.2 m
  · rw [cIf_t c1, cIf_t (hone.mpr (Or.inl c1))]
    exact ⟨μ1, rfl, a2, o1⟩
  · rw [cIf_f c1, if_pos p00, m_canRound a2 hg.1.1, q_bd]
    by_cases c2 : canR y = true
    · rw [if_pos c2, if_neg n10]
      obtain ⟨μ2, b1, b2, b3⟩ := m_turnRound a2 hg.1
      have h30' : mY (μ2 30 0) y := by rw [b3 30 0 (by unfold Mo; omega)]; exact a3
      obtain ⟨μ3, d1, d2, d3⟩ := m_comeBack2 h30' hg.1
      have hgr : gN (y.1, rwR y.2.1, y.2.2) nt := gN_R hg rfl hg.1.2.2.2.1
      rw [b1, q_bd, m_canLeave b2 hgr.1 ht, q_bd, d1, q_bd]
      have e8 : rwR y.2.1 8 = (y.2.1 8).reverse := by
        unfold rwR
        rw [if_pos rfl]
      dsimp only
      refine ⟨μ3, ?_, d2, o1.tr ((b3.tr d3).w (by unfold Mo O2; omega))⟩
      by_cases q : rwR y.2.1 8 = e.2
      · rw [if_pos q, cIf_t (hone.mpr (Or.inr ⟨c2, e8.symm.trans q⟩))]
        rfl
      · rw [if_neg q, cIf_f (fun z => (hone.mp z).elim c1 (fun z => q (e8.trans z.2)))]
        rfl
    · rw [if_neg c2, if_pos p00, cIf_f (fun z => (hone.mp z).elim c1 (fun z => c2 z.1))]
      exact ⟨μ1, rfl, a2, o1⟩
