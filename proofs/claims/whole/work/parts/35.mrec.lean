abbrev hT := Nat × (Nat → yT)
def pH (hp : hT) (y : yT) : hT := if hp.1 < 6 then (hp.1 + 1, fun i => if i = hp.1 then y else hp.2 i) else (6, fun i => if i = 5 then y else hp.2 (i + 1))
def pT (tx : Bool) (hp : hT) (y : yT) : hT := if tx = true then hp else pH hp y
def hM (μ : mT) (y : yT) (hp : hT) (tx : Bool) : Prop := mY (μ 28 0) y ∧ μ 27 0 4 = nI hp.1 ∧ hp.1 ≤ 6 ∧ (∀ i, i < hp.1 → mY (fun x => μ 31 0 (i * 560 + x)) (hp.2 i)) ∧ μ 27 0 9 = if tx = true then 1 else 0
def Mh : Nat → Nat → Prop := fun κ j => (κ = 27 ∨ κ = 28 ∨ κ = 31) ∧ j = 0
def k27 (μ μ' : mT) : Prop := ∀ k, k ≠ 4 → μ' 27 0 k = μ 27 0 k
theorem hM.now {μ μ' : mT} {y y' : yT} {hp : hT} {tx : Bool} (h : hM μ y hp tx) (hy : mY (μ' 28 0) y') (ho : only μ μ' Mo) : hM μ' y' hp tx :=
  ⟨hy, by rw [ho 27 0 (by unfold Mo; omega)]; exact h.2.1, h.2.2.1, fun i hi => by
    have := h.2.2.2.1 i hi
    rw [ho 31 0 (by unfold Mo; omega)]
    exact this, by rw [ho 27 0 (by unfold Mo; omega)]; exact h.2.2.2.2⟩
theorem k27_o {μ μ' : mT} (ho : only μ μ' Mo) : k27 μ μ' := fun k _ => by rw [ho 27 0 (by unfold Mo; omega)]
theorem k27.tr {μ μ1 μ2 : mT} (a : k27 μ μ1) (b : k27 μ1 μ2) : k27 μ μ2 := fun k hk => (b k hk).trans (a k hk)
theorem m_rec1 {ρ : Nat → Int32} : ∀ (d f i : Nat) (μ : mT), i + d = 2800 → d < f → (∀ x, μ 31 0 x = if x < i then ρ (x + 560) else ρ x) →
    ∃ μ', (∀ K, f_X8_record_L19 K f (nI i) μ = K μ') ∧ (∀ x, μ' 31 0 x = if x < 2800 then ρ (x + 560) else ρ x) ∧ only μ μ' (fun κ j => κ = 31 ∧ j = 0) := by
  intro d
  induction d with
  | zero =>
    intro f i μ hi hf hx
    obtain ⟨f, rfl⟩ : ∃ n', f = n' + 1 := ⟨f - 1, by omega⟩
    refine ⟨μ, ?_, ?_, only.rf⟩
    · intro K
      rw [f_X8_record_L19, z_l2800, if_pos (nI_le (by omega) (by omega))]
    · rw [show 2800 = i by omega]
      exact hx
  | succ d ih =>
    intro f i μ hi hf hx
    obtain ⟨f, rfl⟩ : ∃ n', f = n' + 1 := ⟨f - 1, by omega⟩
    have er : μ 31 0 (i + 560) = ρ (i + 560) := by rw [hx, if_neg (by omega)]
    have hstep : ∀ K, f_X8_record_L19 K (f + 1) (nI i) μ = f_X8_record_L19 K f (nI (i + 1)) (upM μ 31 0 i (ρ (i + 560))) := by
      intro K
      rw [f_X8_record_L19, z_l2800, if_neg (nI_ge (by omega) (by omega))]
      simp (disch := omega) only [z_l560, z_l1, q_add, q_gdi, q_cl, q_lt, er]
    simp only [hstep]
    obtain ⟨μ', g1, g2, g3⟩ := ih f (i + 1) (upM μ 31 0 i (ρ (i + 560))) (by omega) (by omega) (fun x => by
      rw [q_up, hx]
      by_cases c : x = i
      · subst c
        rw [if_pos ⟨rfl, rfl, rfl⟩, if_pos (by omega)]
      · rw [if_neg (fun z => c z.2.2)]
        by_cases c2 : x < i
        · rw [if_pos c2, if_pos (by omega)]
        · rw [if_neg c2, if_neg (by omega)])
    exact ⟨μ', g1, g2, (q_uple rfl).tr g3⟩
theorem m_rec2 {ρ : Nat → Int32} {u : Nat} (hu : u < 6) : ∀ (d f i : Nat) (μ : mT), i + d = 560 → d < f → μ 27 0 4 = nI u → (∀ x, μ 31 0 x = if u * 560 ≤ x ∧ x < u * 560 + i then μ 28 0 (x - u * 560) else ρ x) →
    ∃ μ', (∀ K, f_X8_record_L55 K f (nI i) μ = K μ') ∧ (∀ x, μ' 31 0 x = if u * 560 ≤ x ∧ x < u * 560 + 560 then μ 28 0 (x - u * 560) else ρ x) ∧ only μ μ' (fun κ j => κ = 31 ∧ j = 0) := by
  intro d
  induction d with
  | zero =>
    intro f i μ hi hf h4 hx
    obtain ⟨f, rfl⟩ : ∃ n', f = n' + 1 := ⟨f - 1, by omega⟩
    refine ⟨μ, ?_, ?_, only.rf⟩
    · intro K
      rw [f_X8_record_L55, z_l560, if_pos (nI_le (by omega) (by omega))]
    · rw [show u * 560 + 560 = u * 560 + i by omega]
      exact hx
  | succ d ih =>
    intro f i μ hi hf h4 hx
    obtain ⟨f, rfl⟩ : ∃ n', f = n' + 1 := ⟨f - 1, by omega⟩
    have hstep : ∀ K, f_X8_record_L55 K (f + 1) (nI i) μ = f_X8_record_L55 K f (nI (i + 1)) (upM μ 31 0 (u * 560 + i) (μ 28 0 i)) := by
      intro K
      rw [f_X8_record_L55, z_l560, if_neg (nI_ge (by omega) (by omega)), h4]
      simp (disch := omega) only [z_l1, q_mul, q_add, q_gdi, q_cl, q_lt]
    simp only [hstep]
    have ho : only μ (upM μ 31 0 (u * 560 + i) (μ 28 0 i)) (fun κ j => κ = 31 ∧ j = 0) := q_uple rfl
    obtain ⟨μ', g1, g2, g3⟩ := ih f (i + 1) (upM μ 31 0 (u * 560 + i) (μ 28 0 i)) (by omega) (by omega) (by rw [ho 27 0 (by omega)]; exact h4) (fun x => by
      rw [ho 28 0 (by omega), q_up, hx]
      by_cases c : x = u * 560 + i
      · subst c
        rw [if_pos ⟨rfl, rfl, rfl⟩, if_pos (by omega), show u * 560 + i - u * 560 = i by omega]
      · rw [if_neg (fun z => c z.2.2)]
        by_cases c2 : u * 560 ≤ x ∧ x < u * 560 + i
        · rw [if_pos c2, if_pos (by omega)]
        · rw [if_neg c2, if_neg (by omega)])
    rw [ho 28 0 (by omega)] at g2
    exact ⟨μ', g1, g2, ho.tr g3⟩
theorem m_record {μ : mT} {y : yT} {hp : hT} {tx : Bool} (h : hM μ y hp tx) (hg : gY y) (hgs : ∀ i, i < hp.1 → gY (hp.2 i)) :
    ∃ μ', f_X8_record μ = some (0, μ') ∧ hM μ' y (pT tx hp y) tx ∧ only μ μ' (fun κ j => (κ = 27 ∨ κ = 31) ∧ j = 0) ∧ k27 μ μ' := by
  obtain ⟨h1, h2, h3, h4, h5⟩ := h
  cases tx with
  | true =>
    refine ⟨μ, ?_, ⟨h1, h2, h3, h4, h5⟩, only.rf, fun k _ => rfl⟩
    unfold f_X8_record
    rw [h5, if_neg (by decide)]
  | false =>
    unfold f_X8_record
    rw [h5, if_pos (by rfl), q_lt]
    by_cases h6 : hp.1 = 6
    · rw [h2, h6, if_pos (by rfl), q_lt, z_l0]
      obtain ⟨μ1, a1, a2, a3⟩ := m_rec1 (ρ := μ 31 0) 2800 fu 0 μ (by omega) (by unfold fu; omega) (fun x => by rw [if_neg (by omega)])
      rw [a1, q_lt]
      dsimp only
      rw [q_lt]
      have e4 : (upM μ1 27 0 4 5) 27 0 4 = nI 5 := by rw [q_up, if_pos ⟨rfl, rfl, rfl⟩]; rfl
      obtain ⟨μ2, b1, b2, b3⟩ := m_rec2 (u := 5) (ρ := (upM μ1 27 0 4 5) 31 0) (by omega) 560 fu 0 (upM μ1 27 0 4 5) (by omega) (by unfold fu; omega) e4 (fun x => by rw [if_neg (by omega)])
      rw [b1, q_lt]
      have o2 : only μ μ2 (fun κ j => (κ = 27 ∨ κ = 31) ∧ j = 0) := (a3.w (by omega)).tr (only.tr ((q_uple rfl).w (by omega)) (b3.w (by omega)))
      have ew : ∀ x, μ2 31 0 x = if 2800 ≤ x ∧ x < 3360 then μ 28 0 (x - 2800) else if x < 2800 then μ 31 0 (x + 560) else μ 31 0 x := by
        intro x
        rw [b2, q_upn (by omega), q_upn (by omega), a3 28 0 (by omega), a2]
      have e27 : ∀ k, k ≠ 4 → μ2 27 0 k = μ 27 0 k := fun k hk => by
        rw [b3 27 0 (by omega), q_up, if_neg (by omega), a3 27 0 (by omega)]
      have e274 : μ2 27 0 4 = nI 5 := by rw [b3 27 0 (by omega)]; exact e4
      refine ⟨_, rfl, ⟨?_, ?_, ?_, fun i hi => ?_, ?_⟩, o2.tr ((q_uple rfl).w (by omega)), fun k hk => ?_⟩
      · rw [q_upn (by omega), o2 28 0 (by omega)]; exact h1
      · rw [q_up, if_pos ⟨rfl, rfl, rfl⟩, e274, z_l1, q_add]
        unfold pT pH
        rw [if_neg (by decide), if_neg (by omega)]
      · unfold pT pH
        rw [if_neg (by decide), if_neg (by omega)]
        exact Nat.le_refl 6
      · unfold pT pH at hi ⊢
        rw [if_neg (by decide), if_neg (by omega)] at hi ⊢
        dsimp only at hi ⊢
        rw [q_upn (by omega)]
        by_cases c : i = 5
        · rw [if_pos c]
          refine h1.cong hg (fun x hx => ?_)
          try dsimp only
          rw [ew, if_pos (by omega)]
          exact congrArg (μ 28 0) (by omega)
        · rw [if_neg c]
          refine (h4 (i + 1) (by omega)).cong (hgs (i + 1) (by omega)) (fun x hx => ?_)
          try dsimp only
          rw [ew, if_neg (by omega), if_pos (by omega)]
          exact congrArg (μ 31 0) (by omega)
      · rw [q_up, if_neg (by omega), e27 9 (by omega)]; exact h5
      · rw [q_up, if_neg (by omega), e27 k hk]
    · rw [h2, if_neg (by
        rw [show (6 : Int32) = nI 6 from rfl, nI_eq (by omega) (by omega)]
        exact h6)]
      dsimp only
      rw [q_lt, z_l0]
      obtain ⟨μ2, b1, b2, b3⟩ := m_rec2 (u := hp.1) (ρ := μ 31 0) (by omega) 560 fu 0 μ (by omega) (by unfold fu; omega) h2 (fun x => by rw [if_neg (by omega)])
      rw [b1, q_lt]
      have e274 : μ2 27 0 4 = nI hp.1 := by rw [b3 27 0 (by omega)]; exact h2
      refine ⟨_, rfl, ⟨?_, ?_, ?_, fun i hi => ?_, ?_⟩, (b3.w (by omega)).tr ((q_uple rfl).w (by omega)), fun k hk => ?_⟩
      · rw [q_upn (by omega), b3 28 0 (by omega)]; exact h1
      · rw [q_up, if_pos ⟨rfl, rfl, rfl⟩, e274, z_l1, q_add]
        unfold pT pH
        rw [if_neg (by decide), if_pos (by omega)]
      · unfold pT pH
        rw [if_neg (by decide), if_pos (by omega)]
        show hp.1 + 1 ≤ 6
        omega
      · unfold pT pH at hi ⊢
        rw [if_neg (by decide), if_pos (by omega)] at hi ⊢
        dsimp only at hi ⊢
        rw [q_upn (by omega)]
        by_cases c : i = hp.1
        · rw [if_pos c]
          refine h1.cong hg (fun x hx => ?_)
          rw [b2, if_pos (by rw [c]; omega), c]
          exact congrArg (μ 28 0) (by omega)
        · rw [if_neg c]
          refine (h4 i (by omega)).cong (hgs i (by omega)) (fun x hx => ?_)
          rw [b2, if_neg (by
            intro z
            have : i < hp.1 := by omega
            have : (i + 1) * 560 ≤ hp.1 * 560 := Nat.mul_le_mul_right _ this
            omega)]
      · rw [q_up, if_neg (by omega), b3 27 0 (by omega)]; exact h5
      · rw [q_up, if_neg (by omega), b3 27 0 (by omega)]
