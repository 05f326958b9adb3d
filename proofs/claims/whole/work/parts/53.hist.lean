def hS (μ : mT) (σ : Nat → Nat) : Prop := (∀ i, i < 7 → μ 22 0 i = nI (σ i) ∧ 2 ≤ σ i ∧ σ i ≤ 8) ∧ ∀ i i', i < 7 → i' < 7 → σ i = σ i' → i = i'
def hC (μ : mT) (hp : hT) : Prop := μ 19 0 0 = nI hp.1 ∧ hp.1 ≤ 6 ∧ ∃ σ : Nat → Nat, hS μ σ ∧ ∀ i, i < hp.1 → cY μ (σ i) (hp.2 i)
def hN (μ : mT) (hp : hT) (y : yT) : Prop := μ 19 0 0 = nI hp.1 ∧ hp.1 ≤ 6 ∧ ∃ σ : Nat → Nat, hS μ σ ∧ (∀ i, i < hp.1 → cY μ (σ i) (hp.2 i)) ∧ cY μ (σ hp.1) y
def Hy : Nat → Nat → Prop := fun κ j => κ < 18 ∧ 2 ≤ j ∧ j ≤ 8
theorem cY.o {μ μ' : mT} {j : Nat} {y : yT} (h : cY μ j y) (e : ∀ κ, κ < 18 → μ' κ j = μ κ j) : cY μ' j y := by
  refine ⟨?_, h.2.1.cong (e _ (by omega)) (e _ (by omega)), h.2.2.1.cong (e _ (by omega)) (e _ (by omega)) (e _ (by omega)), h.2.2.2.cong (e _ (by omega)) (e _ (by omega)) (e _ (by omega)) (e _ (by omega))⟩
  intro a k hd hk
  rw [e _ (by unfold cκ; unfold sdom at hd; grind)]
  exact h.1 a k hd hk
theorem hN.o {μ μ' : mT} {hp : hT} {y : yT} {S : Nat → Nat → Prop} (h : hN μ hp y) (ho : only μ μ' S) (hS' : ∀ κ j, S κ j → ¬ (κ < 18 ∧ 2 ≤ j ∧ j ≤ 8) ∧ ¬ (κ = 19 ∧ j = 0) ∧ ¬ (κ = 22 ∧ j = 0)) : hN μ' hp y := by
  obtain ⟨h1, h2, σ, ⟨s1, s2⟩, s3, s4⟩ := h
  have hc : ∀ i y', i < 7 → cY μ (σ i) y' → cY μ' (σ i) y' := fun i y' hi c => c.o (fun κ hκ => ho κ (σ i) (fun z => (hS' _ _ z).1 ⟨hκ, (s1 i hi).2.1, (s1 i hi).2.2⟩))
  refine ⟨by rw [ho 19 0 (fun z => (hS' _ _ z).2.1 ⟨rfl, rfl⟩)]; exact h1, h2, σ, ⟨fun i hi => by rw [ho 22 0 (fun z => (hS' _ _ z).2.2 ⟨rfl, rfl⟩)]; exact s1 i hi, s2⟩, fun i hi => hc i _ (by omega) (s3 i hi), hc _ _ (by omega) s4⟩
theorem hC.o {μ μ' : mT} {hp : hT} {S : Nat → Nat → Prop} (h : hC μ hp) (ho : only μ μ' S) (hS' : ∀ κ j, S κ j → ¬ (κ < 18 ∧ 2 ≤ j ∧ j ≤ 8) ∧ ¬ (κ = 19 ∧ j = 0) ∧ ¬ (κ = 22 ∧ j = 0)) : hC μ' hp := by
  obtain ⟨h1, h2, σ, ⟨s1, s2⟩, s3⟩ := h
  have hc : ∀ i y', i < 7 → cY μ (σ i) y' → cY μ' (σ i) y' := fun i y' hi c => c.o (fun κ hκ => ho κ (σ i) (fun z => (hS' _ _ z).1 ⟨hκ, (s1 i hi).2.1, (s1 i hi).2.2⟩))
  exact ⟨by rw [ho 19 0 (fun z => (hS' _ _ z).2.1 ⟨rfl, rfl⟩)]; exact h1, h2, σ, ⟨fun i hi => by rw [ho 22 0 (fun z => (hS' _ _ z).2.2 ⟨rfl, rfl⟩)]; exact s1 i hi, s2⟩, fun i hi => hc i _ (by omega) (s3 i hi)⟩
theorem k_hnote {μ : mT} {hp : hT} {y : yT} (h : hC μ hp) (hy : cY μ 0 y) (hg : gY y) :
    ∃ μ', f_X1_note 0 μ = some (0, μ') ∧ hN μ' hp y ∧ cY μ' 0 y ∧ only μ μ' Hy := by
  obtain ⟨h1, h2, σ, ⟨s1, s2⟩, s3⟩ := h
  obtain ⟨e1, e2, e3⟩ := s1 hp.1 (by omega)
  obtain ⟨μ', a1, a2, a3⟩ := k_copy (j := σ hp.1) (j2 := 0) (by omega) hy hg
  unfold f_X1_note
  rw [h1, q_gdi (by omega) (by omega), q_cl (by omega), e1, q_cl (by omega), q_lt, q_gd (by rw [decide_eq_true_eq]; omega), a1, q_bd]
  refine ⟨μ', rfl, ⟨?_, h2, σ, ⟨fun i hi => ?_, s2⟩, fun i hi => (s3 i hi).o (fun κ hκ => a3 κ _ (fun z => ?_)), a2⟩, hy.o (fun κ hκ => a3 κ _ (fun z => ?_)), a3.w ?_⟩
  · rw [a3 19 0 (by unfold Yd; omega)]; exact h1
  · rw [a3 22 0 (by unfold Yd; omega)]; exact s1 i hi
  · have := s2 i hp.1 (by omega) (by omega) z.2
    omega
  · have := z.2
    omega
  · unfold Yd Hy
    omega
theorem k_drop9 {σ : Nat → Nat} {jj : Nat} (hσ : ∀ i, i < 7 → 2 ≤ σ i ∧ σ i ≤ 8) : ∀ (d f i : Nat) (μ : mT), i + d = 6 → d < f → (∀ x, x < 7 → μ 22 0 x = nI (if x < i then σ (x + 1) else σ x)) →
    ∃ μ', (∀ K, f_X1_dropOldest_L9 jj K f (nI i) μ = K μ') ∧ (∀ x, x < 7 → μ' 22 0 x = nI (if x < 6 then σ (x + 1) else σ x)) ∧ only μ μ' (fun κ j => κ = 22 ∧ j = 0) := by
  intro d
  induction d with
  | zero =>
    intro f i μ hi hf hx
    obtain ⟨f, rfl⟩ : ∃ n', f = n' + 1 := ⟨f - 1, by omega⟩
    refine ⟨μ, fun K => ?_, ?_, only.rf⟩
    · rw [f_X1_dropOldest_L9, z_l6, if_pos (nI_le (by omega) (by omega))]
    · rw [show 6 = i by omega]; exact hx
  | succ d ih =>
    intro f i μ hi hf hx
    obtain ⟨f, rfl⟩ : ∃ n', f = n' + 1 := ⟨f - 1, by omega⟩
    have e1 : (nI i + 1 : Int32) = nI (i + 1) := nI_1 i
    have es := hσ (i + 1) (by omega)
    have ex : μ 22 0 (i + 1) = nI (σ (i + 1)) := by rw [hx (i + 1) (by omega), if_neg (by omega)]
    obtain ⟨μ', g1, g2, g3⟩ := ih f (i + 1) (upM μ 22 0 i (nI (σ (i + 1)))) (by omega) (by omega) (fun x hx7 => by
      rw [q_up]
      by_cases c : x = i
      · rw [if_pos ⟨rfl, rfl, c⟩, if_pos (by omega), c]
      · rw [if_neg (fun z => c z.2.2), hx x hx7]
        by_cases c2 : x < i
        · rw [if_pos c2, if_pos (by omega)]
        · rw [if_neg c2, if_neg (by omega)])
    refine ⟨μ', fun K => ?_, g2, (q_uple rfl).tr g3⟩
    rw [f_X1_dropOldest_L9, z_l6, if_neg (nI_ge (by omega) (by omega)), e1, q_gdi (by omega) (by omega), q_cl (by omega), ex, q_cl (by omega), q_lt, q_gd (by rw [decide_eq_true_eq]; omega), q_gdi (by omega) (by omega), q_cl (by omega), q_lt, q_lt]
    exact g1 K
theorem k_kept {μ : mT} {hp : hT} {y : yT} {a : Int32} (h : hN μ hp y) :
    ∃ μ', f_X1_kept a μ = some (a, μ') ∧ hC μ' (if a < 0 then hp else pH hp y) ∧ only μ μ' (fun κ j => (κ = 19 ∨ κ = 22) ∧ j = 0) := by
  obtain ⟨h1, h2, σ, ⟨s1, s2⟩, s3, s4⟩ := h
  unfold f_X1_kept
  by_cases c : a < 0
  · rw [if_neg (Int32.not_le.mpr c), if_pos c]
    exact ⟨μ, rfl, ⟨h1, h2, σ, ⟨s1, s2⟩, s3⟩, only.rf⟩
  rw [if_pos (Int32.not_lt.mp c), if_neg c, h1, z_l6]
  unfold pH
  by_cases c6 : hp.1 < 6
  · rw [if_neg (nI_ge c6 (by omega)), if_pos c6, show (nI hp.1 + 1 : Int32) = nI (hp.1 + 1) from nI_1 _, q_lt]
    have ho : only μ (upM μ 19 0 0 (nI (hp.1 + 1))) (fun κ j => κ = 19 ∧ j = 0) := q_uple rfl
    refine ⟨_, rfl, ⟨by rw [q_up, if_pos ⟨rfl, rfl, rfl⟩], by dsimp only; omega, σ, ⟨fun i hi => by rw [ho 22 0 (by omega)]; exact s1 i hi, s2⟩, fun i hi => ?_⟩, ho.w (by omega)⟩
    dsimp only at hi ⊢
    by_cases ci : i = hp.1
    · rw [if_pos ci, ci]
      exact s4.o (fun κ hκ => ho κ _ (by omega))
    · rw [if_neg ci]
      exact (s3 i (by omega)).o (fun κ hκ => ho κ _ (by omega))
  · have h6 : hp.1 = 6 := by omega
    rw [if_pos (nI_le (by omega) (by omega)), if_neg c6]
    unfold f_X1_dropOldest
    have e0 := s1 0 (by omega)
    have e0' : μ 22 0 (0 : Int32).toNatClampNeg = nI (σ 0) := e0.1
    obtain ⟨μ1, a1, a2, a3⟩ := k_drop9 (jj := σ 0) (fun i hi => (s1 i hi).2) 6 fu 0 μ (by omega) (by unfold fu; omega) (fun x hx => by rw [if_neg (by omega)]; exact (s1 x hx).1)
    rw [← z_l0] at a1
    rw [e0', q_cl (by omega), q_lt, q_gd (by rw [decide_eq_true_eq]; omega), q_lt, a1, q_lt, q_bd]
    have ho : only μ (upM μ1 22 0 (6 : Int32).toNatClampNeg (nI (σ 0))) (fun κ j => κ = 22 ∧ j = 0) := a3.tr (q_uple rfl)
    refine ⟨_, rfl, ⟨by dsimp only; rw [ho 19 0 (by omega), h1, h6], Nat.le_refl 6, fun i => if i = 6 then σ 0 else σ (i + 1), ⟨fun i hi => ?_, fun i i' hi hi' e => ?_⟩, fun i hi => ?_⟩, ho.w (by omega)⟩
    · have e6 : (6 : Int32).toNatClampNeg = 6 := rfl
      dsimp only
      rw [q_up, e6]
      by_cases ci : i = 6
      · rw [if_pos ⟨rfl, rfl, ci⟩, if_pos ci]
        exact ⟨rfl, e0.2⟩
      · rw [if_neg (fun z => ci z.2.2), if_neg ci, a2 i hi, if_pos (by omega)]
        exact ⟨rfl, (s1 (i + 1) (by omega)).2⟩
    · dsimp only at e
      by_cases ci : i = 6
      · by_cases ci' : i' = 6
        · omega
        · rw [if_pos ci, if_neg ci'] at e
          have := s2 0 (i' + 1) (by omega) (by omega) e
          omega
      · by_cases ci' : i' = 6
        · rw [if_neg ci, if_pos ci'] at e
          have := s2 (i + 1) 0 (by omega) (by omega) e
          omega
        · rw [if_neg ci, if_neg ci'] at e
          have := s2 (i + 1) (i' + 1) (by omega) (by omega) e
          omega
    · dsimp only at hi ⊢
      rw [if_neg (by omega)]
      by_cases c5 : i = 5
      · rw [if_pos c5, c5]
        rw [h6] at s4
        exact s4.o (fun κ hκ => ho κ _ (by omega))
      · rw [if_neg c5]
        exact (s3 (i + 1) (by omega)).o (fun κ hκ => ho κ _ (by omega))
def uH (hp : hT) (y : yT) : Int32 × yT × hT := if hp.1 = 0 then (-5, y, hp) else (nI (hp.1 - 1), hp.2 (hp.1 - 1), (hp.1 - 1, hp.2))
theorem k_undo {μ : mT} {hp : hT} {y : yT} (h : hC μ hp) (hy : cY μ 0 y) (hf : hF hp) :
    ∃ μ', f_X7_undo μ = some ((uH hp y).1, μ') ∧ cY μ' 0 (uH hp y).2.1 ∧ hC μ' (uH hp y).2.2 ∧ only μ μ' (fun κ j => (κ < 18 ∨ κ = 19) ∧ j = 0) := by
  obtain ⟨h1, h2, σ, ⟨s1, s2⟩, s3⟩ := h
  unfold f_X7_undo f_X1_takeBack uH
  by_cases c : hp.1 = 0
  · rw [h1, c, if_pos (by rfl), if_pos rfl, q_bd]
    exact ⟨μ, rfl, hy, ⟨h1, h2, σ, ⟨s1, s2⟩, s3⟩, only.rf⟩
  · have e1 : μ 19 0 0 - 1 = nI (hp.1 - 1) := by rw [h1, z_l1, q_sub (by omega)]
    rw [e1, h1, if_neg (nI_ne0 (by omega) (by omega)), if_neg c, q_lt]
    have ho : only μ (upM μ 19 0 0 (nI (hp.1 - 1))) (fun κ j => κ = 19 ∧ j = 0) := q_uple rfl
    have g19 : upM μ 19 0 0 (nI (hp.1 - 1)) 19 0 0 = nI (hp.1 - 1) := by rw [q_up, if_pos ⟨rfl, rfl, rfl⟩]
    obtain ⟨s4, s5, s6⟩ := s1 (hp.1 - 1) (by omega)
    have g22 : upM μ 19 0 0 (nI (hp.1 - 1)) 22 0 (hp.1 - 1) = nI (σ (hp.1 - 1)) := by rw [ho 22 0 (by omega)]; exact s4
    have hc : ∀ i, i < hp.1 → cY (upM μ 19 0 0 (nI (hp.1 - 1))) (σ i) (hp.2 i) := fun i hi => (s3 i hi).o (fun κ hκ => ho κ _ (by omega))
    obtain ⟨μ', a1, a2, a3⟩ := k_copy (j := 0) (j2 := σ (hp.1 - 1)) (by omega) (hc (hp.1 - 1) (by omega)) (hf _ (by omega))
    rw [g19, q_gdi (by omega) (by omega), q_cl (by omega), g22, q_cl (by omega), q_lt, q_gd (by rw [decide_eq_true_eq]; omega), a1, q_bd, q_bd]
    refine ⟨μ', ?_, a2, ⟨?_, by dsimp only; omega, σ, ⟨fun i hi => ?_, s2⟩, fun i hi => ?_⟩, (ho.w (by omega)).tr (a3.w (by unfold Yd; omega))⟩
    · rw [a3 19 0 (by unfold Yd; omega), g19]
    · rw [a3 19 0 (by unfold Yd; omega), g19]
    · rw [a3 22 0 (by unfold Yd; omega), ho 22 0 (by omega)]
      exact s1 i hi
    · dsimp only at hi ⊢
      exact (hc i (by omega)).o (fun κ hκ => a3 κ _ (by
        have := (s1 i (by omega)).2.1
        unfold Yd
        omega))
