def kdom (κ k : Nat) : Prop := (κ = 0 ∧ k < 8 ∧ k ≠ 6) ∨ (κ = 1 ∧ k < 2) ∨ ((κ = 2 ∨ κ = 3) ∧ k < 1) ∨ (κ = 4 ∧ k < 6) ∨ (5 ≤ κ ∧ κ ≤ 7 ∧ k < 8) ∨ (8 ≤ κ ∧ κ ≤ 10 ∧ k < 30) ∨ (κ = 11 ∧ k < 9) ∨ (κ = 12 ∧ k < 270) ∨ ((κ = 13 ∨ κ = 14) ∧ k < 10) ∨ ((κ = 15 ∨ κ = 16) ∧ k < 8) ∨ (κ = 17 ∧ k < 64)
def cp (j j2 : Nat) (μ μ' : mT) (S : Nat → Nat → Prop) : Prop := (∀ κ k, S κ k → μ' κ j k = μ κ j2 k) ∧ only μ μ' (Yd j)
theorem cp_m {j j2 : Nat} (hj : j2 ≠ j) {μ μa : mT} {S : Nat → Nat → Prop} (h : cp j j2 μ μa S) (κ k : Nat) (hκ : κ < 18) : cp j j2 μ (upM μa κ j k (μa κ j2 k)) (fun κ' k' => S κ' k' ∨ (κ' = κ ∧ k' = k)) := by
  refine ⟨fun κ' k' hs => ?_, h.2.tr ((q_uple rfl).w (by unfold Yd; omega))⟩
  rw [q_up]
  by_cases e : κ' = κ ∧ k' = k
  · obtain ⟨rfl, rfl⟩ := e
    rw [if_pos ⟨rfl, rfl, rfl⟩, h.2 κ' j2 (fun z => hj z.2)]
  · rw [if_neg (fun z => e ⟨z.1, z.2.2⟩)]
    exact h.1 κ' k' (hs.resolve_right e)
theorem cp_r {j j2 : Nat} (hj : j2 ≠ j) {μ μa : mT} {S : Nat → Nat → Prop} (h : cp j j2 μ μa S) (κ n : Nat) (hκ : κ < 18) : cp j j2 μ (upR μa κ j (va_cpy (μa κ j2) (μa κ j) 0 0 n)) (fun κ' k' => S κ' k' ∨ (κ' = κ ∧ k' < n)) := by
  refine ⟨fun κ' k' hs => ?_, h.2.tr (fun κ' j' z => q_upr (fun q => z ⟨by omega, q.2⟩))⟩
  by_cases e : κ' = κ
  · subst e
    rw [q_ups]
    unfold va_cpy
    by_cases e' : k' < n
    · rw [if_pos (by omega), h.2 κ' j2 (fun z => hj z.2)]
      congr 1
      omega
    · rw [if_neg (by omega)]
      exact h.1 κ' k' (hs.resolve_right (fun z => e' z.2))
  · rw [q_upr (fun z => e z.1)]
    exact h.1 κ' k' (hs.resolve_right (fun z => e z.1))
theorem cp_fin {j j2 : Nat} {μ μ' : mT} {S : Nat → Nat → Prop} (h : cp j j2 μ μ' S) (hS : ∀ κ k, kdom κ k → S κ k) : cp j j2 μ μ' kdom := ⟨fun κ k hk => h.1 κ k (hS κ k hk), h.2⟩
theorem cp_lm {j j2 : Nat} (hj : j2 ≠ j) {μ μa : mT} {S : Nat → Nat → Prop} {F : mT → Option (Int32 × mT)} {Q : mT → Prop} (κ k : Nat) (hκ : κ < 18) (h : cp j j2 μ μa S) (k' : ∀ μb, cp j j2 μ μb (fun κ' k' => S κ' k' ∨ (κ' = κ ∧ k' = k)) → ∃ μ', F μb = some (0, μ') ∧ Q μ') : ∃ μ', lt (upM μa κ j k (μa κ j2 k)) F = some (0, μ') ∧ Q μ' := k' _ (cp_m hj h κ k hκ)
theorem cp_lr {j j2 : Nat} (hj : j2 ≠ j) {μ μa : mT} {S : Nat → Nat → Prop} {F : mT → Option (Int32 × mT)} {Q : mT → Prop} (κ n : Nat) (hκ : κ < 18) (h : cp j j2 μ μa S) (k' : ∀ μb, cp j j2 μ μb (fun κ' k' => S κ' k' ∨ (κ' = κ ∧ k' < n)) → ∃ μ', F μb = some (0, μ') ∧ Q μ') : ∃ μ', lt (upR μa κ j (va_cpy (μa κ j2) (μa κ j) 0 0 n)) F = some (0, μ') ∧ Q μ' := k' _ (cp_r hj h κ n hκ)
theorem cp_w {j j2 : Nat} {μ μ' : mT} {S S' : Nat → Nat → Prop} (h : cp j j2 μ μ' S) (hS : ∀ κ k, S' κ k → S κ k) : cp j j2 μ μ' S' := ⟨fun κ k hk => h.1 κ k (hS κ k hk), h.2⟩
theorem cp_5 {j j2 : Nat} (hj : j2 ≠ j) {μ μa : mT} {S : Nat → Nat → Prop} (h : cp j j2 μ μa S) : ∃ μ', f_X5_copyFrom j j2 μa = some (0, μ') ∧ cp j j2 μ μ' (fun κ k => S κ k ∨ (kdom κ k ∧ (κ = 1 ∨ (8 ≤ κ ∧ κ ≤ 12)))) := by
  unfold f_X5_copyFrom
  refine cp_lm hj 1 0 (by omega) h (fun μ1 h => ?_)
  refine cp_lm hj 1 1 (by omega) h (fun μ1 h => ?_)
  refine cp_lr hj 8 30 (by omega) h (fun μ1 h => ?_)
  refine cp_lr hj 9 30 (by omega) h (fun μ1 h => ?_)
  refine cp_lr hj 10 30 (by omega) h (fun μ1 h => ?_)
  refine cp_lr hj 11 9 (by omega) h (fun μ1 h => ?_)
  refine cp_lr hj 12 270 (by omega) h (fun μ1 h => ?_)
  refine ⟨_, rfl, cp_w h (fun κ k q => ?_)⟩
  rcases q with q | q
  · simp [q]
  · unfold kdom at q
    generalize S κ k = P
    omega
theorem cp_0 {j j2 : Nat} (hj : j2 ≠ j) {μ μa : mT} {S : Nat → Nat → Prop} (h : cp j j2 μ μa S) : ∃ μ', f_X0_copyFrom j j2 μa = some (0, μ') ∧ cp j j2 μ μ' (fun κ k => S κ k ∨ (kdom κ k ∧ (κ = 2 ∨ κ = 13 ∨ κ = 14))) := by
  unfold f_X0_copyFrom
  refine cp_lm hj 2 0 (by omega) h (fun μ1 h => ?_)
  refine cp_lr hj 13 10 (by omega) h (fun μ1 h => ?_)
  refine cp_lr hj 14 10 (by omega) h (fun μ1 h => ?_)
  refine ⟨_, rfl, cp_w h (fun κ k q => ?_)⟩
  rcases q with q | q
  · simp [q]
  · unfold kdom at q
    generalize S κ k = P
    omega
theorem cp_3 {j j2 : Nat} (hj : j2 ≠ j) {μ μa : mT} {S : Nat → Nat → Prop} (h : cp j j2 μ μa S) : ∃ μ', f_X3_copyFrom j j2 μa = some (0, μ') ∧ cp j j2 μ μ' (fun κ k => S κ k ∨ (kdom κ k ∧ (κ = 3 ∨ (15 ≤ κ ∧ κ ≤ 17)))) := by
  unfold f_X3_copyFrom
  refine cp_lm hj 3 0 (by omega) h (fun μ1 h => ?_)
  refine cp_lr hj 15 8 (by omega) h (fun μ1 h => ?_)
  refine cp_lr hj 16 8 (by omega) h (fun μ1 h => ?_)
  refine cp_lr hj 17 64 (by omega) h (fun μ1 h => ?_)
  refine ⟨_, rfl, cp_w h (fun κ k q => ?_)⟩
  rcases q with q | q
  · simp [q]
  · unfold kdom at q
    generalize S κ k = P
    omega
theorem k_copyFrom {j j2 : Nat} (hj : j2 ≠ j) (μ : mT) : ∃ μ', f_X6_copyFrom j j2 μ = some (0, μ') ∧ cp j j2 μ μ' kdom := by
  have h0 : cp j j2 μ μ (fun _ _ => False) := ⟨fun _ _ h => h.elim, only.rf⟩
  unfold f_X6_copyFrom
  refine cp_lm hj 0 0 (by omega) h0 (fun μ1 h => ?_)
  refine cp_lm hj 0 1 (by omega) h (fun μ1 h => ?_)
  refine cp_lm hj 0 2 (by omega) h (fun μ1 h => ?_)
  refine cp_lm hj 0 3 (by omega) h (fun μ1 h => ?_)
  refine cp_lm hj 0 4 (by omega) h (fun μ1 h => ?_)
  refine cp_lm hj 0 5 (by omega) h (fun μ1 h => ?_)
  refine cp_lr hj 4 6 (by omega) h (fun μ1 h => ?_)
  refine cp_lm hj 0 7 (by omega) h (fun μ1 h => ?_)
  refine cp_lr hj 5 8 (by omega) h (fun μ1 h => ?_)
  refine cp_lr hj 6 8 (by omega) h (fun μ1 h => ?_)
  refine cp_lr hj 7 8 (by omega) h (fun μ1 h => ?_)
  have h : cp j j2 μ μ1 (fun κ k => kdom κ k ∧ (κ = 0 ∨ (4 ≤ κ ∧ κ ≤ 7))) := cp_w h (fun κ k q => by unfold kdom at q; omega)
  obtain ⟨μ2, e2, h⟩ := cp_5 hj h
  rw [e2, q_bd]
  obtain ⟨μ3, e3, h⟩ := cp_0 hj h
  rw [e3, q_bd]
  obtain ⟨μ4, e4, h⟩ := cp_3 hj h
  rw [e4, q_bd]
  exact ⟨_, rfl, cp_w h (fun κ k q => by
    have : κ < 18 := by unfold kdom at q; omega
    by_cases z : κ = 0 ∨ (4 ≤ κ ∧ κ ≤ 7)
    · exact Or.inl (Or.inl (Or.inl ⟨q, z⟩))
    by_cases z1 : κ = 1 ∨ (8 ≤ κ ∧ κ ≤ 12)
    · exact Or.inl (Or.inl (Or.inr ⟨q, z1⟩))
    by_cases z2 : κ = 2 ∨ κ = 13 ∨ κ = 14
    · exact Or.inl (Or.inr ⟨q, z2⟩)
    exact Or.inr ⟨q, by omega⟩)⟩
theorem cY.copy {j j2 : Nat} {μ μ' : mT} {y : yT} (h : cp j j2 μ μ' kdom) (hy : cY μ j2 y) (hg : gY y) : cY μ' j y := by
  obtain ⟨ho, hD, hT, hl, hk⟩ := hg
  refine ⟨fun a k hd hk => ?_, fun r hr => ⟨?_, fun i w hi => ?_⟩, ⟨?_, fun i b hi => ?_⟩, ⟨?_, fun t e ht => ⟨?_, ?_, fun k w hk' => ?_⟩⟩⟩
  · rw [h.1 _ _ (by unfold kdom; unfold cκ ck; unfold sdom at hd; grind (splits := 60))]
    exact hy.1 a k hd hk
  · rw [h.1 11 r (by unfold kdom; omega)]
    exact (hy.2.1 r hr).1
  · have hil := (List.getElem?_eq_some_iff.mp hi).1
    have := rwl ho hr
    rw [h.1 12 _ (by unfold kdom; omega)]
    exact (hy.2.1 r hr).2 i w hi
  · rw [h.1 2 0 (by unfold kdom; omega)]
    exact hy.2.2.1.1
  · have hil := (List.getElem?_eq_some_iff.mp hi).1
    rw [h.1 13 i (by unfold kdom; omega), h.1 14 i (by unfold kdom; omega)]
    exact hy.2.2.1.2 i b hi
  · rw [h.1 3 0 (by unfold kdom; omega)]
    exact hy.2.2.2.1
  all_goals
    have htl := (List.getElem?_eq_some_iff.mp ht).1
    have h8 := hk.1
    obtain ⟨a1, a2, a3⟩ := hy.2.2.2.2 t e ht
    obtain ⟨o1, o2, o3, o4⟩ := hk.2 t e ht
  · rw [h.1 15 t (by unfold kdom; omega)]
    exact a1
  · rw [h.1 16 t (by unfold kdom; omega)]
    exact a2
  · have hkl := (List.getElem?_eq_some_iff.mp hk').1
    rw [h.1 17 _ (by unfold kdom; omega)]
    exact a3 k w hk'
theorem k_copy {j j2 : Nat} (hj : j2 ≠ j) {μ : mT} {y : yT} (hy : cY μ j2 y) (hg : gY y) : ∃ μ', f_X6_copyFrom j j2 μ = some (0, μ') ∧ cY μ' j y ∧ only μ μ' (Yd j) := by
  obtain ⟨μ', g1, g2⟩ := k_copyFrom hj μ
  exact ⟨μ', g1, hy.copy g2 hg, g2.2⟩
theorem cY.cong {μ μ' : mT} {j : Nat} {y : yT} (h : cY μ j y) (e : ∀ κ, κ < 18 → μ' κ j = μ κ j) : cY μ' j y :=
  ⟨h.1.cong (fun κ h1 _ _ => e κ (by omega)), h.2.1.cong (e _ (by omega)) (e _ (by omega)), h.2.2.1.cong (e _ (by omega)) (e _ (by omega)) (e _ (by omega)), h.2.2.2.cong (e _ (by omega)) (e _ (by omega)) (e _ (by omega)) (e _ (by omega))⟩
theorem cY.only {μ μ' : mT} {j j' : Nat} {y : yT} (h : cY μ j y) (e : only μ μ' (Yd j')) (hj : j ≠ j') : cY μ' j y := h.cong (fun κ hκ => e κ j (fun z => hj z.2))
