theorem q_uple {μ μ' : mT} {κ j k : Nat} {x : Int32} (e : μ' = upM μ κ j k x) : only μ μ' (fun κ' j' => κ' = κ ∧ j' = j) := by
  subst e
  exact fun κ' j' z => q_upn z
theorem k_note {j m : Nat} {l : List Nat} (hl : l.length ≤ 30) (hw : ∀ w ∈ l, w < 30) (hn : l.Nodup) (hm : m ≤ l.length) : ∀ (d n i : Nat) (μ : mT), i + d = m → d < n → cRow μ j 8 l →
    ∃ μ', f_X5_notePulled_L16 j (nI m) (nI (240 + l.length) - nI 1) n (nI i) μ = some (0, μ') ∧ (∀ v, μ' 10 j v = if v ∈ (l.drop (l.length - m)).take d then μ 10 j v + 1 else μ 10 j v) ∧ only μ μ' (fun κ j' => κ = 10 ∧ j' = j) := by
  intro d
  induction d with
  | zero =>
    intro n i μ hi hd c
    obtain ⟨n, rfl⟩ : ∃ n', n = n' + 1 := ⟨n - 1, by omega⟩
    refine ⟨μ, ?_, fun v => by simp, only.rf⟩
    rw [f_X5_notePulled_L16, if_pos (nI_le (by omega) (by omega))]
  | succ d ih =>
    intro n i μ hi hd c
    obtain ⟨n, rfl⟩ : ∃ n', n = n' + 1 := ⟨n - 1, by omega⟩
    have hni : ¬ m ≤ i := by omega
    have hni2 : ¬ l.length ≤ i := by omega
    obtain ⟨w, hwi⟩ : ∃ w, l[l.length - 1 - i]? = some w := ⟨_, List.getElem?_eq_getElem (by omega)⟩
    have hw1 := c.2 _ w hwi
    have hw30 := hw w (List.mem_of_getElem? hwi)
    have e1 : nI (240 + l.length) - nI 1 - nI i = nI (8 * 30 + (l.length - 1 - i)) := by
      rw [q_sub (by omega), q_sub (by omega)]
      congr 1
      omega
    rw [f_X5_notePulled_L16]
    simp (disch := omega) only [q_n6b, q_lt, q_bd, q_gdi, q_cl, q_add, q_mul, ↓reduceIte, nI_eq, nI_leI, nI_ltI, z_l0, z_l1, z_l2, z_l3, z_l4, z_l5, z_l6, z_l7, z_l8, z_l9, z_l10, z_l11, z_l12, z_l13, z_l14, z_l15, z_l16, z_l17, z_l18, z_l19, z_l20, z_l21, z_l22, z_l23, z_l240, z_l270, z_l24, z_l30, z_l31, z_l32, z_l33, z_l40, z_l48, z_l57, z_l59, z_l60, z_l65, z_l80, z_l97, z_l112, z_l113, z_l114, z_l116, z_l119, z_l126, z_l255, z_l300, z_l330, z_l331, z_l332, z_l450, z_l500, z_l530, z_l531, z_l560, z_l999, z_l1000, z_l2000, z_l2800, z_l5000, c.1, hni, hni2, e1, hw1]
    generalize hμ : upM μ 10 j w (μ 10 j w + nI 1) = μ1
    have ho : only μ μ1 (fun κ j' => κ = 10 ∧ j' = j) := q_uple hμ.symm
    obtain ⟨μ', g1, g2, g3⟩ := ih n (i + 1) μ1 (by omega) (by omega) (c.cong (ho 11 j (by omega)) (ho 12 j (by omega)))
    refine ⟨μ', g1, fun v => ?_, ho.tr g3⟩
    have e2 : (l.drop (l.length - m))[d]? = some w := by
      rw [List.getElem?_drop]
      rw [show l.length - m + d = l.length - 1 - i by omega]
      exact hwi
    have hnd : ((l.drop (l.length - m)).take (d + 1)).Nodup := (List.Nodup.sublist (List.take_sublist _ _) (List.Nodup.sublist (List.drop_sublist _ _) hn))
    rw [List.take_succ, e2] at hnd ⊢
    rw [g2 v, ← hμ]
    simp only [q_up, Nat.reduceEqDiff, false_and, and_false, true_and, and_true, ↓reduceIte, Option.toList_some, List.mem_append, List.mem_singleton]
    by_cases e : v = w
    · subst e
      have : v ∉ (l.drop (l.length - m)).take d := by
        intro q
        rw [List.nodup_append] at hnd
        exact hnd.2.2 v q v (by simp) rfl
      simp [this, z_l1]
    · simp [e, z_l1]
theorem k_notePulled {j m : Nat} {l : List Nat} {μ : mT} (hl : l.length ≤ 30) (hw : ∀ w ∈ l, w < 30) (hn : l.Nodup) (hm : m ≤ l.length) (c : cRow μ j 8 l) :
    ∃ μ', f_X5_notePulled j (nI m) μ = some (0, μ') ∧ (∀ v, μ' 10 j v = if v ∈ l.drop (l.length - m) then μ 10 j v + 1 else μ 10 j v) ∧ only μ μ' (fun κ j' => κ = 10 ∧ j' = j) := by
  obtain ⟨μ', g1, g2, g3⟩ := k_note (j := j) hl hw hn hm m fu 0 μ (by omega) (by unfold fu; omega) c
  refine ⟨μ', ?_, fun v => ?_, g3⟩
  · unfold f_X5_notePulled
    rw [← g1]
    simp (disch := omega) only [q_n6b, q_lt, q_bd, q_gdi, q_cl, q_add, q_mul, ↓reduceIte, nI_eq, nI_leI, nI_ltI, z_l0, z_l1, z_l2, z_l3, z_l4, z_l5, z_l6, z_l7, z_l8, z_l9, z_l10, z_l11, z_l12, z_l13, z_l14, z_l15, z_l16, z_l17, z_l18, z_l19, z_l20, z_l21, z_l22, z_l23, z_l240, z_l270, z_l24, z_l30, z_l31, z_l32, z_l33, z_l40, z_l48, z_l57, z_l59, z_l60, z_l65, z_l80, z_l97, z_l112, z_l113, z_l114, z_l116, z_l119, z_l126, z_l255, z_l300, z_l330, z_l331, z_l332, z_l450, z_l500, z_l530, z_l531, z_l560, z_l999, z_l1000, z_l2000, z_l2800, z_l5000, c.1]
  · rw [g2 v, List.take_of_length_le (by simp; omega)]
def turnF (l : List Nat) (i k : Nat) : Nat := if k < i ∨ l.length ≤ k + i then l.getD (l.length - 1 - k) 0 else l.getD k 0
theorem k_turn {j : Nat} {l : List Nat} (hl : l.length ≤ 30) : ∀ (d n i : Nat) (μ : mT), i + d = l.length / 2 → d < n → μ 11 j 8 = nI l.length → (∀ k, k < l.length → μ 12 j (240 + k) = nI (turnF l i k)) →
    ∃ μ', f_X5_turnEngine_L18 j (nI (240 + l.length) - nI 1) n (nI i) μ = some (0, μ') ∧ (∀ k, k < l.length → μ' 12 j (240 + k) = nI (turnF l (l.length / 2) k)) ∧ (∀ x, x < 240 → μ' 12 j x = μ 12 j x) ∧ only μ μ' (fun κ j' => κ = 12 ∧ j' = j) := by
  intro d
  induction d with
  | zero =>
    intro n i μ hi hd h8 c
    obtain ⟨n, rfl⟩ : ∃ n', n = n' + 1 := ⟨n - 1, by omega⟩
    refine ⟨μ, ?_, fun k hk => ?_, fun _ _ => rfl, only.rf⟩
    · rw [f_X5_turnEngine_L18]
      have : l.length / 2 ≤ i := by omega
      simp (disch := omega) only [q_n6b, q_lt, q_bd, q_gdi, q_cl, q_add, q_mul, ↓reduceIte, nI_eq, nI_leI, nI_ltI, z_l0, z_l1, z_l2, z_l3, z_l4, z_l5, z_l6, z_l7, z_l8, z_l9, z_l10, z_l11, z_l12, z_l13, z_l14, z_l15, z_l16, z_l17, z_l18, z_l19, z_l20, z_l21, z_l22, z_l23, z_l240, z_l270, z_l24, z_l30, z_l31, z_l32, z_l33, z_l40, z_l48, z_l57, z_l59, z_l60, z_l65, z_l80, z_l97, z_l112, z_l113, z_l114, z_l116, z_l119, z_l126, z_l255, z_l300, z_l330, z_l331, z_l332, z_l450, z_l500, z_l530, z_l531, z_l560, z_l999, z_l1000, z_l2000, z_l2800, z_l5000, h8, q_div, this]
    · rw [c k hk, show i = l.length / 2 by omega]
  | succ d ih =>
    intro n i μ hi hd h8 c
    obtain ⟨n, rfl⟩ : ∃ n', n = n' + 1 := ⟨n - 1, by omega⟩
    have hni : ¬ l.length / 2 ≤ i := by omega
    have e1 : nI (240 + l.length) - nI 1 - nI i = nI (240 + (l.length - 1 - i)) := by
      rw [q_sub (by omega), q_sub (by omega)]
      congr 1
      omega
    have ca := c i (by omega)
    have cb := c (l.length - 1 - i) (by omega)
    rw [f_X5_turnEngine_L18]
    simp (disch := omega) only [q_n6b, q_lt, q_bd, q_gdi, q_cl, q_add, q_mul, ↓reduceIte, nI_eq, nI_leI, nI_ltI, z_l0, z_l1, z_l2, z_l3, z_l4, z_l5, z_l6, z_l7, z_l8, z_l9, z_l10, z_l11, z_l12, z_l13, z_l14, z_l15, z_l16, z_l17, z_l18, z_l19, z_l20, z_l21, z_l22, z_l23, z_l240, z_l270, z_l24, z_l30, z_l31, z_l32, z_l33, z_l40, z_l48, z_l57, z_l59, z_l60, z_l65, z_l80, z_l97, z_l112, z_l113, z_l114, z_l116, z_l119, z_l126, z_l255, z_l300, z_l330, z_l331, z_l332, z_l450, z_l500, z_l530, z_l531, z_l560, z_l999, z_l1000, z_l2000, z_l2800, z_l5000, h8, q_div, hni, e1, ca, cb]
    generalize hμ : upM (upM μ 12 j (240 + i) (nI (turnF l i (l.length - 1 - i)))) 12 j (240 + (l.length - 1 - i)) (nI (turnF l i i)) = μ1
    have ho : only μ μ1 (fun κ j' => κ = 12 ∧ j' = j) := (q_uple rfl).tr (q_uple hμ.symm)
    have k0 : ∀ x, μ1 12 j x = if x = 240 + (l.length - 1 - i) then nI (turnF l i i) else if x = 240 + i then nI (turnF l i (l.length - 1 - i)) else μ 12 j x := by
      intro x
      rw [← hμ]
      simp only [q_up, Nat.reduceEqDiff, false_and, and_false, true_and, and_true, ↓reduceIte]
    obtain ⟨μ', g1, g2, g3, g4⟩ := ih n (i + 1) μ1 (by omega) (by omega) (by rw [ho 11 j (by omega)]; exact h8) (fun k hk => by
      rw [k0]
      by_cases e : k = l.length - 1 - i
      · subst e
        rw [if_pos rfl]
        unfold turnF
        rw [if_neg (by omega), if_pos (by omega)]
        congr 2
        omega
      · rw [if_neg (by omega)]
        by_cases e' : k = i
        · subst e'
          rw [if_pos rfl]
          unfold turnF
          rw [if_neg (by omega), if_pos (by omega)]
        · rw [if_neg (by omega), c k hk]
          unfold turnF
          by_cases hh : k < i ∨ l.length ≤ k + i
          · rw [if_pos hh, if_pos (by omega)]
          · rw [if_neg hh, if_neg (by omega)])
    refine ⟨μ', g1, g2, fun x hx => ?_, ho.tr g4⟩
    rw [g3 x hx, k0, if_neg (by omega), if_neg (by omega)]
theorem k_turnEngine {j : Nat} {l : List Nat} {μ : mT} (hl : l.length ≤ 30) (c : cRow μ j 8 l) :
    ∃ μ', f_X5_turnEngine j μ = some (0, μ') ∧ cRow μ' j 8 l.reverse ∧ (∀ r d, r < 8 → d.length ≤ 30 → cRow μ j r d → cRow μ' j r d) ∧ only μ μ' (fun κ j' => κ = 12 ∧ j' = j) := by
  obtain ⟨μ', g1, g2, g3, g4⟩ := k_turn (j := j) hl (l.length / 2) fu 0 μ (by omega) (by unfold fu; omega) c.1 (fun k hk => by
    rw [show 240 + k = 8 * 30 + k by omega, c.2 k _ (List.getElem?_eq_getElem hk)]
    unfold turnF
    rw [if_neg (by omega), List.getD_eq_getElem?_getD, List.getElem?_eq_getElem hk]
    rfl)
  refine ⟨μ', ?_, ⟨?_, fun i w hi => ?_⟩, fun r d hr hd cr => ⟨?_, fun i w hi => ?_⟩, g4⟩
  · unfold f_X5_turnEngine
    rw [← g1]
    simp (disch := omega) only [q_n6b, q_lt, q_bd, q_gdi, q_cl, q_add, q_mul, ↓reduceIte, nI_eq, nI_leI, nI_ltI, z_l0, z_l1, z_l2, z_l3, z_l4, z_l5, z_l6, z_l7, z_l8, z_l9, z_l10, z_l11, z_l12, z_l13, z_l14, z_l15, z_l16, z_l17, z_l18, z_l19, z_l20, z_l21, z_l22, z_l23, z_l240, z_l270, z_l24, z_l30, z_l31, z_l32, z_l33, z_l40, z_l48, z_l57, z_l59, z_l60, z_l65, z_l80, z_l97, z_l112, z_l113, z_l114, z_l116, z_l119, z_l126, z_l255, z_l300, z_l330, z_l331, z_l332, z_l450, z_l500, z_l530, z_l531, z_l560, z_l999, z_l1000, z_l2000, z_l2800, z_l5000, c.1]
  · rw [g4 11 j (by omega), c.1, List.length_reverse]
  · have hil := (List.getElem?_eq_some_iff.mp hi).1
    rw [List.length_reverse] at hil
    rw [List.getElem?_reverse hil] at hi
    rw [show 8 * 30 + i = 240 + i by omega, g2 i hil]
    unfold turnF
    by_cases hh : i < l.length / 2 ∨ l.length ≤ i + l.length / 2
    · rw [if_pos hh, List.getD_eq_getElem?_getD, hi]
      rfl
    · rw [if_neg hh, List.getD_eq_getElem?_getD, show i = l.length - 1 - i by omega, hi]
      rfl
  · rw [g4 11 j (by omega)]
    exact cr.1
  · have hil := (List.getElem?_eq_some_iff.mp hi).1
    rw [g3 _ (by omega)]
    exact cr.2 i w hi
theorem k_leaves {j : Nat} {l : List Nat} {a : Int32} (hl : l.length ≤ 30) (hw : ∀ w ∈ l, w < 30) {K : mT → Option (Int32 × mT)} : ∀ (d n i : Nat) (μ : mT), i + d = l.length → d < n → cRow μ j 8 l →
    ∃ μ', f_X5_engineLeaves_L10 j a (nI l.length) K n (nI i) μ = K μ' ∧ (∀ v, μ' 9 j v = if v ∈ l.drop i then a else μ 9 j v) ∧ only μ μ' (fun κ j' => κ = 9 ∧ j' = j) := by
  intro d
  induction d with
  | zero =>
    intro n i μ hi hd c
    obtain ⟨n, rfl⟩ : ∃ n', n = n' + 1 := ⟨n - 1, by omega⟩
    refine ⟨μ, ?_, fun v => by rw [List.drop_eq_nil_of_le (by omega)]; simp, only.rf⟩
    rw [f_X5_engineLeaves_L10, if_pos (nI_le (by omega) (by omega))]
  | succ d ih =>
    intro n i μ hi hd c
    obtain ⟨n, rfl⟩ : ∃ n', n = n' + 1 := ⟨n - 1, by omega⟩
    have hni : ¬ l.length ≤ i := by omega
    obtain ⟨w, hwi⟩ : ∃ w, l[i]? = some w := ⟨_, List.getElem?_eq_getElem (by omega)⟩
    have hw1 : μ 12 j (240 + i) = nI w := c.2 _ w hwi
    have hw30 := hw w (List.mem_of_getElem? hwi)
    rw [f_X5_engineLeaves_L10]
    simp (disch := omega) only [q_n6b, q_lt, q_bd, q_gdi, q_cl, q_add, q_mul, ↓reduceIte, nI_eq, nI_leI, nI_ltI, z_l0, z_l1, z_l2, z_l3, z_l4, z_l5, z_l6, z_l7, z_l8, z_l9, z_l10, z_l11, z_l12, z_l13, z_l14, z_l15, z_l16, z_l17, z_l18, z_l19, z_l20, z_l21, z_l22, z_l23, z_l240, z_l270, z_l24, z_l30, z_l31, z_l32, z_l33, z_l40, z_l48, z_l57, z_l59, z_l60, z_l65, z_l80, z_l97, z_l112, z_l113, z_l114, z_l116, z_l119, z_l126, z_l255, z_l300, z_l330, z_l331, z_l332, z_l450, z_l500, z_l530, z_l531, z_l560, z_l999, z_l1000, z_l2000, z_l2800, z_l5000, hni, hw1]
    generalize hμ : upM μ 9 j w a = μ1
    have ho : only μ μ1 (fun κ j' => κ = 9 ∧ j' = j) := q_uple hμ.symm
    obtain ⟨μ', g1, g2, g3⟩ := ih n (i + 1) μ1 (by omega) (by omega) (c.cong (ho 11 j (by omega)) (ho 12 j (by omega)))
    refine ⟨μ', g1, fun v => ?_, ho.tr g3⟩
    rw [g2 v, drop_cons_of hwi, ← hμ]
    simp only [q_up, Nat.reduceEqDiff, false_and, and_false, true_and, and_true, ↓reduceIte, List.mem_cons]
    by_cases e : v = w
    · simp [e]
    · simp [e]
theorem k_engineLeaves {j : Nat} {l : List Nat} {a : Int32} {μ : mT} (hl : l.length ≤ 30) (hw : ∀ w ∈ l, w < 30) (c : cRow μ j 8 l) :
    ∃ μ', f_X5_engineLeaves j a μ = some (0, μ') ∧ (∀ v, μ' 9 j v = if v ∈ l then a else μ 9 j v) ∧ cRow μ' j 8 [] ∧ (∀ r d, r < 8 → cRow μ j r d → cRow μ' j r d) ∧ μ' 1 j 0 = μ 1 j 0 ∧ μ' 1 j 1 = μ 1 j 1 + nI l.length ∧ only μ μ' (fun κ j' => (κ = 9 ∨ κ = 1 ∨ κ = 11) ∧ j' = j) := by
  obtain ⟨μ1, g1, g2, g3⟩ := k_leaves (j := j) (a := a) hl hw (K := fun μ5 => lt (upM μ5 1 j 1 ((μ5 1 j 1) + nI l.length)) (fun μ6 => lt (upM μ6 11 j (8 : Int32).toNatClampNeg 0) (fun μ7 => some (0, μ7)))) l.length fu 0 μ (by omega) (by unfold fu; omega) c
  refine ⟨upM (upM μ1 1 j 1 (μ1 1 j 1 + nI l.length)) 11 j 8 0, ?_, fun v => ?_, ⟨?_, fun i w hi => by simp at hi⟩, fun r d hr cr => ⟨?_, fun i w hi => ?_⟩, ?_, ?_, ?_⟩
  · unfold f_X5_engineLeaves
    simp (disch := omega) only [q_n6b, q_lt, q_bd, q_gdi, q_cl, q_add, q_mul, ↓reduceIte, nI_eq, nI_leI, nI_ltI, z_l0, z_l1, z_l2, z_l3, z_l4, z_l5, z_l6, z_l7, z_l8, z_l9, z_l10, z_l11, z_l12, z_l13, z_l14, z_l15, z_l16, z_l17, z_l18, z_l19, z_l20, z_l21, z_l22, z_l23, z_l240, z_l270, z_l24, z_l30, z_l31, z_l32, z_l33, z_l40, z_l48, z_l57, z_l59, z_l60, z_l65, z_l80, z_l97, z_l112, z_l113, z_l114, z_l116, z_l119, z_l126, z_l255, z_l300, z_l330, z_l331, z_l332, z_l450, z_l500, z_l530, z_l531, z_l560, z_l999, z_l1000, z_l2000, z_l2800, z_l5000, c.1] at g1 ⊢
    exact g1
  · rw [q_upn (by omega), q_upn (by omega), g2 v]
    rfl
  · simp [q_up]
    rfl
  · simp only [q_up, Nat.reduceEqDiff, false_and, and_false, true_and, and_true, ↓reduceIte]
    rw [if_neg (by omega), g3 11 j (by omega)]
    exact cr.1
  · simp only [q_up, Nat.reduceEqDiff, false_and, and_false, true_and, and_true, ↓reduceIte]
    rw [g3 12 j (by omega)]
    exact cr.2 i w hi
  · simp only [q_up, Nat.reduceEqDiff, false_and, and_false, true_and, and_true, ↓reduceIte]
    rw [g3 1 j (by omega)]
  · simp only [q_up, Nat.reduceEqDiff, false_and, and_false, true_and, and_true, ↓reduceIte]
    rw [g3 1 j (by omega)]
  · refine (g3.w (by omega)).tr (only.tr ((q_uple rfl).w (by omega)) ((q_uple rfl).w (by omega)))
theorem k_wadd {j r n : Nat} {x : Int32} {l : List Nat} {μ : mT} (hr : r < 9) (hn : μ 1 j 0 = nI n) (hn30 : n < 30) (hl : l.length < 30) (c : cRow μ j r l) :
    ∃ μ', f_X5_add j (nI r) x μ = some (nI n, μ') ∧ cRow μ' j r (l ++ [n]) ∧ (∀ r' d, r' < 9 → r' ≠ r → d.length ≤ 30 → cRow μ j r' d → cRow μ' j r' d) ∧ μ' 1 j 0 = nI (n + 1) ∧ μ' 1 j 1 = μ 1 j 1 ∧ (∀ v, μ' 8 j v = if v = n then x else μ 8 j v) ∧ only μ μ' (fun κ j' => (κ = 1 ∨ κ = 8 ∨ κ = 11 ∨ κ = 12) ∧ j' = j) := by
  refine ⟨upM (upM (upM (upM μ 8 j n x) 12 j (r * 30 + l.length) (nI n)) 11 j r (nI (l.length + 1))) 1 j 0 (nI (n + 1)), ?_, ⟨?_, fun i w hi => ?_⟩, fun r' d hr' hne hd cr => ⟨?_, fun i w hi => ?_⟩, ?_, ?_, fun v => ?_, ?_⟩
  · unfold f_X5_add
    have hs : nI (n + 1) - nI 1 = nI n := q_sub (a := n + 1) (b := 1) (by omega)
    simp (disch := omega) only [q_n6b, q_lt, q_bd, q_gdi, q_cl, q_add, q_mul, ↓reduceIte, nI_eq, nI_leI, nI_ltI, z_l0, z_l1, z_l2, z_l3, z_l4, z_l5, z_l6, z_l7, z_l8, z_l9, z_l10, z_l11, z_l12, z_l13, z_l14, z_l15, z_l16, z_l17, z_l18, z_l19, z_l20, z_l21, z_l22, z_l23, z_l240, z_l270, z_l24, z_l30, z_l31, z_l32, z_l33, z_l40, z_l48, z_l57, z_l59, z_l60, z_l65, z_l80, z_l97, z_l112, z_l113, z_l114, z_l116, z_l119, z_l126, z_l255, z_l300, z_l330, z_l331, z_l332, z_l450, z_l500, z_l530, z_l531, z_l560, z_l999, z_l1000, z_l2000, z_l2800, z_l5000, hn, c.1, q_up, Nat.reduceEqDiff, false_and, and_false, true_and, and_true, ↓reduceIte, hs]
  · simp [q_up]
  · simp only [q_up, Nat.reduceEqDiff, false_and, and_false, true_and, and_true, ↓reduceIte]
    by_cases e : i = l.length
    · subst e
      simp at hi
      simp [hi]
    · have hil := (List.getElem?_eq_some_iff.mp hi).1
      simp at hil
      rw [List.getElem?_append_left (by omega)] at hi
      rw [if_neg (by omega)]
      exact c.2 i w hi
  · simp only [q_up, Nat.reduceEqDiff, false_and, and_false, true_and, and_true, ↓reduceIte]
    rw [if_neg hne]
    exact cr.1
  · have hil := (List.getElem?_eq_some_iff.mp hi).1
    simp only [q_up, Nat.reduceEqDiff, false_and, and_false, true_and, and_true, ↓reduceIte]
    rw [if_neg (by omega)]
    exact cr.2 i w hi
  · simp [q_up]
  · simp [q_up]
  · simp only [q_up, Nat.reduceEqDiff, false_and, and_false, true_and, and_true, ↓reduceIte]
  · refine only.tr ((q_uple rfl).w (by omega)) (only.tr ((q_uple rfl).w (by omega)) (only.tr ((q_uple rfl).w (by omega)) ((q_uple rfl).w (by omega))))
