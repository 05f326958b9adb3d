def cRow (μ : mT) (j r : Nat) (l : List Nat) : Prop := μ 11 j r = nI l.length ∧ ∀ i w, l[i]? = some w → μ 12 j (r * 30 + i) = nI w
theorem cRow.n {μ : mT} {j r : Nat} {l : List Nat} (h : cRow μ j r l) : μ 11 j r = nI l.length := h.1
theorem cRow.at {μ : mT} {j r : Nat} {l : List Nat} (h : cRow μ j r l) {i : Nat} (hi : i < l.length) : μ 12 j (r * 30 + i) = nI l[i] := h.2 i _ (List.getElem?_eq_getElem hi)
theorem cRow.cong {μ μ' : mT} {j r : Nat} {l : List Nat} (h : cRow μ j r l) (h1 : μ' 11 j = μ 11 j) (h2 : μ' 12 j = μ 12 j) : cRow μ' j r l := by
  unfold cRow
  rw [h1, h2]
  exact h
def only (μ μ' : mT) (S : Nat → Nat → Prop) : Prop := ∀ κ j, ¬ S κ j → μ' κ j = μ κ j
theorem only.rf {μ : mT} {S : Nat → Nat → Prop} : only μ μ S := fun _ _ _ => rfl
theorem only.tr {μ μ1 μ2 : mT} {S : Nat → Nat → Prop} (h : only μ μ1 S) (h1 : only μ1 μ2 S) : only μ μ2 S := fun κ j z => (h1 κ j z).trans (h κ j z)
theorem only.w {μ μ' : mT} {S S' : Nat → Nat → Prop} (h : only μ μ' S) (hs : ∀ κ j, S κ j → S' κ j) : only μ μ' S' := fun κ j z => h κ j (fun q => z (hs κ j q))
theorem k_shift {j r1 r2 m : Nat} (h1 : r1 < 9) (h2 : r2 < 9) (hne : r2 ≠ r1) (hm : m < 2147483648) : ∀ (d n i : Nat) (μ : mT) (l1 l2 : List Nat), i + d = m → d < n → d ≤ l1.length → l1.length + l2.length ≤ 30 → cRow μ j r1 l1 → cRow μ j r2 l2 →
    ∃ μ', f_X5_shift_L15 j (nI r1) (nI r2) (nI m) n (nI i) μ = some (0, μ') ∧ cRow μ' j r1 (l1.take (l1.length - d)) ∧ cRow μ' j r2 (l2 ++ (l1.drop (l1.length - d)).reverse) ∧ (∀ r l, r < 9 → r ≠ r1 → r ≠ r2 → l.length ≤ 30 → cRow μ j r l → cRow μ' j r l) ∧ only μ μ' (fun κ j' => (κ = 11 ∨ κ = 12) ∧ j' = j) := by
  intro d
  induction d with
  | zero =>
    intro n i μ l1 l2 hi hn hd hl c1 c2
    obtain ⟨n, rfl⟩ : ∃ n', n = n' + 1 := ⟨n - 1, by omega⟩
    refine ⟨μ, ?_, ?_, ?_, fun r l _ _ _ _ h => h, only.rf⟩
    · rw [f_X5_shift_L15, if_pos]
      exact nI_le (by omega) (by omega)
    · simpa using c1
    · simpa using c2
  | succ d ih =>
    intro n i μ l1 l2 hi hn hd hl c1 c2
    obtain ⟨n, rfl⟩ : ∃ n', n = n' + 1 := ⟨n - 1, by omega⟩
    have hne1 : l1 ≠ [] := by
      intro e
      rw [e] at hd
      simp at hd
    obtain ⟨l, w, rfl⟩ : ∃ l w, l1 = l ++ [w] := ⟨l1.dropLast, l1.getLast hne1, (List.dropLast_concat_getLast hne1).symm⟩
    simp only [List.length_append, List.length_cons, List.length_nil, Nat.zero_add] at hd hl c1 ⊢
    have ha : μ 11 j r1 = nI (l.length + 1) := by rw [c1.1, List.length_append]; rfl
    have hw : μ 12 j (r1 * 30 + l.length) = nI w := c1.2 l.length w (by simp)
    rw [shift_step h1 h2 hne (by omega) hm ha c2.1 (by omega)]
    generalize hμ : upM (upM (upM μ 11 j r1 (nI l.length)) 12 j (r2 * 30 + l2.length) (μ 12 j (r1 * 30 + l.length))) 11 j r2 (nI (l2.length + 1)) = μ1
    have k1 : cRow μ1 j r1 l := by
      refine ⟨?_, fun i w hi => ?_⟩
      · rw [← hμ]
        simp [q_up, hne, Ne.symm hne]
      · have hl := (List.getElem?_eq_some_iff.mp hi).1
        rw [← hμ]
        simp only [q_up, Nat.reduceEqDiff, false_and, and_false, true_and, and_true, ↓reduceIte]
        rw [if_neg (by omega)]
        exact c1.2 i w (by rw [List.getElem?_append_left hl]; exact hi)
    have k2 : cRow μ1 j r2 (l2 ++ [w]) := by
      refine ⟨?_, fun i v hi => ?_⟩
      · rw [← hμ]
        simp [q_up]
      · rw [← hμ]
        simp only [q_up, Nat.reduceEqDiff, false_and, and_false, true_and, and_true, ↓reduceIte]
        by_cases e : i = l2.length
        · subst e
          rw [if_pos rfl, hw]
          simp at hi
          rw [hi]
        · have hl := (List.getElem?_eq_some_iff.mp hi).1
          rw [if_neg (by omega)]
          simp only [List.length_append, List.length_cons, List.length_nil] at hl
          refine c2.2 i v ?_
          rw [List.getElem?_append_left (by omega)] at hi
          exact hi
    obtain ⟨μ', g1, g2, g3, g4, g5⟩ := ih n (i + 1) μ1 l (l2 ++ [w]) (by omega) (by omega) (by omega) (by simp; omega) k1 k2
    refine ⟨μ', g1, ?_, ?_, fun r l' hr hr1 hr2 hl' c => g4 r l' hr hr1 hr2 hl' ?_, ?_⟩
    · rw [List.take_append_of_le_length (by omega)]
      rwa [show l.length + 1 - (d + 1) = l.length - d by omega]
    · rw [show l.length + 1 - (d + 1) = l.length - d by omega, List.drop_append_of_le_length (by omega)]
      simpa using g3
    · refine ⟨?_, fun i v hi => ?_⟩
      · rw [← hμ]
        simp only [q_up, Nat.reduceEqDiff, false_and, and_false, true_and, and_true, ↓reduceIte]
        rw [if_neg hr2, if_neg hr1]
        exact c.1
      · have hl := (List.getElem?_eq_some_iff.mp hi).1
        rw [← hμ]
        simp only [q_up, Nat.reduceEqDiff, false_and, and_false, true_and, and_true, ↓reduceIte]
        rw [if_neg (by omega)]
        exact c.2 i v hi
    · refine only.tr (fun κ j' z => ?_) g5
      rw [← hμ, q_upn (fun q => z ⟨Or.inl q.1, q.2⟩), q_upn (fun q => z ⟨Or.inr q.1, q.2⟩), q_upn (fun q => z ⟨Or.inl q.1, q.2⟩)]
theorem k_shift' {j r1 r2 m : Nat} {μ : mT} {l1 l2 : List Nat} (h1 : r1 < 9) (h2 : r2 < 9) (hne : r2 ≠ r1) (hm : m ≤ l1.length) (hl : l1.length + l2.length ≤ 30) (c1 : cRow μ j r1 l1) (c2 : cRow μ j r2 l2) :
    ∃ μ', f_X5_shift j (nI r1) (nI r2) (nI m) μ = some (0, μ') ∧ cRow μ' j r1 (l1.take (l1.length - m)) ∧ cRow μ' j r2 (l2 ++ (l1.drop (l1.length - m)).reverse) ∧ (∀ r l, r < 9 → r ≠ r1 → r ≠ r2 → l.length ≤ 30 → cRow μ j r l → cRow μ' j r l) ∧ only μ μ' (fun κ j' => (κ = 11 ∨ κ = 12) ∧ j' = j) := by
  obtain ⟨μ', g⟩ := k_shift (j := j) h1 h2 hne (m := m) (by omega) m fu 0 μ l1 l2 (by omega) (by unfold fu; omega) hm hl c1 c2
  refine ⟨μ', ?_, g.2⟩
  rw [← g.1]
  unfold f_X5_shift
  have hmin : (if nI l1.length < nI m then nI l1.length else nI m) = nI m := by
    by_cases e : l1.length < m
    · omega
    · rw [if_neg (nI_nlt (by omega) (by omega))]
  simp (disch := omega) only [q_lt, q_gdi, q_cl, c1.1, hmin, z_l0]
theorem k_manyIn {j r : Nat} {μ : mT} (h : r < 9) : f_X5_manyIn j (nI r) μ = some (μ 11 j r, μ) := by
  unfold f_X5_manyIn
  simp (disch := omega) only [q_n6b, q_lt, q_bd, q_gdi, q_cl, q_add, q_mul, ↓reduceIte, nI_eq, nI_leI, nI_ltI, z_l0, z_l1, z_l2, z_l3, z_l4, z_l5, z_l6, z_l7, z_l8, z_l9, z_l10, z_l11, z_l12, z_l13, z_l14, z_l15, z_l16, z_l17, z_l18, z_l19, z_l20, z_l21, z_l22, z_l23, z_l240, z_l270, z_l24, z_l30, z_l31, z_l32, z_l33, z_l40, z_l48, z_l57, z_l59, z_l60, z_l65, z_l80, z_l97, z_l112, z_l113, z_l114, z_l116, z_l119, z_l126, z_l255, z_l300, z_l330, z_l331, z_l332, z_l450, z_l500, z_l530, z_l531, z_l560, z_l999, z_l1000, z_l2000, z_l2800, z_l5000]
def ssum (f : Nat → Int32) : List Nat → Int32
  | [] => 0
  | w :: l => f w + ssum f l
theorem ssum_app (f : Nat → Int32) (a b : List Nat) : ssum f (a ++ b) = ssum f a + ssum f b := by
  induction a with
  | nil => simp [ssum]
  | cons w l ih => simp only [List.cons_append, ssum, ih, Int32.add_assoc]
theorem ssum_rev (f : Nat → Int32) (a : List Nat) : ssum f a.reverse = ssum f a := by
  induction a with
  | nil => rfl
  | cons w l ih => simp only [List.reverse_cons, ssum_app, ssum, ih, Int32.add_zero, Int32.add_comm]
theorem ssum_cong {f g : Nat → Int32} : ∀ {a : List Nat}, (∀ w ∈ a, f w = g w) → ssum f a = ssum g a
  | [], _ => rfl
  | w :: l, h => by
    simp only [ssum]
    rw [h w List.mem_cons_self, ssum_cong (fun v hv => h v (List.mem_cons_of_mem _ hv))]
theorem drop_cons_of {l : List Nat} {i w : Nat} (h : l[i]? = some w) : l.drop i = w :: l.drop (i + 1) := by
  obtain ⟨h1, h2⟩ := List.getElem?_eq_some_iff.mp h
  rw [← h2]
  exact List.drop_eq_getElem_cons h1
theorem k_lenRow {j r : Nat} {μ : mT} {l : List Nat} (h : r < 9) (c : cRow μ j r l) (hl : l.length ≤ 30) (hw : ∀ w ∈ l, w < 30) : ∀ (d n i : Nat) (s : Int32), i + d = l.length → d < n →
    f_X5_lengthOfRow_L4 j (nI r) n s (nI i) μ = some (s + ssum (μ 8 j) (l.drop i), μ) := by
  intro d
  induction d with
  | zero =>
    intro n i s hi hn
    obtain ⟨n, rfl⟩ : ∃ n', n = n' + 1 := ⟨n - 1, by omega⟩
    rw [f_X5_lengthOfRow_L4]
    have hle : l.length ≤ i := by omega
    simp (disch := omega) only [q_n6b, q_lt, q_bd, q_gdi, q_cl, q_add, q_mul, ↓reduceIte, nI_eq, nI_leI, nI_ltI, z_l0, z_l1, z_l2, z_l3, z_l4, z_l5, z_l6, z_l7, z_l8, z_l9, z_l10, z_l11, z_l12, z_l13, z_l14, z_l15, z_l16, z_l17, z_l18, z_l19, z_l20, z_l21, z_l22, z_l23, z_l240, z_l270, z_l24, z_l30, z_l31, z_l32, z_l33, z_l40, z_l48, z_l57, z_l59, z_l60, z_l65, z_l80, z_l97, z_l112, z_l113, z_l114, z_l116, z_l119, z_l126, z_l255, z_l300, z_l330, z_l331, z_l332, z_l450, z_l500, z_l530, z_l531, z_l560, z_l999, z_l1000, z_l2000, z_l2800, z_l5000, c.1, hle]
    rw [List.drop_eq_nil_of_le hle]
    simp [ssum]
  | succ d ih =>
    intro n i s hi hn
    obtain ⟨n, rfl⟩ : ∃ n', n = n' + 1 := ⟨n - 1, by omega⟩
    rw [f_X5_lengthOfRow_L4]
    have hni : ¬ l.length ≤ i := by omega
    obtain ⟨w, hwi⟩ : ∃ w, l[i]? = some w := ⟨_, List.getElem?_eq_getElem (by omega)⟩
    have hw1 := c.2 i w hwi
    have hw30 := hw w (List.mem_of_getElem? hwi)
    simp (disch := omega) only [q_n6b, q_lt, q_bd, q_gdi, q_cl, q_add, q_mul, ↓reduceIte, nI_eq, nI_leI, nI_ltI, z_l0, z_l1, z_l2, z_l3, z_l4, z_l5, z_l6, z_l7, z_l8, z_l9, z_l10, z_l11, z_l12, z_l13, z_l14, z_l15, z_l16, z_l17, z_l18, z_l19, z_l20, z_l21, z_l22, z_l23, z_l240, z_l270, z_l24, z_l30, z_l31, z_l32, z_l33, z_l40, z_l48, z_l57, z_l59, z_l60, z_l65, z_l80, z_l97, z_l112, z_l113, z_l114, z_l116, z_l119, z_l126, z_l255, z_l300, z_l330, z_l331, z_l332, z_l450, z_l500, z_l530, z_l531, z_l560, z_l999, z_l1000, z_l2000, z_l2800, z_l5000, c.1, hni, hw1]
    rw [ih n (i + 1) _ (by omega) (by omega), drop_cons_of hwi]
    simp only [ssum, Int32.add_assoc]
theorem k_lengthOfRow {j r : Nat} {μ : mT} {l : List Nat} (h : r < 9) (c : cRow μ j r l) (hl : l.length ≤ 30) (hw : ∀ w ∈ l, w < 30) : f_X5_lengthOfRow j (nI r) μ = some (ssum (μ 8 j) l, μ) := by
  unfold f_X5_lengthOfRow
  have := k_lenRow h c hl hw l.length fu 0 0 (by omega) (by unfold fu; omega)
  simpa [z_l0, q_0a] using this
theorem k_lenLast {j r m : Nat} {μ : mT} {l : List Nat} (h : r < 9) (c : cRow μ j r l) (hl : l.length ≤ 30) (hw : ∀ w ∈ l, w < 30) (hm : m ≤ l.length) : ∀ (d n i : Nat) (s : Int32), i + d = m → d < n →
    f_X5_lengthOfLast_L20 j (nI r) (nI m) (nI (r * 30 + l.length) - nI 1) n s (nI i) μ = some (s + ssum (μ 8 j) (l.reverse.take m |>.drop i), μ) := by
  intro d
  induction d with
  | zero =>
    intro n i s hi hn
    obtain ⟨n, rfl⟩ : ∃ n', n = n' + 1 := ⟨n - 1, by omega⟩
    rw [f_X5_lengthOfLast_L20, if_pos (nI_le (by omega) (by omega)), List.drop_eq_nil_of_le (by simp; omega)]
    simp [ssum]
  | succ d ih =>
    intro n i s hi hn
    obtain ⟨n, rfl⟩ : ∃ n', n = n' + 1 := ⟨n - 1, by omega⟩
    rw [f_X5_lengthOfLast_L20]
    have hni : ¬ m ≤ i := by omega
    have hni2 : ¬ l.length ≤ i := by omega
    have hlt : l.length - 1 - i < l.length := by omega
    obtain ⟨w, hwi⟩ : ∃ w, l[l.length - 1 - i]? = some w := ⟨_, List.getElem?_eq_getElem hlt⟩
    have hw1 := c.2 _ w hwi
    have hw30 := hw w (List.mem_of_getElem? hwi)
    have e1 : nI (r * 30 + l.length) - nI 1 - nI i = nI (r * 30 + (l.length - 1 - i)) := by
      rw [q_sub (by omega), q_sub (by omega)]
      congr 1
      omega
    simp (disch := omega) only [q_n6b, q_lt, q_bd, q_gdi, q_cl, q_add, q_mul, ↓reduceIte, nI_eq, nI_leI, nI_ltI, z_l0, z_l1, z_l2, z_l3, z_l4, z_l5, z_l6, z_l7, z_l8, z_l9, z_l10, z_l11, z_l12, z_l13, z_l14, z_l15, z_l16, z_l17, z_l18, z_l19, z_l20, z_l21, z_l22, z_l23, z_l240, z_l270, z_l24, z_l30, z_l31, z_l32, z_l33, z_l40, z_l48, z_l57, z_l59, z_l60, z_l65, z_l80, z_l97, z_l112, z_l113, z_l114, z_l116, z_l119, z_l126, z_l255, z_l300, z_l330, z_l331, z_l332, z_l450, z_l500, z_l530, z_l531, z_l560, z_l999, z_l1000, z_l2000, z_l2800, z_l5000, c.1, hni, hni2, e1, hw1]
    rw [ih n (i + 1) _ (by omega) (by omega)]
    have e2 : (l.reverse.take m)[i]? = some w := by
      rw [List.getElem?_take_of_lt (by omega), List.getElem?_reverse (by omega)]
      exact hwi
    rw [drop_cons_of e2]
    simp only [ssum, Int32.add_assoc]
theorem k_lengthOfLast {j r m : Nat} {μ : mT} {l : List Nat} (h : r < 9) (c : cRow μ j r l) (hl : l.length ≤ 30) (hw : ∀ w ∈ l, w < 30) (hm : m ≤ l.length) : f_X5_lengthOfLast j (nI r) (nI m) μ = some (ssum (μ 8 j) (l.reverse.take m), μ) := by
  unfold f_X5_lengthOfLast
  have := k_lenLast h c hl hw hm m fu 0 0 (by omega) (by unfold fu; omega)
  simp (disch := omega) only [q_n6b, q_lt, q_bd, q_gdi, q_cl, q_add, q_mul, ↓reduceIte, nI_eq, nI_leI, nI_ltI, z_l0, z_l1, z_l2, z_l3, z_l4, z_l5, z_l6, z_l7, z_l8, z_l9, z_l10, z_l11, z_l12, z_l13, z_l14, z_l15, z_l16, z_l17, z_l18, z_l19, z_l20, z_l21, z_l22, z_l23, z_l240, z_l270, z_l24, z_l30, z_l31, z_l32, z_l33, z_l40, z_l48, z_l57, z_l59, z_l60, z_l65, z_l80, z_l97, z_l112, z_l113, z_l114, z_l116, z_l119, z_l126, z_l255, z_l300, z_l330, z_l331, z_l332, z_l450, z_l500, z_l530, z_l531, z_l560, z_l999, z_l1000, z_l2000, z_l2800, z_l5000, c.1] at this ⊢
  rw [this]
  simp [q_0a]
