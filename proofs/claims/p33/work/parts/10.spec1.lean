theorem q_lt {α β : Type} (a : α) (f : α → β) : lt a f = f a := rfl
theorem q_bd {α : Type} (r : Int32) (μ : mT) (k : Int32 → mT → Option α) : bd (some (r, μ)) k = k r μ := rfl
theorem q_gd {α : Type} {b : Bool} {k : Option α} (h : b = true) : gd b k = k := by unfold gd; rw [if_pos h]
theorem q_inb {k n : Nat} (h : k < n) (hn : n < 2147483648) : inb (nI k) n = true := by
  unfold inb
  rw [Bool.and_eq_true]
  exact ⟨decide_eq_true (nI_pos' (by omega)), decide_eq_true (by rw [nI_clamp (by omega)]; exact h)⟩
theorem q_gdi {α : Type} {i n : Nat} {k : Option α} (h : i < n) (hn : n < 2147483648) : gd (inb (nI i) n) k = k := q_gd (q_inb h hn)
theorem q_cl {k : Nat} (h : k < 2147483648) : (nI k).toNatClampNeg = k := nI_clamp h
theorem q_add (a b : Nat) : nI a + nI b = nI (a + b) := nI_add a b
theorem q_mul (a b : Nat) : nI a * nI b = nI (a * b) := (Int32.ofNat_mul a b).symm
theorem q_sub {a b : Nat} (h : b ≤ a) : nI a - nI b = nI (a - b) := by
  have e := q_add (a - b) b
  rw [Nat.sub_add_cancel h] at e
  rw [← e, Int32.add_sub_cancel]
theorem z_l0 : (0 : Int32) = nI 0 := rfl
theorem z_l1 : (1 : Int32) = nI 1 := rfl
theorem z_l2 : (2 : Int32) = nI 2 := rfl
theorem z_l3 : (3 : Int32) = nI 3 := rfl
theorem z_l4 : (4 : Int32) = nI 4 := rfl
theorem z_l5 : (5 : Int32) = nI 5 := rfl
theorem z_l6 : (6 : Int32) = nI 6 := rfl
theorem z_l7 : (7 : Int32) = nI 7 := rfl
theorem z_l8 : (8 : Int32) = nI 8 := rfl
theorem z_l9 : (9 : Int32) = nI 9 := rfl
theorem z_l10 : (10 : Int32) = nI 10 := rfl
theorem z_l11 : (11 : Int32) = nI 11 := rfl
theorem z_l12 : (12 : Int32) = nI 12 := rfl
theorem z_l13 : (13 : Int32) = nI 13 := rfl
theorem z_l14 : (14 : Int32) = nI 14 := rfl
theorem z_l15 : (15 : Int32) = nI 15 := rfl
theorem z_l16 : (16 : Int32) = nI 16 := rfl
theorem z_l17 : (17 : Int32) = nI 17 := rfl
theorem z_l18 : (18 : Int32) = nI 18 := rfl
theorem z_l19 : (19 : Int32) = nI 19 := rfl
theorem z_l20 : (20 : Int32) = nI 20 := rfl
theorem z_l21 : (21 : Int32) = nI 21 := rfl
theorem z_l22 : (22 : Int32) = nI 22 := rfl
theorem z_l23 : (23 : Int32) = nI 23 := rfl
theorem z_l240 : (240 : Int32) = nI 240 := rfl
theorem z_l270 : (270 : Int32) = nI 270 := rfl
theorem z_l24 : (24 : Int32) = nI 24 := rfl
theorem z_l30 : (30 : Int32) = nI 30 := rfl
theorem z_l31 : (31 : Int32) = nI 31 := rfl
theorem z_l32 : (32 : Int32) = nI 32 := rfl
theorem z_l33 : (33 : Int32) = nI 33 := rfl
theorem z_l40 : (40 : Int32) = nI 40 := rfl
theorem z_l48 : (48 : Int32) = nI 48 := rfl
theorem z_l57 : (57 : Int32) = nI 57 := rfl
theorem z_l59 : (59 : Int32) = nI 59 := rfl
theorem z_l60 : (60 : Int32) = nI 60 := rfl
theorem z_l65 : (65 : Int32) = nI 65 := rfl
theorem z_l80 : (80 : Int32) = nI 80 := rfl
theorem z_l97 : (97 : Int32) = nI 97 := rfl
theorem z_l112 : (112 : Int32) = nI 112 := rfl
theorem z_l113 : (113 : Int32) = nI 113 := rfl
theorem z_l114 : (114 : Int32) = nI 114 := rfl
theorem z_l116 : (116 : Int32) = nI 116 := rfl
theorem z_l119 : (119 : Int32) = nI 119 := rfl
theorem z_l126 : (126 : Int32) = nI 126 := rfl
theorem z_l255 : (255 : Int32) = nI 255 := rfl
theorem z_l300 : (300 : Int32) = nI 300 := rfl
theorem z_l330 : (330 : Int32) = nI 330 := rfl
theorem z_l331 : (331 : Int32) = nI 331 := rfl
theorem z_l332 : (332 : Int32) = nI 332 := rfl
theorem z_l450 : (450 : Int32) = nI 450 := rfl
theorem z_l500 : (500 : Int32) = nI 500 := rfl
theorem z_l530 : (530 : Int32) = nI 530 := rfl
theorem z_l531 : (531 : Int32) = nI 531 := rfl
theorem z_l560 : (560 : Int32) = nI 560 := rfl
theorem z_l999 : (999 : Int32) = nI 999 := rfl
theorem z_l1000 : (1000 : Int32) = nI 1000 := rfl
theorem z_l2000 : (2000 : Int32) = nI 2000 := rfl
theorem z_l2800 : (2800 : Int32) = nI 2800 := rfl
theorem z_l5000 : (5000 : Int32) = nI 5000 := rfl
theorem q_0a (x : Int32) : nI 0 + x = x := Int32.zero_add x
theorem q_n6 {i : Nat} (h : i < 2147483648) : ¬ nI i = -6 := by
  intro e
  have h0 : (0 : Int32) ≤ nI i := nI_pos' h
  rw [e] at h0
  exact absurd h0 (by decide)
theorem q_n6b {i : Nat} (h : i < 2147483648) : ¬ nI i = -nI 6 := q_n6 h
theorem q_div {a b : Nat} (ha : a < 2147483648) (hb : b < 2147483648) : nI a / nI b = nI (a / b) := by
  apply Int32.toInt_inj.mp
  have hab : a / b ≤ a := Nat.div_le_self a b
  rw [Int32.toInt_div, nI_toInt ha, nI_toInt hb, nI_toInt (by omega)]
  have e : ((a : Int).tdiv (b : Int)) = ((a / b : Nat) : Int) := Int.ofNat_tdiv a b
  rw [e]
  generalize a / b = q at hab ⊢
  exact Int.bmod_eq_of_le (by omega) (by omega)
theorem q_up (μ : mT) (κ j k : Nat) (x : Int32) (κ' j' k' : Nat) : upM μ κ j k x κ' j' k' = if κ' = κ ∧ j' = j ∧ k' = k then x else μ κ' j' k' := by
  unfold upM upR upd
  by_cases h : κ' = κ ∧ j' = j
  · obtain ⟨rfl, rfl⟩ := h
    simp
  · rw [if_neg h, if_neg (fun z => h ⟨z.1, z.2.1⟩)]
theorem q_upn {μ : mT} {κ j k : Nat} {x : Int32} {κ' j' : Nat} (h : ¬ (κ' = κ ∧ j' = j)) : upM μ κ j k x κ' j' = μ κ' j' := by
  unfold upM upR
  rw [if_neg h]
theorem q_upr {μ : mT} {κ j : Nat} {f : Nat → Int32} {κ' j' : Nat} (h : ¬ (κ' = κ ∧ j' = j)) : upR μ κ j f κ' j' = μ κ' j' := by
  unfold upR
  rw [if_neg h]
theorem q_ups {μ : mT} {κ j : Nat} {f : Nat → Int32} : upR μ κ j f κ j = f := by
  unfold upR
  rw [if_pos ⟨rfl, rfl⟩]
/-- shift, one step -/
theorem shift_step {j r1 r2 m i n a b : Nat} {μ : mT} (h1 : r1 < 9) (h2 : r2 < 9) (hne : r2 ≠ r1) (hi : i < m) (hm : m < 2147483648) (ha : μ 11 j r1 = nI (a + 1)) (hb : μ 11 j r2 = nI b) (hab : a + 1 + b ≤ 30) :
    f_X5_shift_L15 j (nI r1) (nI r2) (nI m) (n + 1) (nI i) μ = f_X5_shift_L15 j (nI r1) (nI r2) (nI m) n (nI (i + 1)) (upM (upM (upM μ 11 j r1 (nI a)) 12 j (r2 * 30 + b) (μ 12 j (r1 * 30 + a))) 11 j r2 (nI (b + 1))) := by
  have hni : ¬ m ≤ i := by omega
  have hs : nI (a + 1) - nI 1 = nI a := q_sub (a := a + 1) (b := 1) (by omega)
  rw [f_X5_shift_L15]
  simp (disch := omega) only [q_n6b, q_lt, q_bd, q_gdi, q_cl, q_add, q_mul, ↓reduceIte, nI_eq, nI_leI, nI_ltI, z_l0, z_l1, z_l2, z_l3, z_l4, z_l5, z_l6, z_l7, z_l8, z_l9, z_l10, z_l11, z_l12, z_l13, z_l14, z_l15, z_l16, z_l17, z_l18, z_l19, z_l20, z_l21, z_l22, z_l23, z_l240, z_l270, z_l24, z_l30, z_l31, z_l32, z_l33, z_l40, z_l48, z_l57, z_l59, z_l60, z_l65, z_l80, z_l97, z_l112, z_l113, z_l114, z_l116, z_l119, z_l126, z_l255, z_l300, z_l330, z_l331, z_l332, z_l450, z_l500, z_l530, z_l531, z_l560, z_l999, z_l1000, z_l2000, z_l2800, z_l5000, hni, ha, hs, hb, hne, q_up, Nat.reduceEqDiff, false_and, and_false, true_and, and_true, ↓reduceIte]
def cRow (μ : mT) (j r : Nat) (l : List Nat) : Prop := μ 11 j r = nI l.length ∧ ∀ i w, l[i]? = some w → μ 12 j (r * 30 + i) = nI w
theorem cRow.n {μ : mT} {j r : Nat} {l : List Nat} (h : cRow μ j r l) : μ 11 j r = nI l.length := h.1
theorem cRow.at {μ : mT} {j r : Nat} {l : List Nat} (h : cRow μ j r l) {i : Nat} (hi : i < l.length) : μ 12 j (r * 30 + i) = nI l[i] := h.2 i _ (List.getElem?_eq_getElem hi)
theorem cRow.cong {μ μ' : mT} {j r : Nat} {l : List Nat} (h : cRow μ j r l) (h1 : μ' 11 j = μ 11 j) (h2 : μ' 12 j = μ 12 j) : cRow μ' j r l := by
  unfold cRow
  rw [h1, h2]
  exact h
def only (μ μ' : mT) (S : Nat → Nat → Prop) : Prop := ∀ κ j, ¬ S κ j → μ' κ j = μ κ j
theorem only.rf {μ : mT} {S : Nat → Nat → Prop} : only μ μ S := fun _ _ _ => rfl
theorem only.tr {μ μ1 μ2 : mT} {S : Nat → Nat → Prop} (h : only μ μ1 S) (h1 : only μ1 μ2 S) : only μ μ2 S := fun κ j z => (h1 κ j z).trans (h κ j z)
theorem only.w {μ μ' : mT} {S S' : Nat → Nat → Prop} (h : only μ μ' S) (hs : ∀ κ j, S κ j → S' κ j) : only μ μ' S' := fun κ j z => h κ j (fun q => z (hs κ j q))
theorem k_shift {j r1 r2 m : Nat} (h1 : r1 < 9) (h2 : r2 < 9) (hne : r2 ≠ r1) (hm : m < 2147483648) : ∀ (d n i : Nat) (μ : mT) (l1 l2 : List Nat), i + d = m → d < n → d ≤ l1.length → l1.length + l2.length ≤ 30 → cRow μ j r1 l1 → cRow μ j r2 l2 →
    ∃ μ', f_X5_shift_L15 j (nI r1) (nI r2) (nI m) n (nI i) μ = some (0, μ') ∧ cRow μ' j r1 (l1.take (l1.length - d)) ∧ cRow μ' j r2 (l2 ++ (l1.drop (l1.length - d)).reverse) ∧ (∀ r l, r < 9 → r ≠ r1 → r ≠ r2 → l.length ≤ 30 → cRow μ j r l → cRow μ' j r l) ∧ only μ μ' (fun κ j' => (κ = 11 ∨ κ = 12) ∧ j' = j) := by
  intro d
  induction d with
  | zero =>
    intro n i μ l1 l2 hi hn hd hl c1 c2
    obtain ⟨n, rfl⟩ : ∃ n', n = n' + 1 := ⟨n - 1, by omega⟩
    refine ⟨μ, ?_, ?_, ?_, fun r l _ _ _ _ h => h, only.rf⟩
    · rw [f_X5_shift_L15, if_pos]
      exact nI_le (by omega) (by omega)
    · simpa using c1
    · simpa using c2
  | succ d ih =>
    intro n i μ l1 l2 hi hn hd hl c1 c2
    obtain ⟨n, rfl⟩ : ∃ n', n = n' + 1 := ⟨n - 1, by omega⟩
    have hne1 : l1 ≠ [] := by
      intro e
      rw [e] at hd
      simp at hd
    obtain ⟨l, w, rfl⟩ : ∃ l w, l1 = l ++ [w] := ⟨l1.dropLast, l1.getLast hne1, (List.dropLast_concat_getLast hne1).symm⟩
    simp only [List.length_append, List.length_cons, List.length_nil, Nat.zero_add] at hd hl c1 ⊢
    have ha : μ 11 j r1 = nI (l.length + 1) := by rw [c1.1, List.length_append]; rfl
    have hw : μ 12 j (r1 * 30 + l.length) = nI w := c1.2 l.length w (by simp)
    rw [shift_step h1 h2 hne (by omega) hm ha c2.1 (by omega)]
    generalize hμ : upM (upM (upM μ 11 j r1 (nI l.length)) 12 j (r2 * 30 + l2.length) (μ 12 j (r1 * 30 + l.length))) 11 j r2 (nI (l2.length + 1)) = μ1
    have k1 : cRow μ1 j r1 l := by
      refine ⟨?_, fun i w hi => ?_⟩
      · rw [← hμ]
        simp [q_up, hne, Ne.symm hne]
      · have hl := (List.getElem?_eq_some_iff.mp hi).1
        rw [← hμ]
        simp only [q_up, Nat.reduceEqDiff, false_and, and_false, true_and, and_true, ↓reduceIte]
        rw [if_neg (by omega)]
        exact c1.2 i w (by rw [List.getElem?_append_left hl]; exact hi)
    have k2 : cRow μ1 j r2 (l2 ++ [w]) := by
      refine ⟨?_, fun i v hi => ?_⟩
      · rw [← hμ]
        simp [q_up]
      · rw [← hμ]
        simp only [q_up, Nat.reduceEqDiff, false_and, and_false, true_and, and_true, ↓reduceIte]
        by_cases e : i = l2.length
        · subst e
          rw [if_pos rfl, hw]
          simp at hi
          rw [hi]
        · have hl := (List.getElem?_eq_some_iff.mp hi).1
          rw [if_neg (by omega)]
          simp only [List.length_append, List.length_cons, List.length_nil] at hl
          refine c2.2 i v ?_
          rw [List.getElem?_append_left (by omega)] at hi
          exact hi
    obtain ⟨μ', g1, g2, g3, g4, g5⟩ := ih n (i + 1) μ1 l (l2 ++ [w]) (by omega) (by omega) (by omega) (by simp; omega) k1 k2
    refine ⟨μ', g1, ?_, ?_, fun r l' hr hr1 hr2 hl' c => g4 r l' hr hr1 hr2 hl' ?_, ?_⟩
    · rw [List.take_append_of_le_length (by omega)]
      rwa [show l.length + 1 - (d + 1) = l.length - d by omega]
    · rw [show l.length + 1 - (d + 1) = l.length - d by omega, List.drop_append_of_le_length (by omega)]
      simpa using g3
    · refine ⟨?_, fun i v hi => ?_⟩
      · rw [← hμ]
        simp only [q_up, Nat.reduceEqDiff, false_and, and_false, true_and, and_true, ↓reduceIte]
        rw [if_neg hr2, if_neg hr1]
        exact c.1
      · have hl := (List.getElem?_eq_some_iff.mp hi).1
        rw [← hμ]
        simp only [q_up, Nat.reduceEqDiff, false_and, and_false, true_and, and_true, ↓reduceIte]
        rw [if_neg (by omega)]
        exact c.2 i v hi
    · refine only.tr (fun κ j' z => ?_) g5
      rw [← hμ, q_upn (fun q => z ⟨Or.inl q.1, q.2⟩), q_upn (fun q => z ⟨Or.inr q.1, q.2⟩), q_upn (fun q => z ⟨Or.inl q.1, q.2⟩)]
theorem k_shift' {j r1 r2 m : Nat} {μ : mT} {l1 l2 : List Nat} (h1 : r1 < 9) (h2 : r2 < 9) (hne : r2 ≠ r1) (hm : m ≤ l1.length) (hl : l1.length + l2.length ≤ 30) (c1 : cRow μ j r1 l1) (c2 : cRow μ j r2 l2) :
    ∃ μ', f_X5_shift j (nI r1) (nI r2) (nI m) μ = some (0, μ') ∧ cRow μ' j r1 (l1.take (l1.length - m)) ∧ cRow μ' j r2 (l2 ++ (l1.drop (l1.length - m)).reverse) ∧ (∀ r l, r < 9 → r ≠ r1 → r ≠ r2 → l.length ≤ 30 → cRow μ j r l → cRow μ' j r l) ∧ only μ μ' (fun κ j' => (κ = 11 ∨ κ = 12) ∧ j' = j) := by
  obtain ⟨μ', g⟩ := k_shift (j := j) h1 h2 hne (m := m) (by omega) m fu 0 μ l1 l2 (by omega) (by unfold fu; omega) hm hl c1 c2
  refine ⟨μ', ?_, g.2⟩
  rw [← g.1]
  unfold f_X5_shift
  have hmin : (if nI l1.length < nI m then nI l1.length else nI m) = nI m := by
    by_cases e : l1.length < m
    · omega
    · rw [if_neg (nI_nlt (by omega) (by omega))]
  simp (disch := omega) only [q_lt, q_gdi, q_cl, c1.1, hmin, z_l0]
theorem k_manyIn {j r : Nat} {μ : mT} (h : r < 9) : f_X5_manyIn j (nI r) μ = some (μ 11 j r, μ) := by
  unfold f_X5_manyIn
  simp (disch := omega) only [q_n6b, q_lt, q_bd, q_gdi, q_cl, q_add, q_mul, ↓reduceIte, nI_eq, nI_leI, nI_ltI, z_l0, z_l1, z_l2, z_l3, z_l4, z_l5, z_l6, z_l7, z_l8, z_l9, z_l10, z_l11, z_l12, z_l13, z_l14, z_l15, z_l16, z_l17, z_l18, z_l19, z_l20, z_l21, z_l22, z_l23, z_l240, z_l270, z_l24, z_l30, z_l31, z_l32, z_l33, z_l40, z_l48, z_l57, z_l59, z_l60, z_l65, z_l80, z_l97, z_l112, z_l113, z_l114, z_l116, z_l119, z_l126, z_l255, z_l300, z_l330, z_l331, z_l332, z_l450, z_l500, z_l530, z_l531, z_l560, z_l999, z_l1000, z_l2000, z_l2800, z_l5000]
def ssum (f : Nat → Int32) : List Nat → Int32
  | [] => 0
  | w :: l => f w + ssum f l
theorem ssum_app (f : Nat → Int32) (a b : List Nat) : ssum f (a ++ b) = ssum f a + ssum f b := by
  induction a with
  | nil => simp [ssum]
  | cons w l ih => simp only [List.cons_append, ssum, ih, Int32.add_assoc]
theorem ssum_rev (f : Nat → Int32) (a : List Nat) : ssum f a.reverse = ssum f a := by
  induction a with
  | nil => rfl
  | cons w l ih => simp only [List.reverse_cons, ssum_app, ssum, ih, Int32.add_zero, Int32.add_comm]
theorem ssum_cong {f g : Nat → Int32} : ∀ {a : List Nat}, (∀ w ∈ a, f w = g w) → ssum f a = ssum g a
  | [], _ => rfl
  | w :: l, h => by
    simp only [ssum]
    rw [h w List.mem_cons_self, ssum_cong (fun v hv => h v (List.mem_cons_of_mem _ hv))]
theorem drop_cons_of {l : List Nat} {i w : Nat} (h : l[i]? = some w) : l.drop i = w :: l.drop (i + 1) := by
  obtain ⟨h1, h2⟩ := List.getElem?_eq_some_iff.mp h
  rw [← h2]
  exact List.drop_eq_getElem_cons h1
theorem k_lenRow {j r : Nat} {μ : mT} {l : List Nat} (h : r < 9) (c : cRow μ j r l) (hl : l.length ≤ 30) (hw : ∀ w ∈ l, w < 30) : ∀ (d n i : Nat) (s : Int32), i + d = l.length → d < n →
    f_X5_lengthOfRow_L4 j (nI r) n s (nI i) μ = some (s + ssum (μ 8 j) (l.drop i), μ) := by
  intro d
  induction d with
  | zero =>
    intro n i s hi hn
    obtain ⟨n, rfl⟩ : ∃ n', n = n' + 1 := ⟨n - 1, by omega⟩
    rw [f_X5_lengthOfRow_L4]
    have hle : l.length ≤ i := by omega
    simp (disch := omega) only [q_n6b, q_lt, q_bd, q_gdi, q_cl, q_add, q_mul, ↓reduceIte, nI_eq, nI_leI, nI_ltI, z_l0, z_l1, z_l2, z_l3, z_l4, z_l5, z_l6, z_l7, z_l8, z_l9, z_l10, z_l11, z_l12, z_l13, z_l14, z_l15, z_l16, z_l17, z_l18, z_l19, z_l20, z_l21, z_l22, z_l23, z_l240, z_l270, z_l24, z_l30, z_l31, z_l32, z_l33, z_l40, z_l48, z_l57, z_l59, z_l60, z_l65, z_l80, z_l97, z_l112, z_l113, z_l114, z_l116, z_l119, z_l126, z_l255, z_l300, z_l330, z_l331, z_l332, z_l450, z_l500, z_l530, z_l531, z_l560, z_l999, z_l1000, z_l2000, z_l2800, z_l5000, c.1, hle]
    rw [List.drop_eq_nil_of_le hle]
    simp [ssum]
  | succ d ih =>
    intro n i s hi hn
    obtain ⟨n, rfl⟩ : ∃ n', n = n' + 1 := ⟨n - 1, by omega⟩
    rw [f_X5_lengthOfRow_L4]
    have hni : ¬ l.length ≤ i := by omega
    obtain ⟨w, hwi⟩ : ∃ w, l[i]? = some w := ⟨_, List.getElem?_eq_getElem (by omega)⟩
    have hw1 := c.2 i w hwi
    have hw30 := hw w (List.mem_of_getElem? hwi)
    simp (disch := omega) only [q_n6b, q_lt, q_bd, q_gdi, q_cl, q_add, q_mul, ↓reduceIte, nI_eq, nI_leI, nI_ltI, z_l0, z_l1, z_l2, z_l3, z_l4, z_l5, z_l6, z_l7, z_l8, z_l9, z_l10, z_l11, z_l12, z_l13, z_l14, z_l15, z_l16, z_l17, z_l18, z_l19, z_l20, z_l21, z_l22, z_l23, z_l240, z_l270, z_l24, z_l30, z_l31, z_l32, z_l33, z_l40, z_l48, z_l57, z_l59, z_l60, z_l65, z_l80, z_l97, z_l112, z_l113, z_l114, z_l116, z_l119, z_l126, z_l255, z_l300, z_l330, z_l331, z_l332, z_l450, z_l500, z_l530, z_l531, z_l560, z_l999, z_l1000, z_l2000, z_l2800, z_l5000, c.1, hni, hw1]
    rw [ih n (i + 1) _ (by omega) (by omega), drop_cons_of hwi]
    simp only [ssum, Int32.add_assoc]
theorem k_lengthOfRow {j r : Nat} {μ : mT} {l : List Nat} (h : r < 9) (c : cRow μ j r l) (hl : l.length ≤ 30) (hw : ∀ w ∈ l, w < 30) : f_X5_lengthOfRow j (nI r) μ = some (ssum (μ 8 j) l, μ) := by
  unfold f_X5_lengthOfRow
  have := k_lenRow h c hl hw l.length fu 0 0 (by omega) (by unfold fu; omega)
  simpa [z_l0, q_0a] using this
theorem k_lenLast {j r m : Nat} {μ : mT} {l : List Nat} (h : r < 9) (c : cRow μ j r l) (hl : l.length ≤ 30) (hw : ∀ w ∈ l, w < 30) (hm : m ≤ l.length) : ∀ (d n i : Nat) (s : Int32), i + d = m → d < n →
    f_X5_lengthOfLast_L20 j (nI r) (nI m) (nI (r * 30 + l.length) - nI 1) n s (nI i) μ = some (s + ssum (μ 8 j) (l.reverse.take m |>.drop i), μ) := by
  intro d
  induction d with
  | zero =>
    intro n i s hi hn
    obtain ⟨n, rfl⟩ : ∃ n', n = n' + 1 := ⟨n - 1, by omega⟩
    rw [f_X5_lengthOfLast_L20, if_pos (nI_le (by omega) (by omega)), List.drop_eq_nil_of_le (by simp; omega)]
    simp [ssum]
  | succ d ih =>
    intro n i s hi hn
    obtain ⟨n, rfl⟩ : ∃ n', n = n' + 1 := ⟨n - 1, by omega⟩
    rw [f_X5_lengthOfLast_L20]
    have hni : ¬ m ≤ i := by omega
    have hni2 : ¬ l.length ≤ i := by omega
    have hlt : l.length - 1 - i < l.length := by omega
    obtain ⟨w, hwi⟩ : ∃ w, l[l.length - 1 - i]? = some w := ⟨_, List.getElem?_eq_getElem hlt⟩
    have hw1 := c.2 _ w hwi
    have hw30 := hw w (List.mem_of_getElem? hwi)
    have e1 : nI (r * 30 + l.length) - nI 1 - nI i = nI (r * 30 + (l.length - 1 - i)) := by
      rw [q_sub (by omega), q_sub (by omega)]
      congr 1
      omega
    simp (disch := omega) only [q_n6b, q_lt, q_bd, q_gdi, q_cl, q_add, q_mul, ↓reduceIte, nI_eq, nI_leI, nI_ltI, z_l0, z_l1, z_l2, z_l3, z_l4, z_l5, z_l6, z_l7, z_l8, z_l9, z_l10, z_l11, z_l12, z_l13, z_l14, z_l15, z_l16, z_l17, z_l18, z_l19, z_l20, z_l21, z_l22, z_l23, z_l240, z_l270, z_l24, z_l30, z_l31, z_l32, z_l33, z_l40, z_l48, z_l57, z_l59, z_l60, z_l65, z_l80, z_l97, z_l112, z_l113, z_l114, z_l116, z_l119, z_l126, z_l255, z_l300, z_l330, z_l331, z_l332, z_l450, z_l500, z_l530, z_l531, z_l560, z_l999, z_l1000, z_l2000, z_l2800, z_l5000, c.1, hni, hni2, e1, hw1]
    rw [ih n (i + 1) _ (by omega) (by omega)]
    have e2 : (l.reverse.take m)[i]? = some w := by
      rw [List.getElem?_take_of_lt (by omega), List.getElem?_reverse (by omega)]
      exact hwi
    rw [drop_cons_of e2]
    simp only [ssum, Int32.add_assoc]
theorem k_lengthOfLast {j r m : Nat} {μ : mT} {l : List Nat} (h : r < 9) (c : cRow μ j r l) (hl : l.length ≤ 30) (hw : ∀ w ∈ l, w < 30) (hm : m ≤ l.length) : f_X5_lengthOfLast j (nI r) (nI m) μ = some (ssum (μ 8 j) (l.reverse.take m), μ) := by
  unfold f_X5_lengthOfLast
  have := k_lenLast h c hl hw hm m fu 0 0 (by omega) (by unfold fu; omega)
  simp (disch := omega) only [q_n6b, q_lt, q_bd, q_gdi, q_cl, q_add, q_mul, ↓reduceIte, nI_eq, nI_leI, nI_ltI, z_l0, z_l1, z_l2, z_l3, z_l4, z_l5, z_l6, z_l7, z_l8, z_l9, z_l10, z_l11, z_l12, z_l13, z_l14, z_l15, z_l16, z_l17, z_l18, z_l19, z_l20, z_l21, z_l22, z_l23, z_l240, z_l270, z_l24, z_l30, z_l31, z_l32, z_l33, z_l40, z_l48, z_l57, z_l59, z_l60, z_l65, z_l80, z_l97, z_l112, z_l113, z_l114, z_l116, z_l119, z_l126, z_l255, z_l300, z_l330, z_l331, z_l332, z_l450, z_l500, z_l530, z_l531, z_l560, z_l999, z_l1000, z_l2000, z_l2800, z_l5000, c.1] at this ⊢
  rw [this]
  simp [q_0a]
def idx (w : Nat) : List Nat → Option Nat
  | [] => none
  | v :: l => if v = w then some 0 else (idx w l).map (· + 1)
theorem idx_some {w : Nat} : ∀ {l : List Nat} {i : Nat}, idx w l = some i → l[i]? = some w
  | [], i, h => by cases h
  | v :: l, i, h => by
    unfold idx at h
    split at h
    · cases h
      simp
      assumption
    · cases hl : idx w l with
      | none => rw [hl] at h; cases h
      | some k =>
        rw [hl] at h
        cases h
        simpa using idx_some hl
theorem idx_none {w : Nat} : ∀ {l : List Nat}, idx w l = none → w ∉ l
  | [], _ => by simp
  | v :: l, h => by
    unfold idx at h
    split at h
    · cases h
    · cases hl : idx w l with
      | some k => rw [hl] at h; cases h
      | none => simp; exact ⟨fun e => by rename_i hv; exact hv e.symm, idx_none hl⟩
def plc (d : List Nat) (w : Nat) : Int32 := match idx w d with
  | some i => nI i
  | none => -6
theorem nd_inj {d : List Nat} (h : d.Nodup) {i i' w : Nat} (h1 : d[i]? = some w) (h2 : d[i']? = some w) : i = i' := by
  exact (List.getElem?_inj (List.getElem?_eq_some_iff.mp h1).1 h).mp (h1.trans h2.symm)
theorem plc_at {d : List Nat} (h : d.Nodup) {i w : Nat} (h1 : d[i]? = some w) : plc d w = nI i := by
  unfold plc
  cases e : idx w d with
  | none => exact absurd (List.mem_of_getElem? h1) (idx_none e)
  | some k => rw [nd_inj h (idx_some e) h1]
theorem plc_out {d : List Nat} {w : Nat} (h : w ∉ d) : plc d w = -6 := by
  unfold plc
  cases e : idx w d with
  | none => rfl
  | some k => exact absurd (List.mem_of_getElem? (idx_some e)) h
def cw (r : Nat) (d : List Nat) : List Nat := if r = 8 then d else d.reverse
theorem cw_len (r : Nat) (d : List Nat) : (cw r d).length = d.length := by unfold cw; split <;> simp
theorem cw_mem {r : Nat} {d : List Nat} {w : Nat} : w ∈ cw r d ↔ w ∈ d := by unfold cw; split <;> simp
theorem cw_nd {r : Nat} {d : List Nat} (h : d.Nodup) : (cw r d).Nodup := by
  unfold cw
  split
  · exact h
  · exact List.pairwise_reverse.mpr (List.Pairwise.imp (fun h => Ne.symm h) h)
theorem k_place_in {j r : Nat} {μ : mT} {l : List Nat} (h : r < 9) (c : cRow μ j r l) (hl : l.length ≤ 30) (hw : ∀ w ∈ l, w < 30) (hn : l.Nodup) {K : Int32 → mT → Option (Int32 × mT)} {w k : Nat} (hk : l[k]? = some w) : ∀ (d n i : Nat), i + d = k → d < n →
    f_X5_placeIn_L10 j (nI r) (nI w) (nI l.length) K n (nI i) μ = K (nI k) μ := by
  have hw30 := hw w (List.mem_of_getElem? hk)
  have hkl := (List.getElem?_eq_some_iff.mp hk).1
  intro d
  induction d with
  | zero =>
    intro n i hi hd
    obtain ⟨n, rfl⟩ : ∃ n', n = n' + 1 := ⟨n - 1, by omega⟩
    rw [Nat.add_zero] at hi
    subst hi
    have hni : ¬ l.length ≤ i := by omega
    rw [f_X5_placeIn_L10]
    simp (disch := omega) only [q_n6b, q_lt, q_bd, q_gdi, q_cl, q_add, q_mul, ↓reduceIte, nI_eq, nI_leI, nI_ltI, z_l0, z_l1, z_l2, z_l3, z_l4, z_l5, z_l6, z_l7, z_l8, z_l9, z_l10, z_l11, z_l12, z_l13, z_l14, z_l15, z_l16, z_l17, z_l18, z_l19, z_l20, z_l21, z_l22, z_l23, z_l240, z_l270, z_l24, z_l30, z_l31, z_l32, z_l33, z_l40, z_l48, z_l57, z_l59, z_l60, z_l65, z_l80, z_l97, z_l112, z_l113, z_l114, z_l116, z_l119, z_l126, z_l255, z_l300, z_l330, z_l331, z_l332, z_l450, z_l500, z_l530, z_l531, z_l560, z_l999, z_l1000, z_l2000, z_l2800, z_l5000, hni, c.2 i w hk]
  | succ d ih =>
    intro n i hi hd
    obtain ⟨n, rfl⟩ : ∃ n', n = n' + 1 := ⟨n - 1, by omega⟩
    have hni : ¬ l.length ≤ i := by omega
    obtain ⟨v, hv⟩ : ∃ v, l[i]? = some v := ⟨_, List.getElem?_eq_getElem (by omega)⟩
    have hv30 := hw v (List.mem_of_getElem? hv)
    have hne : ¬ v = w := by
      rintro rfl
      have := nd_inj hn hv hk
      omega
    rw [f_X5_placeIn_L10]
    simp (disch := omega) only [q_n6b, q_lt, q_bd, q_gdi, q_cl, q_add, q_mul, ↓reduceIte, nI_eq, nI_leI, nI_ltI, z_l0, z_l1, z_l2, z_l3, z_l4, z_l5, z_l6, z_l7, z_l8, z_l9, z_l10, z_l11, z_l12, z_l13, z_l14, z_l15, z_l16, z_l17, z_l18, z_l19, z_l20, z_l21, z_l22, z_l23, z_l240, z_l270, z_l24, z_l30, z_l31, z_l32, z_l33, z_l40, z_l48, z_l57, z_l59, z_l60, z_l65, z_l80, z_l97, z_l112, z_l113, z_l114, z_l116, z_l119, z_l126, z_l255, z_l300, z_l330, z_l331, z_l332, z_l450, z_l500, z_l530, z_l531, z_l560, z_l999, z_l1000, z_l2000, z_l2800, z_l5000, hni, c.2 i v hv, hne]
    exact ih n (i + 1) (by omega) (by omega)
theorem k_place_out {j r : Nat} {μ : mT} {l : List Nat} (h : r < 9) (c : cRow μ j r l) (hl : l.length ≤ 30) (hw : ∀ w ∈ l, w < 30) {K : Int32 → mT → Option (Int32 × mT)} {a : Int32} (hk : ∀ w ∈ l, ¬ nI w = a) : ∀ (d n i : Nat), i + d = l.length → d < n →
    f_X5_placeIn_L10 j (nI r) a (nI l.length) K n (nI i) μ = some (-6, μ) := by
  intro d
  induction d with
  | zero =>
    intro n i hi hd
    obtain ⟨n, rfl⟩ : ∃ n', n = n' + 1 := ⟨n - 1, by omega⟩
    rw [f_X5_placeIn_L10, if_pos (nI_le (by omega) (by omega))]
  | succ d ih =>
    intro n i hi hd
    obtain ⟨n, rfl⟩ : ∃ n', n = n' + 1 := ⟨n - 1, by omega⟩
    have hni : ¬ l.length ≤ i := by omega
    obtain ⟨v, hv⟩ : ∃ v, l[i]? = some v := ⟨_, List.getElem?_eq_getElem (by omega)⟩
    have hv30 := hw v (List.mem_of_getElem? hv)
    have hne := hk v (List.mem_of_getElem? hv)
    rw [f_X5_placeIn_L10]
    simp (disch := omega) only [q_n6b, q_lt, q_bd, q_gdi, q_cl, q_add, q_mul, ↓reduceIte, nI_eq, nI_leI, nI_ltI, z_l0, z_l1, z_l2, z_l3, z_l4, z_l5, z_l6, z_l7, z_l8, z_l9, z_l10, z_l11, z_l12, z_l13, z_l14, z_l15, z_l16, z_l17, z_l18, z_l19, z_l20, z_l21, z_l22, z_l23, z_l240, z_l270, z_l24, z_l30, z_l31, z_l32, z_l33, z_l40, z_l48, z_l57, z_l59, z_l60, z_l65, z_l80, z_l97, z_l112, z_l113, z_l114, z_l116, z_l119, z_l126, z_l255, z_l300, z_l330, z_l331, z_l332, z_l450, z_l500, z_l530, z_l531, z_l560, z_l999, z_l1000, z_l2000, z_l2800, z_l5000, hni, c.2 i v hv, hne]
    exact ih n (i + 1) (by omega) (by omega)
theorem k_placeIn {j r w : Nat} {μ : mT} {d : List Nat} (h : r < 9) (c : cRow μ j r (cw r d)) (hl : d.length ≤ 30) (hw : ∀ w ∈ d, w < 30) (hn : d.Nodup) (hw30 : w < 2147483648) : f_X5_placeIn j (nI r) (nI w) μ = some (plc d w, μ) := by
  unfold f_X5_placeIn
  have hw' : ∀ w ∈ cw r d, w < 30 := fun w hh => hw w (cw_mem.mp hh)
  have hl' : (cw r d).length ≤ 30 := by rw [cw_len]; exact hl
  simp (disch := omega) only [q_lt, q_gdi, q_cl, c.1, z_l0]
  cases e : idx w d with
  | none =>
    rw [k_place_out h c hl' hw' (a := nI w) (fun v hv q => ?_) _ fu 0 (Nat.zero_add _) (by unfold fu; omega), plc_out (idx_none e)]
    rw [nI_eq (by have := hw' v hv; omega) hw30] at q
    subst q
    exact idx_none e (cw_mem.mp hv)
  | some p =>
    have hp := idx_some e
    have hpl := (List.getElem?_eq_some_iff.mp hp).1
    rw [plc_at hn hp]
    by_cases h8 : r = 8
    · have hk : (cw r d)[p]? = some w := by unfold cw; rw [if_pos h8]; exact hp
      rw [k_place_in h c hl' hw' (cw_nd hn) hk p fu 0 (Nat.zero_add _) (by unfold fu; omega)]
      subst h8
      rfl
    · have hk : (cw r d)[d.length - 1 - p]? = some w := by
        unfold cw
        rw [if_neg h8, List.getElem?_reverse (by omega)]
        rw [show d.length - 1 - (d.length - 1 - p) = p by omega]
        exact hp
      rw [k_place_in h c hl' hw' (cw_nd hn) hk _ fu 0 (Nat.zero_add _) (by unfold fu; omega), if_neg, cw_len]
      · simp (disch := omega) only [z_l0, z_l1, z_l2, z_l3, z_l4, z_l5, z_l6, z_l7, z_l8, z_l9, z_l10, z_l11, z_l12, z_l13, z_l14, z_l15, z_l16, z_l17, z_l18, z_l19, z_l20, z_l21, z_l22, z_l23, z_l240, z_l270, z_l24, z_l30, z_l31, z_l32, z_l33, z_l40, z_l48, z_l57, z_l59, z_l60, z_l65, z_l80, z_l97, z_l112, z_l113, z_l114, z_l116, z_l119, z_l126, z_l255, z_l300, z_l330, z_l331, z_l332, z_l450, z_l500, z_l530, z_l531, z_l560, z_l999, z_l1000, z_l2000, z_l2800, z_l5000, q_sub]
        congr 3
        omega
      · rw [z_l8, nI_eq (by omega) (by omega)]
        exact h8
theorem k_placeIn_n6 {j r : Nat} {μ : mT} {d : List Nat} (h : r < 9) (c : cRow μ j r (cw r d)) (hl : d.length ≤ 30) (hw : ∀ w ∈ d, w < 30) : f_X5_placeIn j (nI r) (-6) μ = some (-6, μ) := by
  unfold f_X5_placeIn
  have hw' : ∀ w ∈ cw r d, w < 30 := fun w hh => hw w (cw_mem.mp hh)
  have hl' : (cw r d).length ≤ 30 := by rw [cw_len]; exact hl
  simp (disch := omega) only [q_lt, q_gdi, q_cl, c.1, z_l0]
  rw [k_place_out h c hl' hw' (a := -6) (fun v hv q => ?_) _ fu 0 (Nat.zero_add _) (by unfold fu; omega)]
  exact q_n6 (by have := hw' v hv; omega) q
def cRows (μ : mT) (j : Nat) (rw : Nat → List Nat) : Prop := ∀ r, r < 9 → cRow μ j r (cw r (rw r))
def rOK (rw : Nat → List Nat) : Prop := ∀ r, r < 9 → (rw r).length ≤ 30 ∧ (∀ w ∈ rw r, w < 30) ∧ (rw r).Nodup
theorem k_rowOf_in {j w r : Nat} {μ : mT} {rw : Nat → List Nat} (c : cRows μ j rw) (ho : rOK rw) (hr : r < 9) (hw : w ∈ rw r) (hu : ∀ r', r' < r → w ∉ rw r') : ∀ (d n i : Nat), i + d = r → d < n →
    f_X5_rowOf_L2 j (nI w) n (nI i) μ = some (nI r, μ) := by
  intro d
  have hw30 := (ho r hr).2.1 w hw
  induction d with
  | zero =>
    intro n i hi hd
    obtain ⟨n, rfl⟩ : ∃ n', n = n' + 1 := ⟨n - 1, by omega⟩
    rw [Nat.add_zero] at hi
    subst hi
    obtain ⟨p, hp⟩ := List.getElem?_of_mem hw
    have hpl := (List.getElem?_eq_some_iff.mp hp).1
    have h30 := (ho i hr).1
    have hni : ¬ 9 ≤ i := by omega
    rw [f_X5_rowOf_L2, k_placeIn hr (c i hr) h30 (ho i hr).2.1 (ho i hr).2.2 (by omega), plc_at (ho i hr).2.2 hp]
    simp (disch := omega) only [q_n6b, q_lt, q_bd, q_gdi, q_cl, q_add, q_mul, ↓reduceIte, nI_eq, nI_leI, nI_ltI, z_l0, z_l1, z_l2, z_l3, z_l4, z_l5, z_l6, z_l7, z_l8, z_l9, z_l10, z_l11, z_l12, z_l13, z_l14, z_l15, z_l16, z_l17, z_l18, z_l19, z_l20, z_l21, z_l22, z_l23, z_l240, z_l270, z_l24, z_l30, z_l31, z_l32, z_l33, z_l40, z_l48, z_l57, z_l59, z_l60, z_l65, z_l80, z_l97, z_l112, z_l113, z_l114, z_l116, z_l119, z_l126, z_l255, z_l300, z_l330, z_l331, z_l332, z_l450, z_l500, z_l530, z_l531, z_l560, z_l999, z_l1000, z_l2000, z_l2800, z_l5000, hni, q_n6]
  | succ d ih =>
    intro n i hi hd
    obtain ⟨n, rfl⟩ : ∃ n', n = n' + 1 := ⟨n - 1, by omega⟩
    have hni : ¬ 9 ≤ i := by omega
    rw [f_X5_rowOf_L2, k_placeIn (by omega) (c i (by omega)) (ho i (by omega)).1 (ho i (by omega)).2.1 (ho i (by omega)).2.2 (by omega), plc_out (hu i (by omega))]
    simp (disch := omega) only [q_n6b, q_lt, q_bd, q_gdi, q_cl, q_add, q_mul, ↓reduceIte, nI_eq, nI_leI, nI_ltI, z_l0, z_l1, z_l2, z_l3, z_l4, z_l5, z_l6, z_l7, z_l8, z_l9, z_l10, z_l11, z_l12, z_l13, z_l14, z_l15, z_l16, z_l17, z_l18, z_l19, z_l20, z_l21, z_l22, z_l23, z_l240, z_l270, z_l24, z_l30, z_l31, z_l32, z_l33, z_l40, z_l48, z_l57, z_l59, z_l60, z_l65, z_l80, z_l97, z_l112, z_l113, z_l114, z_l116, z_l119, z_l126, z_l255, z_l300, z_l330, z_l331, z_l332, z_l450, z_l500, z_l530, z_l531, z_l560, z_l999, z_l1000, z_l2000, z_l2800, z_l5000, hni]
    exact ih n (i + 1) (by omega) (by omega)
theorem k_rowOf_out {j w : Nat} {μ : mT} {rw : Nat → List Nat} (c : cRows μ j rw) (ho : rOK rw) (hw : w < 2147483648) (hu : ∀ r', r' < 9 → w ∉ rw r') : ∀ (d n i : Nat), i + d = 9 → d < n →
    f_X5_rowOf_L2 j (nI w) n (nI i) μ = some (-6, μ) := by
  intro d
  induction d with
  | zero =>
    intro n i hi hd
    obtain ⟨n, rfl⟩ : ∃ n', n = n' + 1 := ⟨n - 1, by omega⟩
    rw [f_X5_rowOf_L2, if_pos]
    rw [z_l9]
    exact nI_le (by omega) (by omega)
  | succ d ih =>
    intro n i hi hd
    obtain ⟨n, rfl⟩ : ∃ n', n = n' + 1 := ⟨n - 1, by omega⟩
    have hni : ¬ 9 ≤ i := by omega
    rw [f_X5_rowOf_L2, k_placeIn (by omega) (c i (by omega)) (ho i (by omega)).1 (ho i (by omega)).2.1 (ho i (by omega)).2.2 (by omega), plc_out (hu i (by omega))]
    simp (disch := omega) only [q_n6b, q_lt, q_bd, q_gdi, q_cl, q_add, q_mul, ↓reduceIte, nI_eq, nI_leI, nI_ltI, z_l0, z_l1, z_l2, z_l3, z_l4, z_l5, z_l6, z_l7, z_l8, z_l9, z_l10, z_l11, z_l12, z_l13, z_l14, z_l15, z_l16, z_l17, z_l18, z_l19, z_l20, z_l21, z_l22, z_l23, z_l240, z_l270, z_l24, z_l30, z_l31, z_l32, z_l33, z_l40, z_l48, z_l57, z_l59, z_l60, z_l65, z_l80, z_l97, z_l112, z_l113, z_l114, z_l116, z_l119, z_l126, z_l255, z_l300, z_l330, z_l331, z_l332, z_l450, z_l500, z_l530, z_l531, z_l560, z_l999, z_l1000, z_l2000, z_l2800, z_l5000, hni]
    exact ih n (i + 1) (by omega) (by omega)
theorem k_rowOf_n6 {j : Nat} {μ : mT} {rw : Nat → List Nat} (c : cRows μ j rw) (ho : rOK rw) : ∀ (d n i : Nat), i + d = 9 → d < n →
    f_X5_rowOf_L2 j (-6) n (nI i) μ = some (-6, μ) := by
  intro d
  induction d with
  | zero =>
    intro n i hi hd
    obtain ⟨n, rfl⟩ : ∃ n', n = n' + 1 := ⟨n - 1, by omega⟩
    rw [f_X5_rowOf_L2, if_pos]
    rw [z_l9]
    exact nI_le (by omega) (by omega)
  | succ d ih =>
    intro n i hi hd
    obtain ⟨n, rfl⟩ : ∃ n', n = n' + 1 := ⟨n - 1, by omega⟩
    have hni : ¬ 9 ≤ i := by omega
    rw [f_X5_rowOf_L2, k_placeIn_n6 (by omega) (c i (by omega)) (ho i (by omega)).1 (ho i (by omega)).2.1]
    simp (disch := omega) only [q_n6b, q_lt, q_bd, q_gdi, q_cl, q_add, q_mul, ↓reduceIte, nI_eq, nI_leI, nI_ltI, z_l0, z_l1, z_l2, z_l3, z_l4, z_l5, z_l6, z_l7, z_l8, z_l9, z_l10, z_l11, z_l12, z_l13, z_l14, z_l15, z_l16, z_l17, z_l18, z_l19, z_l20, z_l21, z_l22, z_l23, z_l240, z_l270, z_l24, z_l30, z_l31, z_l32, z_l33, z_l40, z_l48, z_l57, z_l59, z_l60, z_l65, z_l80, z_l97, z_l112, z_l113, z_l114, z_l116, z_l119, z_l126, z_l255, z_l300, z_l330, z_l331, z_l332, z_l450, z_l500, z_l530, z_l531, z_l560, z_l999, z_l1000, z_l2000, z_l2800, z_l5000, hni]
    exact ih n (i + 1) (by omega) (by omega)
def rFind (rw : Nat → List Nat) (w : Nat) : Nat → Nat → Option Nat
  | 0, _ => none
  | n + 1, r => if w ∈ rw r then some r else rFind rw w n (r + 1)
theorem rFind_some {rw : Nat → List Nat} {w : Nat} : ∀ {n r k : Nat}, rFind rw w n r = some k → r ≤ k ∧ k < r + n ∧ w ∈ rw k ∧ ∀ r', r ≤ r' → r' < k → w ∉ rw r'
  | 0, r, k, h => by cases h
  | n + 1, r, k, h => by
    unfold rFind at h
    split at h
    · cases h
      exact ⟨Nat.le_refl _, by omega, by assumption, fun r' h1 h2 => by omega⟩
    · obtain ⟨a, b, c, d⟩ := rFind_some h
      refine ⟨by omega, by omega, c, fun r' h1 h2 => ?_⟩
      by_cases e : r' = r
      · subst e; assumption
      · exact d r' (by omega) h2
theorem rFind_none {rw : Nat → List Nat} {w : Nat} : ∀ {n r : Nat}, rFind rw w n r = none → ∀ r', r ≤ r' → r' < r + n → w ∉ rw r'
  | 0, r, h => fun r' h1 h2 => by omega
  | n + 1, r, h => fun r' h1 h2 => by
    unfold rFind at h
    split at h
    · cases h
    · by_cases e : r' = r
      · subst e; assumption
      · exact rFind_none h r' (by omega) (by omega)
/-- the row of a wagon (8: the engine), as the class tells it -/
def rOf (rw : Nat → List Nat) (w : Nat) : Int32 := match rFind rw w 9 0 with
  | some r => nI r
  | none => -6
theorem k_rowOf {j w : Nat} {μ : mT} {rw : Nat → List Nat} (c : cRows μ j rw) (ho : rOK rw) (hw : w < 2147483648) : f_X5_rowOf j (nI w) μ = some (rOf rw w, μ) := by
  unfold f_X5_rowOf rOf
  cases e : rFind rw w 9 0 with
  | none => exact k_rowOf_out c ho hw (fun r' h => rFind_none e r' (Nat.zero_le _) (by omega)) 9 fu 0 rfl (by unfold fu; omega)
  | some r =>
    obtain ⟨a, b, h1, h2⟩ := rFind_some e
    exact k_rowOf_in c ho (by omega) h1 (fun r' h => h2 r' (Nat.zero_le _) h) r fu 0 (Nat.zero_add _) (by unfold fu; omega)
theorem k_rowOfN {j : Nat} {μ : mT} {rw : Nat → List Nat} (c : cRows μ j rw) (ho : rOK rw) : f_X5_rowOf j (-6) μ = some (-6, μ) := by
  unfold f_X5_rowOf
  exact k_rowOf_n6 c ho 9 fu 0 rfl (by unfold fu; omega)
def atN (d : List Nat) (p : Nat) : Int32 := match d[p]? with
  | some w => nI w
  | none => -6
theorem k_wagonAt {j r p : Nat} {μ : mT} {d : List Nat} (h : r < 9) (c : cRow μ j r (cw r d)) (hl : d.length ≤ 30) (hp : p < 2147483648) : f_X5_wagonAt j (nI r) (nI p) μ = some (atN d p, μ) := by
  unfold f_X5_wagonAt atN
  have h0 : ¬ p < 0 := Nat.not_lt_zero p
  by_cases hpl : p < d.length
  · obtain ⟨w, hw⟩ : ∃ w, d[p]? = some w := ⟨_, List.getElem?_eq_getElem hpl⟩
    simp (disch := omega) only [q_n6b, q_lt, q_bd, q_gdi, q_cl, q_add, q_mul, ↓reduceIte, nI_eq, nI_leI, nI_ltI, z_l0, z_l1, z_l2, z_l3, z_l4, z_l5, z_l6, z_l7, z_l8, z_l9, z_l10, z_l11, z_l12, z_l13, z_l14, z_l15, z_l16, z_l17, z_l18, z_l19, z_l20, z_l21, z_l22, z_l23, z_l240, z_l270, z_l24, z_l30, z_l31, z_l32, z_l33, z_l40, z_l48, z_l57, z_l59, z_l60, z_l65, z_l80, z_l97, z_l112, z_l113, z_l114, z_l116, z_l119, z_l126, z_l255, z_l300, z_l330, z_l331, z_l332, z_l450, z_l500, z_l530, z_l531, z_l560, z_l999, z_l1000, z_l2000, z_l2800, z_l5000, c.1, cw_len, h0, hpl, hw]
    by_cases h8 : r = 8
    · have hk : (cw r d)[p]? = some w := by unfold cw; rw [if_pos h8]; exact hw
      simp (disch := omega) only [q_n6b, q_lt, q_bd, q_gdi, q_cl, q_add, q_mul, ↓reduceIte, nI_eq, nI_leI, nI_ltI, z_l0, z_l1, z_l2, z_l3, z_l4, z_l5, z_l6, z_l7, z_l8, z_l9, z_l10, z_l11, z_l12, z_l13, z_l14, z_l15, z_l16, z_l17, z_l18, z_l19, z_l20, z_l21, z_l22, z_l23, z_l240, z_l270, z_l24, z_l30, z_l31, z_l32, z_l33, z_l40, z_l48, z_l57, z_l59, z_l60, z_l65, z_l80, z_l97, z_l112, z_l113, z_l114, z_l116, z_l119, z_l126, z_l255, z_l300, z_l330, z_l331, z_l332, z_l450, z_l500, z_l530, z_l531, z_l560, z_l999, z_l1000, z_l2000, z_l2800, z_l5000, h8]
      subst h8
      rw [c.2 p w hk]
    · have hk : (cw r d)[d.length - 1 - p]? = some w := by
        unfold cw
        rw [if_neg h8, List.getElem?_reverse (by omega)]
        rw [show d.length - 1 - (d.length - 1 - p) = p by omega]
        exact hw
      simp (disch := omega) only [q_n6b, q_lt, q_bd, q_gdi, q_cl, q_add, q_mul, ↓reduceIte, nI_eq, nI_leI, nI_ltI, z_l0, z_l1, z_l2, z_l3, z_l4, z_l5, z_l6, z_l7, z_l8, z_l9, z_l10, z_l11, z_l12, z_l13, z_l14, z_l15, z_l16, z_l17, z_l18, z_l19, z_l20, z_l21, z_l22, z_l23, z_l240, z_l270, z_l24, z_l30, z_l31, z_l32, z_l33, z_l40, z_l48, z_l57, z_l59, z_l60, z_l65, z_l80, z_l97, z_l112, z_l113, z_l114, z_l116, z_l119, z_l126, z_l255, z_l300, z_l330, z_l331, z_l332, z_l450, z_l500, z_l530, z_l531, z_l560, z_l999, z_l1000, z_l2000, z_l2800, z_l5000, h8, q_sub]
      rw [c.2 _ w hk]
  · simp (disch := omega) only [q_n6b, q_lt, q_bd, q_gdi, q_cl, q_add, q_mul, ↓reduceIte, nI_eq, nI_leI, nI_ltI, z_l0, z_l1, z_l2, z_l3, z_l4, z_l5, z_l6, z_l7, z_l8, z_l9, z_l10, z_l11, z_l12, z_l13, z_l14, z_l15, z_l16, z_l17, z_l18, z_l19, z_l20, z_l21, z_l22, z_l23, z_l240, z_l270, z_l24, z_l30, z_l31, z_l32, z_l33, z_l40, z_l48, z_l57, z_l59, z_l60, z_l65, z_l80, z_l97, z_l112, z_l113, z_l114, z_l116, z_l119, z_l126, z_l255, z_l300, z_l330, z_l331, z_l332, z_l450, z_l500, z_l530, z_l531, z_l560, z_l999, z_l1000, z_l2000, z_l2800, z_l5000, c.1, cw_len, h0, hpl, List.getElem?_eq_none (Nat.le_of_not_lt hpl)]
theorem k_wagonAt_neg {j : Nat} {a p : Int32} {μ : mT} (hp : p < 0) : f_X5_wagonAt j a p μ = some (-6, μ) := by
  unfold f_X5_wagonAt
  rw [if_pos hp]
theorem k_lenWagon {j w n : Nat} {μ : mT} (hn : μ 1 j 0 = nI n) (hn30 : n ≤ 30) (hw : w < n) : f_X5_lengthOfWagon j (nI w) μ = some (μ 8 j w, μ) := by
  unfold f_X5_lengthOfWagon
  have h0 : ¬ w < 0 := Nat.not_lt_zero w
  have h1 : ¬ n ≤ w := by omega
  simp (disch := omega) only [q_n6b, q_lt, q_bd, q_gdi, q_cl, q_add, q_mul, ↓reduceIte, nI_eq, nI_leI, nI_ltI, z_l0, z_l1, z_l2, z_l3, z_l4, z_l5, z_l6, z_l7, z_l8, z_l9, z_l10, z_l11, z_l12, z_l13, z_l14, z_l15, z_l16, z_l17, z_l18, z_l19, z_l20, z_l21, z_l22, z_l23, z_l240, z_l270, z_l24, z_l30, z_l31, z_l32, z_l33, z_l40, z_l48, z_l57, z_l59, z_l60, z_l65, z_l80, z_l97, z_l112, z_l113, z_l114, z_l116, z_l119, z_l126, z_l255, z_l300, z_l330, z_l331, z_l332, z_l450, z_l500, z_l530, z_l531, z_l560, z_l999, z_l1000, z_l2000, z_l2800, z_l5000, hn, h0, h1]
theorem q_uple {μ μ' : mT} {κ j k : Nat} {x : Int32} (e : μ' = upM μ κ j k x) : only μ μ' (fun κ' j' => κ' = κ ∧ j' = j) := by
  subst e
  exact fun κ' j' z => q_upn z
theorem k_note {j m : Nat} {l : List Nat} (hl : l.length ≤ 30) (hw : ∀ w ∈ l, w < 30) (hn : l.Nodup) (hm : m ≤ l.length) : ∀ (d n i : Nat) (μ : mT), i + d = m → d < n → cRow μ j 8 l →
    ∃ μ', f_X5_notePulled_L16 j (nI m) (nI (240 + l.length) - nI 1) n (nI i) μ = some (0, μ') ∧ (∀ v, μ' 10 j v = if v ∈ (l.drop (l.length - m)).take d then μ 10 j v + 1 else μ 10 j v) ∧ only μ μ' (fun κ j' => κ = 10 ∧ j' = j) := by
  intro d
  induction d with
  | zero =>
    intro n i μ hi hd c
    obtain ⟨n, rfl⟩ : ∃ n', n = n' + 1 := ⟨n - 1, by omega⟩
    refine ⟨μ, ?_, fun v => by simp, only.rf⟩
    rw [f_X5_notePulled_L16, if_pos (nI_le (by omega) (by omega))]
  | succ d ih =>
    intro n i μ hi hd c
    obtain ⟨n, rfl⟩ : ∃ n', n = n' + 1 := ⟨n - 1, by omega⟩
    have hni : ¬ m ≤ i := by omega
    have hni2 : ¬ l.length ≤ i := by omega
    obtain ⟨w, hwi⟩ : ∃ w, l[l.length - 1 - i]? = some w := ⟨_, List.getElem?_eq_getElem (by omega)⟩
    have hw1 := c.2 _ w hwi
    have hw30 := hw w (List.mem_of_getElem? hwi)
    have e1 : nI (240 + l.length) - nI 1 - nI i = nI (8 * 30 + (l.length - 1 - i)) := by
      rw [q_sub (by omega), q_sub (by omega)]
      congr 1
      omega
    rw [f_X5_notePulled_L16]
    simp (disch := omega) only [q_n6b, q_lt, q_bd, q_gdi, q_cl, q_add, q_mul, ↓reduceIte, nI_eq, nI_leI, nI_ltI, z_l0, z_l1, z_l2, z_l3, z_l4, z_l5, z_l6, z_l7, z_l8, z_l9, z_l10, z_l11, z_l12, z_l13, z_l14, z_l15, z_l16, z_l17, z_l18, z_l19, z_l20, z_l21, z_l22, z_l23, z_l240, z_l270, z_l24, z_l30, z_l31, z_l32, z_l33, z_l40, z_l48, z_l57, z_l59, z_l60, z_l65, z_l80, z_l97, z_l112, z_l113, z_l114, z_l116, z_l119, z_l126, z_l255, z_l300, z_l330, z_l331, z_l332, z_l450, z_l500, z_l530, z_l531, z_l560, z_l999, z_l1000, z_l2000, z_l2800, z_l5000, c.1, hni, hni2, e1, hw1]
    generalize hμ : upM μ 10 j w (μ 10 j w + nI 1) = μ1
    have ho : only μ μ1 (fun κ j' => κ = 10 ∧ j' = j) := q_uple hμ.symm
    obtain ⟨μ', g1, g2, g3⟩ := ih n (i + 1) μ1 (by omega) (by omega) (c.cong (ho 11 j (by omega)) (ho 12 j (by omega)))
    refine ⟨μ', g1, fun v => ?_, ho.tr g3⟩
    have e2 : (l.drop (l.length - m))[d]? = some w := by
      rw [List.getElem?_drop]
      rw [show l.length - m + d = l.length - 1 - i by omega]
      exact hwi
    have hnd : ((l.drop (l.length - m)).take (d + 1)).Nodup := (List.Nodup.sublist (List.take_sublist _ _) (List.Nodup.sublist (List.drop_sublist _ _) hn))
    rw [List.take_succ, e2] at hnd ⊢
    rw [g2 v, ← hμ]
    simp only [q_up, Nat.reduceEqDiff, false_and, and_false, true_and, and_true, ↓reduceIte, Option.toList_some, List.mem_append, List.mem_singleton]
    by_cases e : v = w
    · subst e
      have : v ∉ (l.drop (l.length - m)).take d := by
        intro q
        rw [List.nodup_append] at hnd
        exact hnd.2.2 v q v (by simp) rfl
      simp [this, z_l1]
    · simp [e, z_l1]
theorem k_notePulled {j m : Nat} {l : List Nat} {μ : mT} (hl : l.length ≤ 30) (hw : ∀ w ∈ l, w < 30) (hn : l.Nodup) (hm : m ≤ l.length) (c : cRow μ j 8 l) :
    ∃ μ', f_X5_notePulled j (nI m) μ = some (0, μ') ∧ (∀ v, μ' 10 j v = if v ∈ l.drop (l.length - m) then μ 10 j v + 1 else μ 10 j v) ∧ only μ μ' (fun κ j' => κ = 10 ∧ j' = j) := by
  obtain ⟨μ', g1, g2, g3⟩ := k_note (j := j) hl hw hn hm m fu 0 μ (by omega) (by unfold fu; omega) c
  refine ⟨μ', ?_, fun v => ?_, g3⟩
  · unfold f_X5_notePulled
    rw [← g1]
    simp (disch := omega) only [q_n6b, q_lt, q_bd, q_gdi, q_cl, q_add, q_mul, ↓reduceIte, nI_eq, nI_leI, nI_ltI, z_l0, z_l1, z_l2, z_l3, z_l4, z_l5, z_l6, z_l7, z_l8, z_l9, z_l10, z_l11, z_l12, z_l13, z_l14, z_l15, z_l16, z_l17, z_l18, z_l19, z_l20, z_l21, z_l22, z_l23, z_l240, z_l270, z_l24, z_l30, z_l31, z_l32, z_l33, z_l40, z_l48, z_l57, z_l59, z_l60, z_l65, z_l80, z_l97, z_l112, z_l113, z_l114, z_l116, z_l119, z_l126, z_l255, z_l300, z_l330, z_l331, z_l332, z_l450, z_l500, z_l530, z_l531, z_l560, z_l999, z_l1000, z_l2000, z_l2800, z_l5000, c.1]
  · rw [g2 v, List.take_of_length_le (by simp; omega)]
def turnF (l : List Nat) (i k : Nat) : Nat := if k < i ∨ l.length ≤ k + i then l.getD (l.length - 1 - k) 0 else l.getD k 0
theorem k_turn {j : Nat} {l : List Nat} (hl : l.length ≤ 30) : ∀ (d n i : Nat) (μ : mT), i + d = l.length / 2 → d < n → μ 11 j 8 = nI l.length → (∀ k, k < l.length → μ 12 j (240 + k) = nI (turnF l i k)) →
    ∃ μ', f_X5_turnEngine_L18 j (nI (240 + l.length) - nI 1) n (nI i) μ = some (0, μ') ∧ (∀ k, k < l.length → μ' 12 j (240 + k) = nI (turnF l (l.length / 2) k)) ∧ (∀ x, x < 240 → μ' 12 j x = μ 12 j x) ∧ only μ μ' (fun κ j' => κ = 12 ∧ j' = j) := by
  intro d
  induction d with
  | zero =>
    intro n i μ hi hd h8 c
    obtain ⟨n, rfl⟩ : ∃ n', n = n' + 1 := ⟨n - 1, by omega⟩
    refine ⟨μ, ?_, fun k hk => ?_, fun _ _ => rfl, only.rf⟩
    · rw [f_X5_turnEngine_L18]
      have : l.length / 2 ≤ i := by omega
      simp (disch := omega) only [q_n6b, q_lt, q_bd, q_gdi, q_cl, q_add, q_mul, ↓reduceIte, nI_eq, nI_leI, nI_ltI, z_l0, z_l1, z_l2, z_l3, z_l4, z_l5, z_l6, z_l7, z_l8, z_l9, z_l10, z_l11, z_l12, z_l13, z_l14, z_l15, z_l16, z_l17, z_l18, z_l19, z_l20, z_l21, z_l22, z_l23, z_l240, z_l270, z_l24, z_l30, z_l31, z_l32, z_l33, z_l40, z_l48, z_l57, z_l59, z_l60, z_l65, z_l80, z_l97, z_l112, z_l113, z_l114, z_l116, z_l119, z_l126, z_l255, z_l300, z_l330, z_l331, z_l332, z_l450, z_l500, z_l530, z_l531, z_l560, z_l999, z_l1000, z_l2000, z_l2800, z_l5000, h8, q_div, this]
    · rw [c k hk, show i = l.length / 2 by omega]
  | succ d ih =>
    intro n i μ hi hd h8 c
    obtain ⟨n, rfl⟩ : ∃ n', n = n' + 1 := ⟨n - 1, by omega⟩
    have hni : ¬ l.length / 2 ≤ i := by omega
    have e1 : nI (240 + l.length) - nI 1 - nI i = nI (240 + (l.length - 1 - i)) := by
      rw [q_sub (by omega), q_sub (by omega)]
      congr 1
      omega
    have ca := c i (by omega)
    have cb := c (l.length - 1 - i) (by omega)
    rw [f_X5_turnEngine_L18]
    simp (disch := omega) only [q_n6b, q_lt, q_bd, q_gdi, q_cl, q_add, q_mul, ↓reduceIte, nI_eq, nI_leI, nI_ltI, z_l0, z_l1, z_l2, z_l3, z_l4, z_l5, z_l6, z_l7, z_l8, z_l9, z_l10, z_l11, z_l12, z_l13, z_l14, z_l15, z_l16, z_l17, z_l18, z_l19, z_l20, z_l21, z_l22, z_l23, z_l240, z_l270, z_l24, z_l30, z_l31, z_l32, z_l33, z_l40, z_l48, z_l57, z_l59, z_l60, z_l65, z_l80, z_l97, z_l112, z_l113, z_l114, z_l116, z_l119, z_l126, z_l255, z_l300, z_l330, z_l331, z_l332, z_l450, z_l500, z_l530, z_l531, z_l560, z_l999, z_l1000, z_l2000, z_l2800, z_l5000, h8, q_div, hni, e1, ca, cb]
    generalize hμ : upM (upM μ 12 j (240 + i) (nI (turnF l i (l.length - 1 - i)))) 12 j (240 + (l.length - 1 - i)) (nI (turnF l i i)) = μ1
    have ho : only μ μ1 (fun κ j' => κ = 12 ∧ j' = j) := (q_uple rfl).tr (q_uple hμ.symm)
    have k0 : ∀ x, μ1 12 j x = if x = 240 + (l.length - 1 - i) then nI (turnF l i i) else if x = 240 + i then nI (turnF l i (l.length - 1 - i)) else μ 12 j x := by
      intro x
      rw [← hμ]
      simp only [q_up, Nat.reduceEqDiff, false_and, and_false, true_and, and_true, ↓reduceIte]
    obtain ⟨μ', g1, g2, g3, g4⟩ := ih n (i + 1) μ1 (by omega) (by omega) (by rw [ho 11 j (by omega)]; exact h8) (fun k hk => by
      rw [k0]
      by_cases e : k = l.length - 1 - i
      · subst e
        rw [if_pos rfl]
        unfold turnF
        rw [if_neg (by omega), if_pos (by omega)]
        congr 2
        omega
      · rw [if_neg (by omega)]
        by_cases e' : k = i
        · subst e'
          rw [if_pos rfl]
          unfold turnF
          rw [if_neg (by omega), if_pos (by omega)]
        · rw [if_neg (by omega), c k hk]
          unfold turnF
          by_cases hh : k < i ∨ l.length ≤ k + i
          · rw [if_pos hh, if_pos (by omega)]
          · rw [if_neg hh, if_neg (by omega)])
    refine ⟨μ', g1, g2, fun x hx => ?_, ho.tr g4⟩
    rw [g3 x hx, k0, if_neg (by omega), if_neg (by omega)]
theorem k_turnEngine {j : Nat} {l : List Nat} {μ : mT} (hl : l.length ≤ 30) (c : cRow μ j 8 l) :
    ∃ μ', f_X5_turnEngine j μ = some (0, μ') ∧ cRow μ' j 8 l.reverse ∧ (∀ r d, r < 8 → d.length ≤ 30 → cRow μ j r d → cRow μ' j r d) ∧ only μ μ' (fun κ j' => κ = 12 ∧ j' = j) := by
  obtain ⟨μ', g1, g2, g3, g4⟩ := k_turn (j := j) hl (l.length / 2) fu 0 μ (by omega) (by unfold fu; omega) c.1 (fun k hk => by
    rw [show 240 + k = 8 * 30 + k by omega, c.2 k _ (List.getElem?_eq_getElem hk)]
    unfold turnF
    rw [if_neg (by omega), List.getD_eq_getElem?_getD, List.getElem?_eq_getElem hk]
    rfl)
  refine ⟨μ', ?_, ⟨?_, fun i w hi => ?_⟩, fun r d hr hd cr => ⟨?_, fun i w hi => ?_⟩, g4⟩
  · unfold f_X5_turnEngine
    rw [← g1]
    simp (disch := omega) only [q_n6b, q_lt, q_bd, q_gdi, q_cl, q_add, q_mul, ↓reduceIte, nI_eq, nI_leI, nI_ltI, z_l0, z_l1, z_l2, z_l3, z_l4, z_l5, z_l6, z_l7, z_l8, z_l9, z_l10, z_l11, z_l12, z_l13, z_l14, z_l15, z_l16, z_l17, z_l18, z_l19, z_l20, z_l21, z_l22, z_l23, z_l240, z_l270, z_l24, z_l30, z_l31, z_l32, z_l33, z_l40, z_l48, z_l57, z_l59, z_l60, z_l65, z_l80, z_l97, z_l112, z_l113, z_l114, z_l116, z_l119, z_l126, z_l255, z_l300, z_l330, z_l331, z_l332, z_l450, z_l500, z_l530, z_l531, z_l560, z_l999, z_l1000, z_l2000, z_l2800, z_l5000, c.1]
  · rw [g4 11 j (by omega), c.1, List.length_reverse]
  · have hil := (List.getElem?_eq_some_iff.mp hi).1
    rw [List.length_reverse] at hil
    rw [List.getElem?_reverse hil] at hi
    rw [show 8 * 30 + i = 240 + i by omega, g2 i hil]
    unfold turnF
    by_cases hh : i < l.length / 2 ∨ l.length ≤ i + l.length / 2
    · rw [if_pos hh, List.getD_eq_getElem?_getD, hi]
      rfl
    · rw [if_neg hh, List.getD_eq_getElem?_getD, show i = l.length - 1 - i by omega, hi]
      rfl
  · rw [g4 11 j (by omega)]
    exact cr.1
  · have hil := (List.getElem?_eq_some_iff.mp hi).1
    rw [g3 _ (by omega)]
    exact cr.2 i w hi
theorem k_leaves {j : Nat} {l : List Nat} {a : Int32} (hl : l.length ≤ 30) (hw : ∀ w ∈ l, w < 30) {K : mT → Option (Int32 × mT)} : ∀ (d n i : Nat) (μ : mT), i + d = l.length → d < n → cRow μ j 8 l →
    ∃ μ', f_X5_engineLeaves_L10 j a (nI l.length) K n (nI i) μ = K μ' ∧ (∀ v, μ' 9 j v = if v ∈ l.drop i then a else μ 9 j v) ∧ only μ μ' (fun κ j' => κ = 9 ∧ j' = j) := by
  intro d
  induction d with
  | zero =>
    intro n i μ hi hd c
    obtain ⟨n, rfl⟩ : ∃ n', n = n' + 1 := ⟨n - 1, by omega⟩
    refine ⟨μ, ?_, fun v => by rw [List.drop_eq_nil_of_le (by omega)]; simp, only.rf⟩
    rw [f_X5_engineLeaves_L10, if_pos (nI_le (by omega) (by omega))]
  | succ d ih =>
    intro n i μ hi hd c
    obtain ⟨n, rfl⟩ : ∃ n', n = n' + 1 := ⟨n - 1, by omega⟩
    have hni : ¬ l.length ≤ i := by omega
    obtain ⟨w, hwi⟩ : ∃ w, l[i]? = some w := ⟨_, List.getElem?_eq_getElem (by omega)⟩
    have hw1 : μ 12 j (240 + i) = nI w := c.2 _ w hwi
    have hw30 := hw w (List.mem_of_getElem? hwi)
    rw [f_X5_engineLeaves_L10]
    simp (disch := omega) only [q_n6b, q_lt, q_bd, q_gdi, q_cl, q_add, q_mul, ↓reduceIte, nI_eq, nI_leI, nI_ltI, z_l0, z_l1, z_l2, z_l3, z_l4, z_l5, z_l6, z_l7, z_l8, z_l9, z_l10, z_l11, z_l12, z_l13, z_l14, z_l15, z_l16, z_l17, z_l18, z_l19, z_l20, z_l21, z_l22, z_l23, z_l240, z_l270, z_l24, z_l30, z_l31, z_l32, z_l33, z_l40, z_l48, z_l57, z_l59, z_l60, z_l65, z_l80, z_l97, z_l112, z_l113, z_l114, z_l116, z_l119, z_l126, z_l255, z_l300, z_l330, z_l331, z_l332, z_l450, z_l500, z_l530, z_l531, z_l560, z_l999, z_l1000, z_l2000, z_l2800, z_l5000, hni, hw1]
    generalize hμ : upM μ 9 j w a = μ1
    have ho : only μ μ1 (fun κ j' => κ = 9 ∧ j' = j) := q_uple hμ.symm
    obtain ⟨μ', g1, g2, g3⟩ := ih n (i + 1) μ1 (by omega) (by omega) (c.cong (ho 11 j (by omega)) (ho 12 j (by omega)))
    refine ⟨μ', g1, fun v => ?_, ho.tr g3⟩
    rw [g2 v, drop_cons_of hwi, ← hμ]
    simp only [q_up, Nat.reduceEqDiff, false_and, and_false, true_and, and_true, ↓reduceIte, List.mem_cons]
    by_cases e : v = w
    · simp [e]
    · simp [e]
theorem k_engineLeaves {j : Nat} {l : List Nat} {a : Int32} {μ : mT} (hl : l.length ≤ 30) (hw : ∀ w ∈ l, w < 30) (c : cRow μ j 8 l) :
    ∃ μ', f_X5_engineLeaves j a μ = some (0, μ') ∧ (∀ v, μ' 9 j v = if v ∈ l then a else μ 9 j v) ∧ cRow μ' j 8 [] ∧ (∀ r d, r < 8 → cRow μ j r d → cRow μ' j r d) ∧ μ' 1 j 0 = μ 1 j 0 ∧ μ' 1 j 1 = μ 1 j 1 + nI l.length ∧ only μ μ' (fun κ j' => (κ = 9 ∨ κ = 1 ∨ κ = 11) ∧ j' = j) := by
  obtain ⟨μ1, g1, g2, g3⟩ := k_leaves (j := j) (a := a) hl hw (K := fun μ5 => lt (upM μ5 1 j 1 ((μ5 1 j 1) + nI l.length)) (fun μ6 => lt (upM μ6 11 j (8 : Int32).toNatClampNeg 0) (fun μ7 => some (0, μ7)))) l.length fu 0 μ (by omega) (by unfold fu; omega) c
  refine ⟨upM (upM μ1 1 j 1 (μ1 1 j 1 + nI l.length)) 11 j 8 0, ?_, fun v => ?_, ⟨?_, fun i w hi => by simp at hi⟩, fun r d hr cr => ⟨?_, fun i w hi => ?_⟩, ?_, ?_, ?_⟩
  · unfold f_X5_engineLeaves
    simp (disch := omega) only [q_n6b, q_lt, q_bd, q_gdi, q_cl, q_add, q_mul, ↓reduceIte, nI_eq, nI_leI, nI_ltI, z_l0, z_l1, z_l2, z_l3, z_l4, z_l5, z_l6, z_l7, z_l8, z_l9, z_l10, z_l11, z_l12, z_l13, z_l14, z_l15, z_l16, z_l17, z_l18, z_l19, z_l20, z_l21, z_l22, z_l23, z_l240, z_l270, z_l24, z_l30, z_l31, z_l32, z_l33, z_l40, z_l48, z_l57, z_l59, z_l60, z_l65, z_l80, z_l97, z_l112, z_l113, z_l114, z_l116, z_l119, z_l126, z_l255, z_l300, z_l330, z_l331, z_l332, z_l450, z_l500, z_l530, z_l531, z_l560, z_l999, z_l1000, z_l2000, z_l2800, z_l5000, c.1] at g1 ⊢
    exact g1
  · rw [q_upn (by omega), q_upn (by omega), g2 v]
    rfl
  · simp [q_up]
    rfl
  · simp only [q_up, Nat.reduceEqDiff, false_and, and_false, true_and, and_true, ↓reduceIte]
    rw [if_neg (by omega), g3 11 j (by omega)]
    exact cr.1
  · simp only [q_up, Nat.reduceEqDiff, false_and, and_false, true_and, and_true, ↓reduceIte]
    rw [g3 12 j (by omega)]
    exact cr.2 i w hi
  · simp only [q_up, Nat.reduceEqDiff, false_and, and_false, true_and, and_true, ↓reduceIte]
    rw [g3 1 j (by omega)]
  · simp only [q_up, Nat.reduceEqDiff, false_and, and_false, true_and, and_true, ↓reduceIte]
    rw [g3 1 j (by omega)]
  · refine (g3.w (by omega)).tr (only.tr ((q_uple rfl).w (by omega)) ((q_uple rfl).w (by omega)))
theorem k_wadd {j r n : Nat} {x : Int32} {l : List Nat} {μ : mT} (hr : r < 9) (hn : μ 1 j 0 = nI n) (hn30 : n < 30) (hl : l.length < 30) (c : cRow μ j r l) :
    ∃ μ', f_X5_add j (nI r) x μ = some (nI n, μ') ∧ cRow μ' j r (l ++ [n]) ∧ (∀ r' d, r' < 9 → r' ≠ r → d.length ≤ 30 → cRow μ j r' d → cRow μ' j r' d) ∧ μ' 1 j 0 = nI (n + 1) ∧ μ' 1 j 1 = μ 1 j 1 ∧ (∀ v, μ' 8 j v = if v = n then x else μ 8 j v) ∧ only μ μ' (fun κ j' => (κ = 1 ∨ κ = 8 ∨ κ = 11 ∨ κ = 12) ∧ j' = j) := by
  refine ⟨upM (upM (upM (upM μ 8 j n x) 12 j (r * 30 + l.length) (nI n)) 11 j r (nI (l.length + 1))) 1 j 0 (nI (n + 1)), ?_, ⟨?_, fun i w hi => ?_⟩, fun r' d hr' hne hd cr => ⟨?_, fun i w hi => ?_⟩, ?_, ?_, fun v => ?_, ?_⟩
  · unfold f_X5_add
    have hs : nI (n + 1) - nI 1 = nI n := q_sub (a := n + 1) (b := 1) (by omega)
    simp (disch := omega) only [q_n6b, q_lt, q_bd, q_gdi, q_cl, q_add, q_mul, ↓reduceIte, nI_eq, nI_leI, nI_ltI, z_l0, z_l1, z_l2, z_l3, z_l4, z_l5, z_l6, z_l7, z_l8, z_l9, z_l10, z_l11, z_l12, z_l13, z_l14, z_l15, z_l16, z_l17, z_l18, z_l19, z_l20, z_l21, z_l22, z_l23, z_l240, z_l270, z_l24, z_l30, z_l31, z_l32, z_l33, z_l40, z_l48, z_l57, z_l59, z_l60, z_l65, z_l80, z_l97, z_l112, z_l113, z_l114, z_l116, z_l119, z_l126, z_l255, z_l300, z_l330, z_l331, z_l332, z_l450, z_l500, z_l530, z_l531, z_l560, z_l999, z_l1000, z_l2000, z_l2800, z_l5000, hn, c.1, q_up, Nat.reduceEqDiff, false_and, and_false, true_and, and_true, ↓reduceIte, hs]
  · simp [q_up]
  · simp only [q_up, Nat.reduceEqDiff, false_and, and_false, true_and, and_true, ↓reduceIte]
    by_cases e : i = l.length
    · subst e
      simp at hi
      simp [hi]
    · have hil := (List.getElem?_eq_some_iff.mp hi).1
      simp at hil
      rw [List.getElem?_append_left (by omega)] at hi
      rw [if_neg (by omega)]
      exact c.2 i w hi
  · simp only [q_up, Nat.reduceEqDiff, false_and, and_false, true_and, and_true, ↓reduceIte]
    rw [if_neg hne]
    exact cr.1
  · have hil := (List.getElem?_eq_some_iff.mp hi).1
    simp only [q_up, Nat.reduceEqDiff, false_and, and_false, true_and, and_true, ↓reduceIte]
    rw [if_neg (by omega)]
    exact cr.2 i w hi
  · simp [q_up]
  · simp [q_up]
  · simp only [q_up, Nat.reduceEqDiff, false_and, and_false, true_and, and_true, ↓reduceIte]
  · refine only.tr ((q_uple rfl).w (by omega)) (only.tr ((q_uple rfl).w (by omega)) (only.tr ((q_uple rfl).w (by omega)) ((q_uple rfl).w (by omega))))
def cB (μ : mT) (j : Nat) (bl : List (Int32 × Int32)) : Prop := μ 2 j 0 = nI bl.length ∧ ∀ i b, bl[i]? = some b → μ 13 j i = b.1 ∧ μ 14 j i = b.2
theorem cB.cong {μ μ' : mT} {j : Nat} {bl : List (Int32 × Int32)} (h : cB μ j bl) (h1 : μ' 2 j = μ 2 j) (h2 : μ' 13 j = μ 13 j) (h3 : μ' 14 j = μ 14 j) : cB μ' j bl := by
  unfold cB
  rw [h1, h2, h3]
  exact h
def ob (m t : Int32) (b : Int32 × Int32) : Int32 := if t + m ≤ b.1 then t else if b.2 ≤ t then t else b.2
def pas (m t : Int32) (bl : List (Int32 × Int32)) : Int32 := bl.foldl (ob m) t
def pasN (m : Int32) (bl : List (Int32 × Int32)) : Nat → Int32 → Int32
  | 0, t => t
  | n + 1, t => pasN m bl n (pas m t bl)
def free (m : Int32) (bl : List (Int32 × Int32)) (t : Int32) : Int32 := pasN m bl bl.length t
theorem drop_cons_of' {α : Type} {l : List α} {i : Nat} {w : α} (h : l[i]? = some w) : l.drop i = w :: l.drop (i + 1) := by
  obtain ⟨h1, h2⟩ := List.getElem?_eq_some_iff.mp h
  rw [← h2]
  exact List.drop_eq_getElem_cons h1
theorem k_ff1 {j : Nat} {m v2 : Int32} {bl : List (Int32 × Int32)} {μ : mT} (c : cB μ j bl) (hl : bl.length ≤ 10) {K : Int32 → mT → Option (Int32 × mT)} : ∀ (d n i : Nat) (t : Int32), i + d = bl.length → d < n →
    f_X0_firstFree_L17 j m v2 K n t (nI i) μ = K ((bl.drop i).foldl (ob m) t) μ := by
  intro d
  induction d with
  | zero =>
    intro n i t hi hd
    obtain ⟨n, rfl⟩ : ∃ n', n = n' + 1 := ⟨n - 1, by omega⟩
    rw [f_X0_firstFree_L17, if_pos (by rw [c.1]; exact nI_le (by omega) (by omega)), List.drop_eq_nil_of_le (by omega)]
    rfl
  | succ d ih =>
    intro n i t hi hd
    obtain ⟨n, rfl⟩ : ∃ n', n = n' + 1 := ⟨n - 1, by omega⟩
    have hni : ¬ bl.length ≤ i := by omega
    obtain ⟨b, hb⟩ : ∃ b, bl[i]? = some b := ⟨_, List.getElem?_eq_getElem (by omega)⟩
    obtain ⟨b1, b2⟩ := c.2 i b hb
    rw [f_X0_firstFree_L17, drop_cons_of' hb, List.foldl_cons]
    simp (disch := omega) only [q_n6b, q_lt, q_bd, q_gdi, q_cl, q_add, q_mul, ↓reduceIte, nI_eq, nI_leI, nI_ltI, z_l0, z_l1, z_l2, z_l3, z_l4, z_l5, z_l6, z_l7, z_l8, z_l9, z_l10, z_l11, z_l12, z_l13, z_l14, z_l15, z_l16, z_l17, z_l18, z_l19, z_l20, z_l21, z_l22, z_l23, z_l240, z_l270, z_l24, z_l30, z_l31, z_l32, z_l33, z_l40, z_l48, z_l57, z_l59, z_l60, z_l65, z_l80, z_l97, z_l112, z_l113, z_l114, z_l116, z_l119, z_l126, z_l255, z_l300, z_l330, z_l331, z_l332, z_l450, z_l500, z_l530, z_l531, z_l560, z_l999, z_l1000, z_l2000, z_l2800, z_l5000, c.1, hni, b1, b2]
    by_cases e1 : t + m ≤ b.1
    · rw [if_pos e1, ih n (i + 1) _ (by omega) (by omega)]
      unfold ob
      rw [if_pos e1]
    · rw [if_neg e1]
      by_cases e2 : b.2 ≤ t
      · rw [if_pos e2, ih n (i + 1) _ (by omega) (by omega)]
        unfold ob
        rw [if_neg e1, if_pos e2]
      · rw [if_neg e2, ih n (i + 1) _ (by omega) (by omega)]
        unfold ob
        rw [if_neg e1, if_neg e2]
theorem k_ff2 {j : Nat} {m : Int32} {bl : List (Int32 × Int32)} {μ : mT} (c : cB μ j bl) (hl : bl.length ≤ 10) : ∀ (d n i : Nat) (t : Int32), i + d = bl.length → d < n →
    f_X0_firstFree_L5 j m n t (nI i) μ = some (pasN m bl d t, μ) := by
  intro d
  induction d with
  | zero =>
    intro n i t hi hd
    obtain ⟨n, rfl⟩ : ∃ n', n = n' + 1 := ⟨n - 1, by omega⟩
    rw [f_X0_firstFree_L5, if_pos (by rw [c.1]; exact nI_le (by omega) (by omega))]
    rfl
  | succ d ih =>
    intro n i t hi hd
    obtain ⟨n, rfl⟩ : ∃ n', n = n' + 1 := ⟨n - 1, by omega⟩
    have hni : ¬ bl.length ≤ i := by omega
    rw [f_X0_firstFree_L5]
    simp (disch := omega) only [q_n6b, q_lt, q_bd, q_gdi, q_cl, q_add, q_mul, ↓reduceIte, nI_eq, nI_leI, nI_ltI, z_l0, z_l1, z_l2, z_l3, z_l4, z_l5, z_l6, z_l7, z_l8, z_l9, z_l10, z_l11, z_l12, z_l13, z_l14, z_l15, z_l16, z_l17, z_l18, z_l19, z_l20, z_l21, z_l22, z_l23, z_l240, z_l270, z_l24, z_l30, z_l31, z_l32, z_l33, z_l40, z_l48, z_l57, z_l59, z_l60, z_l65, z_l80, z_l97, z_l112, z_l113, z_l114, z_l116, z_l119, z_l126, z_l255, z_l300, z_l330, z_l331, z_l332, z_l450, z_l500, z_l530, z_l531, z_l560, z_l999, z_l1000, z_l2000, z_l2800, z_l5000, c.1, hni]
    rw [k_ff1 c hl bl.length fu 0 t (by omega) (by unfold fu; omega), ih n (i + 1) _ (by omega) (by omega)]
    rfl
theorem k_firstFree {j : Nat} {m t : Int32} {bl : List (Int32 × Int32)} {μ : mT} (c : cB μ j bl) (hl : bl.length ≤ 10) : f_X0_firstFree j t m μ = some (free m bl t, μ) := by
  unfold f_X0_firstFree
  exact k_ff2 c hl bl.length fu 0 t (by omega) (by unfold fu; omega)
theorem k_badd {j : Nat} {x y : Int32} {bl : List (Int32 × Int32)} {μ : mT} (c : cB μ j bl) (hl : bl.length < 10) :
    ∃ μ', f_X0_add j x y μ = some (nI (bl.length + 1), μ') ∧ cB μ' j (bl ++ [(x, y)]) ∧ only μ μ' (fun κ j' => (κ = 2 ∨ κ = 13 ∨ κ = 14) ∧ j' = j) := by
  refine ⟨upM (upM (upM μ 13 j bl.length x) 14 j bl.length y) 2 j 0 (nI (bl.length + 1)), ?_, ⟨?_, fun i b hi => ?_⟩, only.tr ((q_uple rfl).w (by omega)) (only.tr ((q_uple rfl).w (by omega)) ((q_uple rfl).w (by omega)))⟩
  · unfold f_X0_add
    simp (disch := omega) only [q_n6b, q_lt, q_bd, q_gdi, q_cl, q_add, q_mul, ↓reduceIte, nI_eq, nI_leI, nI_ltI, z_l0, z_l1, z_l2, z_l3, z_l4, z_l5, z_l6, z_l7, z_l8, z_l9, z_l10, z_l11, z_l12, z_l13, z_l14, z_l15, z_l16, z_l17, z_l18, z_l19, z_l20, z_l21, z_l22, z_l23, z_l240, z_l270, z_l24, z_l30, z_l31, z_l32, z_l33, z_l40, z_l48, z_l57, z_l59, z_l60, z_l65, z_l80, z_l97, z_l112, z_l113, z_l114, z_l116, z_l119, z_l126, z_l255, z_l300, z_l330, z_l331, z_l332, z_l450, z_l500, z_l530, z_l531, z_l560, z_l999, z_l1000, z_l2000, z_l2800, z_l5000, c.1, q_up, Nat.reduceEqDiff, false_and, and_false, true_and, and_true, ↓reduceIte]
  · simp [q_up]
  · simp only [q_up, Nat.reduceEqDiff, false_and, and_false, true_and, and_true, ↓reduceIte]
    by_cases e : i = bl.length
    · subst e
      simp at hi
      simp [← hi]
    · have hil := (List.getElem?_eq_some_iff.mp hi).1
      simp at hil
      rw [List.getElem?_append_left (by omega)] at hi
      rw [if_neg (by omega), if_neg (by omega)]
      exact c.2 i b hi
def kp (t : Int32) (b : Int32 × Int32) : Bool := !decide (b.2 ≤ t)
theorem k_drop {j : Nat} {t : Int32} {bl : List (Int32 × Int32)} (hl : bl.length ≤ 10) : ∀ (d n i : Nat) (μ : mT) (kl : List (Int32 × Int32)), i + d = bl.length → d < n → kl.length ≤ i → μ 2 j 0 = nI bl.length → (∀ k b, kl[k]? = some b → μ 13 j k = b.1 ∧ μ 14 j k = b.2) → (∀ k b, i ≤ k → bl[k]? = some b → μ 13 j k = b.1 ∧ μ 14 j k = b.2) →
    ∃ μ', f_X0_dropEnded_L4 j t n (nI kl.length) (nI i) μ = some (0, μ') ∧ cB μ' j (kl ++ (bl.drop i).filter (kp t)) ∧ only μ μ' (fun κ j' => (κ = 2 ∨ κ = 13 ∨ κ = 14) ∧ j' = j) := by
  intro d
  induction d with
  | zero =>
    intro n i μ kl hi hd hk h2 c1 c2
    obtain ⟨n, rfl⟩ : ∃ n', n = n' + 1 := ⟨n - 1, by omega⟩
    refine ⟨upM μ 2 j 0 (nI kl.length), ?_, ⟨?_, fun k b hkb => ?_⟩, (q_uple rfl).w (by omega)⟩
    · rw [f_X0_dropEnded_L4, if_pos (by rw [h2]; exact nI_le (by omega) (by omega))]
      rfl
    · rw [List.drop_eq_nil_of_le (by omega)]
      simp [q_up]
    · rw [List.drop_eq_nil_of_le (by omega)] at hkb
      simp at hkb
      simp only [q_up, Nat.reduceEqDiff, false_and, and_false, true_and, and_true, ↓reduceIte]
      exact c1 k b hkb
  | succ d ih =>
    intro n i μ kl hi hd hk h2 c1 c2
    obtain ⟨n, rfl⟩ : ∃ n', n = n' + 1 := ⟨n - 1, by omega⟩
    have hni : ¬ bl.length ≤ i := by omega
    obtain ⟨b, hb⟩ : ∃ b, bl[i]? = some b := ⟨_, List.getElem?_eq_getElem (by omega)⟩
    obtain ⟨b1, b2⟩ := c2 i b (Nat.le_refl _) hb
    rw [f_X0_dropEnded_L4, drop_cons_of' hb, List.filter_cons]
    simp (disch := omega) only [q_n6b, q_lt, q_bd, q_gdi, q_cl, q_add, q_mul, ↓reduceIte, nI_eq, nI_leI, nI_ltI, z_l0, z_l1, z_l2, z_l3, z_l4, z_l5, z_l6, z_l7, z_l8, z_l9, z_l10, z_l11, z_l12, z_l13, z_l14, z_l15, z_l16, z_l17, z_l18, z_l19, z_l20, z_l21, z_l22, z_l23, z_l240, z_l270, z_l24, z_l30, z_l31, z_l32, z_l33, z_l40, z_l48, z_l57, z_l59, z_l60, z_l65, z_l80, z_l97, z_l112, z_l113, z_l114, z_l116, z_l119, z_l126, z_l255, z_l300, z_l330, z_l331, z_l332, z_l450, z_l500, z_l530, z_l531, z_l560, z_l999, z_l1000, z_l2000, z_l2800, z_l5000, h2, hni, b1, b2]
    by_cases e : b.2 ≤ t
    · rw [if_pos e, if_neg (by simp [kp, e])]
      exact ih n (i + 1) μ kl (by omega) (by omega) (by omega) h2 c1 (fun k b hk => c2 k b (by omega))
    · rw [if_neg e, if_pos (by simp [kp, e])]
      simp only [q_up, Nat.reduceEqDiff, false_and, and_false, true_and, and_true, ↓reduceIte, b2]
      generalize hμ : upM (upM μ 13 j kl.length b.1) 14 j kl.length b.2 = μ1
      have ho : only μ μ1 (fun κ j' => (κ = 2 ∨ κ = 13 ∨ κ = 14) ∧ j' = j) := by
        rw [← hμ]
        exact only.tr ((q_uple rfl).w (by omega)) ((q_uple rfl).w (by omega))
      obtain ⟨μ', g1, g2, g3⟩ := ih n (i + 1) μ1 (kl ++ [b]) (by omega) (by omega) (by simp; omega) (by rw [← hμ]; simp [q_up, h2]) (fun k b' hkb => by
        rw [← hμ]
        simp only [q_up, Nat.reduceEqDiff, false_and, and_false, true_and, and_true, ↓reduceIte]
        by_cases e' : k = kl.length
        · subst e'
          simp at hkb
          simp [hkb]
        · have hil := (List.getElem?_eq_some_iff.mp hkb).1
          simp at hil
          rw [List.getElem?_append_left (by omega)] at hkb
          rw [if_neg (by omega), if_neg (by omega)]
          exact c1 k b' hkb) (fun k b' hk' hkb => by
        rw [← hμ]
        simp only [q_up, Nat.reduceEqDiff, false_and, and_false, true_and, and_true, ↓reduceIte]
        rw [if_neg (by omega), if_neg (by omega)]
        exact c2 k b' (by omega) hkb)
      refine ⟨μ', ?_, ?_, ho.tr g3⟩
      · rw [List.length_append] at g1
        exact g1
      · simpa using g2
theorem k_dropEnded {j : Nat} {t : Int32} {bl : List (Int32 × Int32)} {μ : mT} (hl : bl.length ≤ 10) (c : cB μ j bl) :
    ∃ μ', f_X0_dropEnded j t μ = some (0, μ') ∧ cB μ' j (bl.filter (kp t)) ∧ only μ μ' (fun κ j' => (κ = 2 ∨ κ = 13 ∨ κ = 14) ∧ j' = j) := by
  obtain ⟨μ', g1, g2, g3⟩ := k_drop (j := j) (t := t) hl bl.length fu 0 μ [] (by omega) (by unfold fu; omega) (Nat.le_refl _) c.1 (fun k b h => by simp at h) (fun k b _ h => c.2 k b h)
  exact ⟨μ', g1, by simpa using g2, g3⟩
def cE (μ : mT) (j t : Nat) (e : Int32 × List Nat) : Prop := μ 15 j t = e.1 ∧ μ 16 j t = nI e.2.length ∧ ∀ k w, e.2[k]? = some w → μ 17 j (t * 8 + k) = nI w
def cT (μ : mT) (j : Nat) (tn : List (Int32 × List Nat)) : Prop := μ 3 j 0 = nI tn.length ∧ ∀ t e, tn[t]? = some e → cE μ j t e
theorem cT.cong {μ μ' : mT} {j : Nat} {tn : List (Int32 × List Nat)} (h : cT μ j tn) (h1 : μ' 3 j = μ 3 j) (h2 : μ' 15 j = μ 15 j) (h3 : μ' 16 j = μ 16 j) (h4 : μ' 17 j = μ 17 j) : cT μ' j tn := by
  unfold cT cE
  rw [h1, h2, h3, h4]
  exact h
def tOK (tn : List (Int32 × List Nat)) : Prop := tn.length ≤ 8 ∧ ∀ (t : Nat) (e : Int32 × List Nat), tn[t]? = some e → 1 ≤ e.2.length ∧ e.2.length ≤ 8 ∧ e.2.Nodup ∧ ∀ w ∈ e.2, w < 30
theorem k_has_in {j t : Nat} {tn : List (Int32 × List Nat)} {μ : mT} (c : cT μ j tn) (hl : tn.length ≤ 8) (ht : t < tn.length) : f_X3_has j (nI t) μ = some (1, μ) := by
  unfold f_X3_has
  have h0 : ¬ t < 0 := Nat.not_lt_zero t
  have h1 : ¬ tn.length ≤ t := by omega
  simp (disch := omega) only [q_n6b, q_lt, q_bd, q_gdi, q_cl, q_add, q_mul, ↓reduceIte, nI_eq, nI_leI, nI_ltI, z_l0, z_l1, z_l2, z_l3, z_l4, z_l5, z_l6, z_l7, z_l8, z_l9, z_l10, z_l11, z_l12, z_l13, z_l14, z_l15, z_l16, z_l17, z_l18, z_l19, z_l20, z_l21, z_l22, z_l23, z_l240, z_l270, z_l24, z_l30, z_l31, z_l32, z_l33, z_l40, z_l48, z_l57, z_l59, z_l60, z_l65, z_l80, z_l97, z_l112, z_l113, z_l114, z_l116, z_l119, z_l126, z_l255, z_l300, z_l330, z_l331, z_l332, z_l450, z_l500, z_l530, z_l531, z_l560, z_l999, z_l1000, z_l2000, z_l2800, z_l5000, c.1, h0, h1]
theorem k_has_out {j : Nat} {a : Int32} {tn : List (Int32 × List Nat)} {μ : mT} (c : cT μ j tn) (hl : tn.length ≤ 8) (ht : ∀ t, t < tn.length → ¬ a = nI t) : f_X3_has j a μ = some (0, μ) := by
  unfold f_X3_has
  by_cases h0 : a < 0
  · rw [if_pos h0]
  · rw [if_neg h0, if_pos]
    obtain ⟨t, h1, rfl⟩ := nI_of h0
    rw [c.1]
    refine nI_le ?_ h1
    rcases Nat.lt_or_ge t tn.length with h | h
    · exact absurd rfl (ht t h)
    · exact h
theorem k_sizeOf {j t : Nat} {e : Int32 × List Nat} {tn : List (Int32 × List Nat)} {μ : mT} (c : cT μ j tn) (hl : tn.length ≤ 8) (ht : tn[t]? = some e) : f_X3_sizeOf j (nI t) μ = some (nI e.2.length, μ) := by
  have htl := (List.getElem?_eq_some_iff.mp ht).1
  unfold f_X3_sizeOf
  rw [k_has_in c hl htl]
  have h1 : ¬ (1 = 0) := by omega
  simp (disch := omega) only [q_n6b, q_lt, q_bd, q_gdi, q_cl, q_add, q_mul, ↓reduceIte, nI_eq, nI_leI, nI_ltI, z_l0, z_l1, z_l2, z_l3, z_l4, z_l5, z_l6, z_l7, z_l8, z_l9, z_l10, z_l11, z_l12, z_l13, z_l14, z_l15, z_l16, z_l17, z_l18, z_l19, z_l20, z_l21, z_l22, z_l23, z_l240, z_l270, z_l24, z_l30, z_l31, z_l32, z_l33, z_l40, z_l48, z_l57, z_l59, z_l60, z_l65, z_l80, z_l97, z_l112, z_l113, z_l114, z_l116, z_l119, z_l126, z_l255, z_l300, z_l330, z_l331, z_l332, z_l450, z_l500, z_l530, z_l531, z_l560, z_l999, z_l1000, z_l2000, z_l2800, z_l5000, (c.2 t e ht).2.1, h1]
theorem k_wagonOf {j t p : Nat} {e : Int32 × List Nat} {tn : List (Int32 × List Nat)} {μ : mT} (c : cT μ j tn) (hl : tn.length ≤ 8) (ht : tn[t]? = some e) (he : e.2.length ≤ 8) (hp : p < 2147483648) : f_X3_wagonOf j (nI t) (nI p) μ = some (atN e.2 p, μ) := by
  have htl := (List.getElem?_eq_some_iff.mp ht).1
  unfold f_X3_wagonOf atN
  rw [k_has_in c hl htl]
  have h1 : ¬ (1 = 0) := by omega
  have h0 : ¬ p < 0 := Nat.not_lt_zero p
  by_cases hpl : p < e.2.length
  · obtain ⟨w, hw⟩ : ∃ w, e.2[p]? = some w := ⟨_, List.getElem?_eq_getElem hpl⟩
    have h2 : ¬ e.2.length ≤ p := by omega
    simp (disch := omega) only [q_n6b, q_lt, q_bd, q_gdi, q_cl, q_add, q_mul, ↓reduceIte, nI_eq, nI_leI, nI_ltI, z_l0, z_l1, z_l2, z_l3, z_l4, z_l5, z_l6, z_l7, z_l8, z_l9, z_l10, z_l11, z_l12, z_l13, z_l14, z_l15, z_l16, z_l17, z_l18, z_l19, z_l20, z_l21, z_l22, z_l23, z_l240, z_l270, z_l24, z_l30, z_l31, z_l32, z_l33, z_l40, z_l48, z_l57, z_l59, z_l60, z_l65, z_l80, z_l97, z_l112, z_l113, z_l114, z_l116, z_l119, z_l126, z_l255, z_l300, z_l330, z_l331, z_l332, z_l450, z_l500, z_l530, z_l531, z_l560, z_l999, z_l1000, z_l2000, z_l2800, z_l5000, (c.2 t e ht).2.1, h1, h0, h2, hw, (c.2 t e ht).2.2 p w hw]
  · have h2 : e.2.length ≤ p := by omega
    simp (disch := omega) only [q_n6b, q_lt, q_bd, q_gdi, q_cl, q_add, q_mul, ↓reduceIte, nI_eq, nI_leI, nI_ltI, z_l0, z_l1, z_l2, z_l3, z_l4, z_l5, z_l6, z_l7, z_l8, z_l9, z_l10, z_l11, z_l12, z_l13, z_l14, z_l15, z_l16, z_l17, z_l18, z_l19, z_l20, z_l21, z_l22, z_l23, z_l240, z_l270, z_l24, z_l30, z_l31, z_l32, z_l33, z_l40, z_l48, z_l57, z_l59, z_l60, z_l65, z_l80, z_l97, z_l112, z_l113, z_l114, z_l116, z_l119, z_l126, z_l255, z_l300, z_l330, z_l331, z_l332, z_l450, z_l500, z_l530, z_l531, z_l560, z_l999, z_l1000, z_l2000, z_l2800, z_l5000, (c.2 t e ht).2.1, h1, h0, h2, List.getElem?_eq_none h2]
theorem k_to_in {j t w k : Nat} {e : Int32 × List Nat} {tn : List (Int32 × List Nat)} {μ : mT} (c : cT μ j tn) (ho : tOK tn) (ht : tn[t]? = some e) {K : mT → Option (Int32 × mT)} (hk : e.2[k]? = some w) : ∀ (d n i : Nat), i + d = k → d < n →
    f_X3_trainOf_L12 j (nI w) (nI t) K n (nI i) μ = some (nI t, μ) := by
  have htl := (List.getElem?_eq_some_iff.mp ht).1
  have htl8 := ho.1
  obtain ⟨o1, o2, o3, o4⟩ := ho.2 t e ht
  have hkl := (List.getElem?_eq_some_iff.mp hk).1
  have hw30 := o4 w (List.mem_of_getElem? hk)
  intro d
  induction d with
  | zero =>
    intro n i hi hd
    obtain ⟨n, rfl⟩ : ∃ n', n = n' + 1 := ⟨n - 1, by omega⟩
    rw [Nat.add_zero] at hi
    subst hi
    have hni : ¬ e.2.length ≤ i := by omega
    rw [f_X3_trainOf_L12]
    simp (disch := omega) only [q_n6b, q_lt, q_bd, q_gdi, q_cl, q_add, q_mul, ↓reduceIte, nI_eq, nI_leI, nI_ltI, z_l0, z_l1, z_l2, z_l3, z_l4, z_l5, z_l6, z_l7, z_l8, z_l9, z_l10, z_l11, z_l12, z_l13, z_l14, z_l15, z_l16, z_l17, z_l18, z_l19, z_l20, z_l21, z_l22, z_l23, z_l240, z_l270, z_l24, z_l30, z_l31, z_l32, z_l33, z_l40, z_l48, z_l57, z_l59, z_l60, z_l65, z_l80, z_l97, z_l112, z_l113, z_l114, z_l116, z_l119, z_l126, z_l255, z_l300, z_l330, z_l331, z_l332, z_l450, z_l500, z_l530, z_l531, z_l560, z_l999, z_l1000, z_l2000, z_l2800, z_l5000, (c.2 t e ht).2.1, hni, (c.2 t e ht).2.2 i w hk]
  | succ d ih =>
    intro n i hi hd
    obtain ⟨n, rfl⟩ : ∃ n', n = n' + 1 := ⟨n - 1, by omega⟩
    have hni : ¬ e.2.length ≤ i := by omega
    obtain ⟨v, hv⟩ : ∃ v, e.2[i]? = some v := ⟨_, List.getElem?_eq_getElem (by omega)⟩
    have hv30 := o4 v (List.mem_of_getElem? hv)
    have hne : ¬ v = w := by
      rintro rfl
      have := nd_inj o3 hv hk
      omega
    rw [f_X3_trainOf_L12]
    simp (disch := omega) only [q_n6b, q_lt, q_bd, q_gdi, q_cl, q_add, q_mul, ↓reduceIte, nI_eq, nI_leI, nI_ltI, z_l0, z_l1, z_l2, z_l3, z_l4, z_l5, z_l6, z_l7, z_l8, z_l9, z_l10, z_l11, z_l12, z_l13, z_l14, z_l15, z_l16, z_l17, z_l18, z_l19, z_l20, z_l21, z_l22, z_l23, z_l240, z_l270, z_l24, z_l30, z_l31, z_l32, z_l33, z_l40, z_l48, z_l57, z_l59, z_l60, z_l65, z_l80, z_l97, z_l112, z_l113, z_l114, z_l116, z_l119, z_l126, z_l255, z_l300, z_l330, z_l331, z_l332, z_l450, z_l500, z_l530, z_l531, z_l560, z_l999, z_l1000, z_l2000, z_l2800, z_l5000, (c.2 t e ht).2.1, hni, (c.2 t e ht).2.2 i v hv, hne]
    exact ih n (i + 1) (by omega) (by omega)
theorem k_to_out {j t w : Nat} {e : Int32 × List Nat} {tn : List (Int32 × List Nat)} {μ : mT} (c : cT μ j tn) (ho : tOK tn) (ht : tn[t]? = some e) {K : mT → Option (Int32 × mT)} (hw : w < 2147483648) (hk : w ∉ e.2) : ∀ (d n i : Nat), i + d = e.2.length → d < n →
    f_X3_trainOf_L12 j (nI w) (nI t) K n (nI i) μ = K μ := by
  have htl := (List.getElem?_eq_some_iff.mp ht).1
  have htl8 := ho.1
  obtain ⟨o1, o2, o3, o4⟩ := ho.2 t e ht
  intro d
  induction d with
  | zero =>
    intro n i hi hd
    obtain ⟨n, rfl⟩ : ∃ n', n = n' + 1 := ⟨n - 1, by omega⟩
    have hni : e.2.length ≤ i := by omega
    rw [f_X3_trainOf_L12]
    simp (disch := omega) only [q_n6b, q_lt, q_bd, q_gdi, q_cl, q_add, q_mul, ↓reduceIte, nI_eq, nI_leI, nI_ltI, z_l0, z_l1, z_l2, z_l3, z_l4, z_l5, z_l6, z_l7, z_l8, z_l9, z_l10, z_l11, z_l12, z_l13, z_l14, z_l15, z_l16, z_l17, z_l18, z_l19, z_l20, z_l21, z_l22, z_l23, z_l240, z_l270, z_l24, z_l30, z_l31, z_l32, z_l33, z_l40, z_l48, z_l57, z_l59, z_l60, z_l65, z_l80, z_l97, z_l112, z_l113, z_l114, z_l116, z_l119, z_l126, z_l255, z_l300, z_l330, z_l331, z_l332, z_l450, z_l500, z_l530, z_l531, z_l560, z_l999, z_l1000, z_l2000, z_l2800, z_l5000, (c.2 t e ht).2.1, hni]
  | succ d ih =>
    intro n i hi hd
    obtain ⟨n, rfl⟩ : ∃ n', n = n' + 1 := ⟨n - 1, by omega⟩
    have hni : ¬ e.2.length ≤ i := by omega
    obtain ⟨v, hv⟩ : ∃ v, e.2[i]? = some v := ⟨_, List.getElem?_eq_getElem (by omega)⟩
    have hv30 := o4 v (List.mem_of_getElem? hv)
    have hne : ¬ v = w := by
      rintro rfl
      exact hk (List.mem_of_getElem? hv)
    rw [f_X3_trainOf_L12]
    simp (disch := omega) only [q_n6b, q_lt, q_bd, q_gdi, q_cl, q_add, q_mul, ↓reduceIte, nI_eq, nI_leI, nI_ltI, z_l0, z_l1, z_l2, z_l3, z_l4, z_l5, z_l6, z_l7, z_l8, z_l9, z_l10, z_l11, z_l12, z_l13, z_l14, z_l15, z_l16, z_l17, z_l18, z_l19, z_l20, z_l21, z_l22, z_l23, z_l240, z_l270, z_l24, z_l30, z_l31, z_l32, z_l33, z_l40, z_l48, z_l57, z_l59, z_l60, z_l65, z_l80, z_l97, z_l112, z_l113, z_l114, z_l116, z_l119, z_l126, z_l255, z_l300, z_l330, z_l331, z_l332, z_l450, z_l500, z_l530, z_l531, z_l560, z_l999, z_l1000, z_l2000, z_l2800, z_l5000, (c.2 t e ht).2.1, hni, (c.2 t e ht).2.2 i v hv, hne]
    exact ih n (i + 1) (by omega) (by omega)
def tFind (w : Nat) : Nat → List (Int32 × List Nat) → Option Nat
  | _, [] => none
  | t, e :: l => if w ∈ e.2 then some t else tFind w (t + 1) l
/-- the train that waits for a wagon -/
def tOf (tn : List (Int32 × List Nat)) (w : Nat) : Int32 := match tFind w 0 tn with
  | some t => nI t
  | none => -6
theorem k_trainOf_L {j w : Nat} {tn : List (Int32 × List Nat)} {μ : mT} (c : cT μ j tn) (ho : tOK tn) (hw : w < 2147483648) : ∀ (d n i : Nat), i + d = tn.length → d < n →
    f_X3_trainOf_L2 j (nI w) n (nI i) μ = some ((match tFind w i (tn.drop i) with | some t => nI t | none => -6), μ) := by
  have htl8 := ho.1
  intro d
  induction d with
  | zero =>
    intro n i hi hd
    obtain ⟨n, rfl⟩ : ∃ n', n = n' + 1 := ⟨n - 1, by omega⟩
    rw [f_X3_trainOf_L2, if_pos (by rw [c.1]; exact nI_le (by omega) (by omega)), List.drop_eq_nil_of_le (by omega)]
    rfl
  | succ d ih =>
    intro n i hi hd
    obtain ⟨n, rfl⟩ : ∃ n', n = n' + 1 := ⟨n - 1, by omega⟩
    have hni : ¬ tn.length ≤ i := by omega
    obtain ⟨e, he⟩ : ∃ e, tn[i]? = some e := ⟨_, List.getElem?_eq_getElem (by omega)⟩
    obtain ⟨o1, o2, o3, o4⟩ := ho.2 i e he
    rw [f_X3_trainOf_L2, drop_cons_of' he]
    simp (disch := omega) only [q_n6b, q_lt, q_bd, q_gdi, q_cl, q_add, q_mul, ↓reduceIte, nI_eq, nI_leI, nI_ltI, z_l0, z_l1, z_l2, z_l3, z_l4, z_l5, z_l6, z_l7, z_l8, z_l9, z_l10, z_l11, z_l12, z_l13, z_l14, z_l15, z_l16, z_l17, z_l18, z_l19, z_l20, z_l21, z_l22, z_l23, z_l240, z_l270, z_l24, z_l30, z_l31, z_l32, z_l33, z_l40, z_l48, z_l57, z_l59, z_l60, z_l65, z_l80, z_l97, z_l112, z_l113, z_l114, z_l116, z_l119, z_l126, z_l255, z_l300, z_l330, z_l331, z_l332, z_l450, z_l500, z_l530, z_l531, z_l560, z_l999, z_l1000, z_l2000, z_l2800, z_l5000, c.1, hni]
    unfold tFind
    by_cases hm : w ∈ e.2
    · obtain ⟨k, hk⟩ := List.getElem?_of_mem hm
      have hkl := (List.getElem?_eq_some_iff.mp hk).1
      rw [if_pos hm, k_to_in c ho he hk k fu 0 (Nat.zero_add _) (by unfold fu; omega)]
    · rw [if_neg hm, k_to_out c ho he hw hm _ fu 0 (Nat.zero_add _) (by unfold fu; omega), ih n (i + 1) (by omega) (by omega)]
      rfl
theorem k_trainOf {j w : Nat} {tn : List (Int32 × List Nat)} {μ : mT} (c : cT μ j tn) (ho : tOK tn) (hw : w < 2147483648) : f_X3_trainOf j (nI w) μ = some (tOf tn w, μ) := by
  have htl8 := ho.1
  unfold f_X3_trainOf
  exact k_trainOf_L c ho hw tn.length fu 0 (by omega) (by unfold fu; omega)
theorem k_tadd {j : Nat} {x : Int32} {ws : List Nat} {tn : List (Int32 × List Nat)} {μ : mT} (c : cT μ j tn) (hl : tn.length < 8) (ho : tOK tn) (hw : ws.length ≤ 8) (h26 : ∀ k w, ws[k]? = some w → μ 26 0 k = nI w) :
    ∃ μ', f_X3_add j (nI ws.length) x μ = some (nI tn.length, μ') ∧ cT μ' j (tn ++ [(x, ws)]) ∧ only μ μ' (fun κ j' => (κ = 3 ∨ κ = 15 ∨ κ = 16 ∨ κ = 17) ∧ j' = j) := by
  generalize hμ3 : upR (upM (upM μ 15 j tn.length x) 16 j tn.length (nI ws.length)) 17 j (va_cpy ((upM (upM μ 15 j tn.length x) 16 j tn.length (nI ws.length)) 26 0) ((upM (upM μ 15 j tn.length x) 16 j tn.length (nI ws.length)) 17 j) 0 (tn.length * 8) ws.length) = μ3
  have ho3 : only μ μ3 (fun κ j' => (κ = 3 ∨ κ = 15 ∨ κ = 16 ∨ κ = 17) ∧ j' = j) := by
    rw [← hμ3]
    exact only.tr ((q_uple rfl).w (by omega)) (only.tr ((q_uple rfl).w (by omega)) (fun κ j' z => q_upr (by omega)))
  have e15 : μ3 15 j = upd (μ 15 j) tn.length x := by
    rw [← hμ3, q_upr (by omega), q_upn (by omega)]
    unfold upM
    rw [q_ups]
  have e16 : μ3 16 j = upd (μ 16 j) tn.length (nI ws.length) := by
    rw [← hμ3, q_upr (by omega)]
    unfold upM
    rw [q_ups, q_upr (by omega)]
  have e17 : μ3 17 j = va_cpy (μ 26 0) (μ 17 j) 0 (tn.length * 8) ws.length := by
    rw [← hμ3, q_ups, q_upn (by omega), q_upn (by omega), q_upn (by omega), q_upn (by omega)]
  have e3 : μ3 3 j = μ 3 j := by rw [← hμ3, q_upr (by omega), q_upn (by omega), q_upn (by omega)]
  refine ⟨upM μ3 3 j 0 (nI (tn.length + 1)), ?_, ⟨?_, fun t e ht => ?_⟩, ho3.tr ((q_uple rfl).w (by omega))⟩
  · unfold f_X3_add
    have hs : nI (tn.length + 1) - nI 1 = nI tn.length := q_sub (a := tn.length + 1) (b := 1) (by omega)
    have hck : cpk (nI 0) (nI (tn.length * 8)) (nI ws.length) 8 64 = true := by
      unfold cpk
      refine decide_eq_true ⟨⟨nI_pos (by omega), nI_pos (by omega)⟩, nI_pos (by omega), ?_, ?_⟩ <;>
        · rw [q_cl (by omega), q_cl (by omega)]
          omega
    have h3 : (upM (upM μ 15 j tn.length x) 16 j tn.length (nI ws.length)) 3 j 0 = nI tn.length := by
      rw [q_upn (by omega), q_upn (by omega)]
      exact c.1
    have h31 : (upM μ 15 j tn.length x) 3 j 0 = nI tn.length := by
      rw [q_upn (by omega)]
      exact c.1
    simp (disch := omega) only [q_n6b, q_lt, q_bd, q_gdi, q_cl, q_add, q_mul, ↓reduceIte, nI_eq, nI_leI, nI_ltI, z_l0, z_l1, z_l2, z_l3, z_l4, z_l5, z_l6, z_l7, z_l8, z_l9, z_l10, z_l11, z_l12, z_l13, z_l14, z_l15, z_l16, z_l17, z_l18, z_l19, z_l20, z_l21, z_l22, z_l23, z_l240, z_l270, z_l24, z_l30, z_l31, z_l32, z_l33, z_l40, z_l48, z_l57, z_l59, z_l60, z_l65, z_l80, z_l97, z_l112, z_l113, z_l114, z_l116, z_l119, z_l126, z_l255, z_l300, z_l330, z_l331, z_l332, z_l450, z_l500, z_l530, z_l531, z_l560, z_l999, z_l1000, z_l2000, z_l2800, z_l5000, c.1, h31, h3, q_gd hck, hμ3, e3]
    simp only [q_up, Nat.reduceEqDiff, false_and, and_false, true_and, and_true, ↓reduceIte, hs]
  · simp [q_up]
  · unfold cE
    rw [q_upn (by omega), q_upn (by omega), q_upn (by omega), e15, e16, e17]
    unfold upd va_cpy
    by_cases hl' : t = tn.length
    · subst hl'
      simp at ht
      subst ht
      refine ⟨if_pos rfl, if_pos rfl, fun k w hk => ?_⟩
      have hkl := (List.getElem?_eq_some_iff.mp hk).1
      dsimp only at hkl
      rw [if_pos (by omega)]
      rw [show 0 + (tn.length * 8 + k - tn.length * 8) = k by omega]
      exact h26 k w hk
    · have htl := (List.getElem?_eq_some_iff.mp ht).1
      simp at htl
      rw [List.getElem?_append_left (by omega)] at ht
      obtain ⟨a1, a2, a3⟩ := c.2 t e ht
      obtain ⟨o1, o2, o3, o4⟩ := ho.2 t e ht
      refine ⟨(if_neg hl').trans a1, (if_neg hl').trans a2, fun k w hk => ?_⟩
      have hkl := (List.getElem?_eq_some_iff.mp hk).1
      rw [if_neg (by omega)]
      exact a3 k w hk
theorem k_rem {j t : Nat} {tn : List (Int32 × List Nat)} (ho : tOK tn) (ht : t < tn.length) : ∀ (d n i : Nat) (μ : mT), i + d = tn.length - 1 → d < n → t ≤ i → μ 3 j 0 = nI (tn.length - 1) → (∀ k e, k < i → (tn.eraseIdx t)[k]? = some e → cE μ j k e) → (∀ k e, i ≤ k → tn[k]? = some e → (k = t → i ≠ t) → cE μ j k e) →
    ∃ μ', f_X3_remove_L12 j n (nI i) μ = some (0, μ') ∧ cT μ' j (tn.eraseIdx t) ∧ only μ μ' (fun κ j' => (κ = 3 ∨ κ = 15 ∨ κ = 16 ∨ κ = 17) ∧ j' = j) := by
  have htl8 := ho.1
  have hel : (tn.eraseIdx t).length = tn.length - 1 := List.length_eraseIdx_of_lt ht
  intro d
  induction d with
  | zero =>
    intro n i μ hi hd hti h3 c1 c2
    obtain ⟨n, rfl⟩ : ∃ n', n = n' + 1 := ⟨n - 1, by omega⟩
    refine ⟨μ, ?_, ⟨?_, fun k e hk => ?_⟩, only.rf⟩
    · rw [f_X3_remove_L12, if_pos (by rw [h3]; exact nI_le (by omega) (by omega))]
    · rw [hel]; exact h3
    · have hkl := (List.getElem?_eq_some_iff.mp hk).1
      exact c1 k e (by omega) hk
  | succ d ih =>
    intro n i μ hi hd hti h3 c1 c2
    obtain ⟨n, rfl⟩ : ∃ n', n = n' + 1 := ⟨n - 1, by omega⟩
    have hni : ¬ tn.length - 1 ≤ i := by omega
    obtain ⟨e, he⟩ : ∃ e, tn[i + 1]? = some e := ⟨_, List.getElem?_eq_getElem (by omega)⟩
    obtain ⟨a1, a2, a3⟩ := c2 (i + 1) e (by omega) he (by omega)
    obtain ⟨o1, o2, o3, o4⟩ := ho.2 (i + 1) e he
    have hck : cpk (nI ((i + 1) * 8)) (nI (i * 8)) (nI 8) 64 64 = true := by
      unfold cpk
      refine decide_eq_true ⟨⟨nI_pos (by omega), nI_pos (by omega)⟩, nI_pos (by omega), ?_, ?_⟩ <;>
        · rw [q_cl (by omega), q_cl (by omega)]
          omega
    rw [f_X3_remove_L12]
    simp (disch := omega) only [q_n6b, q_lt, q_bd, q_gdi, q_cl, q_add, q_mul, ↓reduceIte, nI_eq, nI_leI, nI_ltI, z_l0, z_l1, z_l2, z_l3, z_l4, z_l5, z_l6, z_l7, z_l8, z_l9, z_l10, z_l11, z_l12, z_l13, z_l14, z_l15, z_l16, z_l17, z_l18, z_l19, z_l20, z_l21, z_l22, z_l23, z_l240, z_l270, z_l24, z_l30, z_l31, z_l32, z_l33, z_l40, z_l48, z_l57, z_l59, z_l60, z_l65, z_l80, z_l97, z_l112, z_l113, z_l114, z_l116, z_l119, z_l126, z_l255, z_l300, z_l330, z_l331, z_l332, z_l450, z_l500, z_l530, z_l531, z_l560, z_l999, z_l1000, z_l2000, z_l2800, z_l5000, h3, hni, q_gd hck, a1, a2]
    simp only [q_up, Nat.reduceEqDiff, false_and, and_false, true_and, and_true, ↓reduceIte, a2]
    generalize hμ : upR (upM (upM μ 15 j i e.1) 16 j i (nI e.2.length)) 17 j (va_cpy ((upM (upM μ 15 j i e.1) 16 j i (nI e.2.length)) 17 j) ((upM (upM μ 15 j i e.1) 16 j i (nI e.2.length)) 17 j) ((i + 1) * 8) (i * 8) 8) = μ1
    have ho1 : only μ μ1 (fun κ j' => (κ = 3 ∨ κ = 15 ∨ κ = 16 ∨ κ = 17) ∧ j' = j) := by
      rw [← hμ]
      exact only.tr ((q_uple rfl).w (by omega)) (only.tr ((q_uple rfl).w (by omega)) (fun κ j' z => q_upr (by omega)))
    have e15 : μ1 15 j = upd (μ 15 j) i e.1 := by
      rw [← hμ, q_upr (by omega), q_upn (by omega)]
      unfold upM
      rw [q_ups]
    have e16 : μ1 16 j = upd (μ 16 j) i (nI e.2.length) := by
      rw [← hμ, q_upr (by omega)]
      unfold upM
      rw [q_ups, q_upr (by omega)]
    have e17 : μ1 17 j = va_cpy (μ 17 j) (μ 17 j) ((i + 1) * 8) (i * 8) 8 := by
      rw [← hμ, q_ups, q_upn (by omega), q_upn (by omega)]
    have e3 : μ1 3 j = μ 3 j := by rw [← hμ, q_upr (by omega), q_upn (by omega), q_upn (by omega)]
    have he8 : ∀ k e', k ≠ i → (e'.2.length ≤ 8) → cE μ j k e' → cE μ1 j k e' := by
      intro k e' hk hk8 ⟨b1, b2, b3⟩
      refine ⟨?_, ?_, fun q w hq => ?_⟩
      · rw [e15]; unfold upd; rw [if_neg hk]; exact b1
      · rw [e16]; unfold upd; rw [if_neg hk]; exact b2
      · have hql := (List.getElem?_eq_some_iff.mp hq).1
        rw [e17]; unfold va_cpy; rw [if_neg (by omega)]; exact b3 q w hq
    obtain ⟨μ', g1, g2, g3⟩ := ih n (i + 1) μ1 (by omega) (by omega) (by omega) (by rw [e3]; exact h3) (fun k e' hk hke => by
      by_cases ek : k = i
      · subst ek
        rw [List.getElem?_eraseIdx, if_neg (by omega), he] at hke
        cases hke
        refine ⟨?_, ?_, fun q w hq => ?_⟩
        · rw [e15]; unfold upd; rw [if_pos rfl]
        · rw [e16]; unfold upd; rw [if_pos rfl]
        · have hql := (List.getElem?_eq_some_iff.mp hq).1
          rw [e17]; unfold va_cpy; rw [if_pos (by omega)]
          rw [show (k + 1) * 8 + (k * 8 + q - k * 8) = (k + 1) * 8 + q by omega]
          exact a3 q w hq
      · have hx := hke
        rw [List.getElem?_eraseIdx] at hx
        have h8 : e'.2.length ≤ 8 := by
          split at hx
          · exact (ho.2 _ _ hx).2.1
          · exact (ho.2 _ _ hx).2.1
        exact he8 k e' ek h8 (c1 k e' (by omega) hke)) (fun k e' hk hke _ => by
      exact he8 k e' (by omega) (ho.2 _ _ hke).2.1 (c2 k e' (by omega) hke (by omega)))
    exact ⟨μ', g1, g2, ho1.tr g3⟩
theorem k_remove {j t : Nat} {tn : List (Int32 × List Nat)} {μ : mT} (ho : tOK tn) (c : cT μ j tn) (ht : t < tn.length) :
    ∃ μ', f_X3_remove j (nI t) μ = some (0, μ') ∧ cT μ' j (tn.eraseIdx t) ∧ only μ μ' (fun κ j' => (κ = 3 ∨ κ = 15 ∨ κ = 16 ∨ κ = 17) ∧ j' = j) := by
  have htl8 := ho.1
  have hs : nI tn.length - nI 1 = nI (tn.length - 1) := q_sub (by omega)
  have hc : ∀ k e, tn[k]? = some e → cE (upM μ 3 j 0 (nI (tn.length - 1))) j k e := fun k e hk => by
    unfold cE
    rw [q_upn (by omega), q_upn (by omega), q_upn (by omega)]
    exact c.2 k e hk
  obtain ⟨μ', g1, g2, g3⟩ := k_rem (j := j) ho ht (tn.length - 1 - t) fu t (upM μ 3 j 0 (nI (tn.length - 1))) (by omega) (by unfold fu; omega) (Nat.le_refl _) (by simp [q_up]) (fun k e hk hke => by
    rw [List.getElem?_eraseIdx, if_pos hk] at hke
    exact hc k e hke) (fun k e _ hke _ => hc k e hke)
  refine ⟨μ', ?_, g2, ((q_uple rfl).w (by omega)).tr g3⟩
  unfold f_X3_remove
  rw [← g1]
  simp only [q_lt, c.1, z_l1, hs]
