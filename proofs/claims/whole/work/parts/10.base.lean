theorem q_lt {α β : Type} (a : α) (f : α → β) : lt a f = f a := rfl
theorem q_bd {α : Type} (r : Int32) (μ : mT) (k : Int32 → mT → Option α) : bd (some (r, μ)) k = k r μ := rfl
theorem q_gd {α : Type} {b : Bool} {k : Option α} (h : b = true) : gd b k = k := by unfold gd; rw [if_pos h]
theorem q_inb {k n : Nat} (h : k < n) (hn : n < 2147483648) : inb (nI k) n = true := by
  unfold inb
  rw [Bool.and_eq_true]
  exact ⟨decide_eq_true (nI_pos' (by omega)), decide_eq_true (by rw [nI_clamp (by omega)]; exact h)⟩
theorem q_gdi {α : Type} {i n : Nat} {k : Option α} (h : i < n) (hn : n < 2147483648) : gd (inb (nI i) n) k = k := q_gd (q_inb h hn)
theorem q_cl {k : Nat} (h : k < 2147483648) : (nI k).toNatClampNeg = k := nI_clamp h
theorem q_add (a b : Nat) : nI a + nI b = nI (a + b) := nI_add a b
theorem q_mul (a b : Nat) : nI a * nI b = nI (a * b) := (Int32.ofNat_mul a b).symm
theorem q_sub {a b : Nat} (h : b ≤ a) : nI a - nI b = nI (a - b) := by
  have e := q_add (a - b) b
  rw [Nat.sub_add_cancel h] at e
  rw [← e, Int32.add_sub_cancel]
theorem z_l0 : (0 : Int32) = nI 0 := rfl
theorem z_l1 : (1 : Int32) = nI 1 := rfl
theorem z_l2 : (2 : Int32) = nI 2 := rfl
theorem z_l3 : (3 : Int32) = nI 3 := rfl
theorem z_l4 : (4 : Int32) = nI 4 := rfl
theorem z_l5 : (5 : Int32) = nI 5 := rfl
theorem z_l6 : (6 : Int32) = nI 6 := rfl
theorem z_l7 : (7 : Int32) = nI 7 := rfl
theorem z_l8 : (8 : Int32) = nI 8 := rfl
theorem z_l9 : (9 : Int32) = nI 9 := rfl
theorem z_l10 : (10 : Int32) = nI 10 := rfl
theorem z_l11 : (11 : Int32) = nI 11 := rfl
theorem z_l12 : (12 : Int32) = nI 12 := rfl
theorem z_l13 : (13 : Int32) = nI 13 := rfl
theorem z_l14 : (14 : Int32) = nI 14 := rfl
theorem z_l15 : (15 : Int32) = nI 15 := rfl
theorem z_l16 : (16 : Int32) = nI 16 := rfl
theorem z_l17 : (17 : Int32) = nI 17 := rfl
theorem z_l18 : (18 : Int32) = nI 18 := rfl
theorem z_l19 : (19 : Int32) = nI 19 := rfl
theorem z_l20 : (20 : Int32) = nI 20 := rfl
theorem z_l21 : (21 : Int32) = nI 21 := rfl
theorem z_l22 : (22 : Int32) = nI 22 := rfl
theorem z_l23 : (23 : Int32) = nI 23 := rfl
theorem z_l240 : (240 : Int32) = nI 240 := rfl
theorem z_l270 : (270 : Int32) = nI 270 := rfl
theorem z_l24 : (24 : Int32) = nI 24 := rfl
theorem z_l30 : (30 : Int32) = nI 30 := rfl
theorem z_l31 : (31 : Int32) = nI 31 := rfl
theorem z_l32 : (32 : Int32) = nI 32 := rfl
theorem z_l33 : (33 : Int32) = nI 33 := rfl
theorem z_l40 : (40 : Int32) = nI 40 := rfl
theorem z_l48 : (48 : Int32) = nI 48 := rfl
theorem z_l57 : (57 : Int32) = nI 57 := rfl
theorem z_l59 : (59 : Int32) = nI 59 := rfl
theorem z_l60 : (60 : Int32) = nI 60 := rfl
theorem z_l65 : (65 : Int32) = nI 65 := rfl
theorem z_l80 : (80 : Int32) = nI 80 := rfl
theorem z_l97 : (97 : Int32) = nI 97 := rfl
theorem z_l112 : (112 : Int32) = nI 112 := rfl
theorem z_l113 : (113 : Int32) = nI 113 := rfl
theorem z_l114 : (114 : Int32) = nI 114 := rfl
theorem z_l116 : (116 : Int32) = nI 116 := rfl
theorem z_l119 : (119 : Int32) = nI 119 := rfl
theorem z_l126 : (126 : Int32) = nI 126 := rfl
theorem z_l255 : (255 : Int32) = nI 255 := rfl
theorem z_l300 : (300 : Int32) = nI 300 := rfl
theorem z_l330 : (330 : Int32) = nI 330 := rfl
theorem z_l331 : (331 : Int32) = nI 331 := rfl
theorem z_l332 : (332 : Int32) = nI 332 := rfl
theorem z_l450 : (450 : Int32) = nI 450 := rfl
theorem z_l500 : (500 : Int32) = nI 500 := rfl
theorem z_l530 : (530 : Int32) = nI 530 := rfl
theorem z_l531 : (531 : Int32) = nI 531 := rfl
theorem z_l560 : (560 : Int32) = nI 560 := rfl
theorem z_l999 : (999 : Int32) = nI 999 := rfl
theorem z_l1000 : (1000 : Int32) = nI 1000 := rfl
theorem z_l2000 : (2000 : Int32) = nI 2000 := rfl
theorem z_l2800 : (2800 : Int32) = nI 2800 := rfl
theorem z_l5000 : (5000 : Int32) = nI 5000 := rfl
theorem q_0a (x : Int32) : nI 0 + x = x := Int32.zero_add x
theorem q_n6 {i : Nat} (h : i < 2147483648) : ¬ nI i = -6 := by
  intro e
  have h0 : (0 : Int32) ≤ nI i := nI_pos' h
  rw [e] at h0
  exact absurd h0 (by decide)
theorem q_n6b {i : Nat} (h : i < 2147483648) : ¬ nI i = -nI 6 := q_n6 h
theorem q_div {a b : Nat} (ha : a < 2147483648) (hb : b < 2147483648) : nI a / nI b = nI (a / b) := by
  apply Int32.toInt_inj.mp
  have hab : a / b ≤ a := Nat.div_le_self a b
  rw [Int32.toInt_div, nI_toInt ha, nI_toInt hb, nI_toInt (by omega)]
  have e : ((a : Int).tdiv (b : Int)) = ((a / b : Nat) : Int) := Int.ofNat_tdiv a b
  rw [e]
  generalize a / b = q at hab ⊢
  exact Int.bmod_eq_of_le (by omega) (by omega)
theorem q_up (μ : mT) (κ j k : Nat) (x : Int32) (κ' j' k' : Nat) : upM μ κ j k x κ' j' k' = if κ' = κ ∧ j' = j ∧ k' = k then x else μ κ' j' k' := by
  unfold upM upR upd
  by_cases h : κ' = κ ∧ j' = j
  · obtain ⟨rfl, rfl⟩ := h
    simp
  · rw [if_neg h, if_neg (fun z => h ⟨z.1, z.2.1⟩)]
theorem q_upn {μ : mT} {κ j k : Nat} {x : Int32} {κ' j' : Nat} (h : ¬ (κ' = κ ∧ j' = j)) : upM μ κ j k x κ' j' = μ κ' j' := by
  unfold upM upR
  rw [if_neg h]
theorem q_upr {μ : mT} {κ j : Nat} {f : Nat → Int32} {κ' j' : Nat} (h : ¬ (κ' = κ ∧ j' = j)) : upR μ κ j f κ' j' = μ κ' j' := by
  unfold upR
  rw [if_neg h]
theorem q_ups {μ : mT} {κ j : Nat} {f : Nat → Int32} : upR μ κ j f κ j = f := by
  unfold upR
  rw [if_pos ⟨rfl, rfl⟩]
/-- shift, one step -/
theorem shift_step {j r1 r2 m i n a b : Nat} {μ : mT} (h1 : r1 < 9) (h2 : r2 < 9) (hne : r2 ≠ r1) (hi : i < m) (hm : m < 2147483648) (ha : μ 11 j r1 = nI (a + 1)) (hb : μ 11 j r2 = nI b) (hab : a + 1 + b ≤ 30) :
    f_X5_shift_L15 j (nI r1) (nI r2) (nI m) (n + 1) (nI i) μ = f_X5_shift_L15 j (nI r1) (nI r2) (nI m) n (nI (i + 1)) (upM (upM (upM μ 11 j r1 (nI a)) 12 j (r2 * 30 + b) (μ 12 j (r1 * 30 + a))) 11 j r2 (nI (b + 1))) := by
  have hni : ¬ m ≤ i := by omega
  have hs : nI (a + 1) - nI 1 = nI a := q_sub (a := a + 1) (b := 1) (by omega)
  rw [f_X5_shift_L15]
  simp (disch := omega) only [q_n6b, q_lt, q_bd, q_gdi, q_cl, q_add, q_mul, ↓reduceIte, nI_eq, nI_leI, nI_ltI, z_l0, z_l1, z_l2, z_l3, z_l4, z_l5, z_l6, z_l7, z_l8, z_l9, z_l10, z_l11, z_l12, z_l13, z_l14, z_l15, z_l16, z_l17, z_l18, z_l19, z_l20, z_l21, z_l22, z_l23, z_l240, z_l270, z_l24, z_l30, z_l31, z_l32, z_l33, z_l40, z_l48, z_l57, z_l59, z_l60, z_l65, z_l80, z_l97, z_l112, z_l113, z_l114, z_l116, z_l119, z_l126, z_l255, z_l300, z_l330, z_l331, z_l332, z_l450, z_l500, z_l530, z_l531, z_l560, z_l999, z_l1000, z_l2000, z_l2800, z_l5000, hni, ha, hs, hb, hne, q_up, Nat.reduceEqDiff, false_and, and_false, true_and, and_true, ↓reduceIte]
