def opS (y : yT) (k a b : Nat) : Int32 × yT :=
  if k = 112 then sPull y (nI a) (nI b) else if k = 113 then sPush y (nI a) (nI b) else if k = 114 then sRound y else if k = 119 then sPass y (nI a) else sLeave y (nI a)
def runS : List (Nat × Nat × Nat × Nat × Nat) → Nat → yT → Nat × yT
  | [], i, y => (i, y)
  | (_, _, k, a, b) :: l, i, y => if (opS y k a b).1 < 0 then (i, (opS y k a b).2) else runS l (i + 1) (opS y k a b).2
theorem opS_k {y : yT} {B k a b : Nat} (h : kY y B) (hB : B < 1000000000) : kY (opS y k a b).2 (B + 5000) := by
  unfold opS
  by_cases c1 : k = 112
  · rw [if_pos c1]; exact kp_pull h hB
  by_cases c2 : k = 113
  · rw [if_neg c1, if_pos c2]; exact kp_push h hB
  by_cases c3 : k = 114
  · rw [if_neg c1, if_neg c2, if_pos c3]; exact (kp_round h hB).1
  by_cases c4 : k = 119
  · rw [if_neg c1, if_neg c2, if_neg c3, if_pos c4]; exact kp_pass h hB
  · rw [if_neg c1, if_neg c2, if_neg c3, if_neg c4]; exact kp_leave h hB
theorem runS_k : ∀ (l : List (Nat × Nat × Nat × Nat × Nat)) (i B : Nat) (y : yT), kY y B → B + 5000 * l.length < 1000000000 → kY (runS l i y).2 (B + 5000 * l.length)
  | [], i, B, y, h, _ => h
  | (p, q, k, a, b) :: l, i, B, y, h, hB => by
    rw [List.length_cons] at hB ⊢
    have h1 := opS_k (k := k) (a := a) (b := b) h (by omega)
    unfold runS
    by_cases c : (opS y k a b).1 < 0
    · rw [if_pos c]; exact h1.up (by omega)
    · rw [if_neg c]
      exact (runS_k l (i + 1) (B + 5000) _ h1 (by omega)).up (by omega)
theorem runS_i : ∀ (l : List (Nat × Nat × Nat × Nat × Nat)) (i : Nat) (y : yT), (runS l i y).1 ≤ i + l.length
  | [], i, y => Nat.le_refl _
  | (p, q, k, a, b) :: l, i, y => by
    rw [List.length_cons]
    unfold runS
    by_cases c : (opS y k a b).1 < 0
    · rw [if_pos c]; dsimp only; omega
    · rw [if_neg c]
      have := runS_i l (i + 1) (opS y k a b).2
      omega
theorem rd_case {tx : List Nat} {p q k a b : Nat} (h : rdO tx p = (q, some (k, a, b))) :
    ((k = 112 ∨ k = 113) ∧ sgn tx p = k ∧ sgn tx (p + 1) = a + 65 ∧ a ≤ 7 ∧ isD (sgn tx (p + 2)) ∧ q = p + 2 + (numV tx (p + 2)).2 ∧ b = (numV tx (p + 2)).1) ∨
    (k = 114 ∧ sgn tx p = 114 ∧ q = p + 1) ∨
    ((k = 116 ∨ k = 119) ∧ sgn tx p = k ∧ isD (sgn tx (p + 1)) ∧ q = p + 1 + (numV tx (p + 1)).2 ∧ a = (numV tx (p + 1)).1) := by
  unfold rdO at h
  by_cases c1 : sgn tx p = 112 ∨ sgn tx p = 113
  · rw [if_pos c1] at h
    by_cases c2 : 65 ≤ sgn tx (p + 1) ∧ sgn tx (p + 1) ≤ 65 + 7
    · rw [if_pos c2] at h
      by_cases c3 : isD (sgn tx (p + 2))
      · rw [if_pos c3] at h
        injection h with e1 e2
        injection e2 with e2
        injection e2 with e2 e3
        injection e3 with e3 e4
        left
        exact ⟨by omega, e2, by omega, by omega, c3, e1.symm, e4.symm⟩
      · rw [if_neg c3] at h
        exact absurd (congrArg Prod.snd h) (by simp)
    · rw [if_neg c2] at h
      exact absurd (congrArg Prod.snd h) (by simp)
  rw [if_neg c1] at h
  by_cases c2 : sgn tx p = 114
  · rw [if_pos c2] at h
    injection h with e1 e2
    injection e2 with e2
    injection e2 with e2 e3
    right
    left
    exact ⟨e2.symm, c2, e1.symm⟩
  rw [if_neg c2] at h
  by_cases c3 : sgn tx p = 116 ∨ sgn tx p = 119
  · rw [if_pos c3] at h
    by_cases c4 : isD (sgn tx (p + 1))
    · rw [if_pos c4] at h
      injection h with e1 e2
      injection e2 with e2
      injection e2 with e2 e3
      injection e3 with e3 e4
      right
      right
      exact ⟨by omega, e2, c4, e1.symm, e3.symm⟩
    · rw [if_neg c4] at h
      exact absurd (congrArg Prod.snd h) (by simp)
  rw [if_neg c3] at h
  exact absurd (congrArg Prod.snd h) (by simp)
theorem num_no {tx : List Nat} {z x : Nat} (h : isD (sgn tx z)) (h1 : z ≤ x) (h2 : x < z + (numV tx z).2) : isD (sgn tx x) := by
  unfold numV at h2
  by_cases c : sgn tx z = 48
  · rw [if_pos c] at h2
    rw [show x = z by dsimp only at h2; omega]
    exact h
  · rw [if_neg c] at h2
    by_cases c2 : isD (sgn tx (z + 1))
    · rw [if_pos c2] at h2
      dsimp only at h2
      by_cases c3 : x = z
      · rw [c3]; exact h
      · rw [show x = z + 1 by omega]; exact c2
    · rw [if_neg c2] at h2
      rw [show x = z by dsimp only at h2; omega]
      exact h
theorem rd_no {tx : List Nat} {p q k a b x : Nat} (h : rdO tx p = (q, some (k, a, b))) (h1 : p ≤ x) (h2 : x < q) : sgn tx x ≠ 59 := by
  rcases rd_case h with ⟨g1, g2, g3, g4, g5, g6, g7⟩ | ⟨g1, g2, g3⟩ | ⟨g1, g2, g3, g4, g5⟩
  · by_cases c : x = p
    · rw [c, g2]; omega
    by_cases c2 : x = p + 1
    · rw [c2, g3]; omega
    have := num_no g5 (x := x) (by omega) (by omega)
    omega
  · rw [show x = p by omega, g2]
    omega
  · by_cases c : x = p
    · rw [c, g2]; omega
    have := num_no g3 (x := x) (by omega) (by omega)
    omega
theorem k_codeAt {tx : List Nat} {μ : mT} {z : Nat} (h : pC μ tx) (hz : z ≤ 1000) : f_X2_codeAt (nI z) μ = some (nI (sgn tx z), μ) := by
  have h80 := h.2.1
  unfold f_X2_codeAt
  rw [if_neg (nI_pos (by omega)), h.1]
  by_cases c : tx.length ≤ z
  · rw [if_pos (nI_le c (by omega)), sgn_end c]
    rfl
  · rw [if_neg (nI_ge (by omega) (by omega)), q_gdi (by omega) (by omega), q_cl (by omega), h.2.2 z _ (sgn_get (by omega))]
theorem k_endsOrder {tx : List Nat} {μ : mT} {z : Nat} (h : pC μ tx) (hc : ∀ c ∈ tx, 33 ≤ c ∧ c ≤ 126) (hz : z ≤ 1000) : f_X2_endsOrder (nI z) μ = some (if z = tx.length ∨ sgn tx z = 59 then 1 else 0, μ) := by
  have h80 := h.2.1
  have hs := sgn_le (p := z) hc
  have q1 : nI z = nI tx.length ↔ z = tx.length := nI_eq (by omega) (by omega)
  have q2 : nI (sgn tx z) = nI 59 ↔ sgn tx z = 59 := nI_eq (by omega) (by omega)
  unfold f_X2_endsOrder
  rw [h.1]
  by_cases c : z = tx.length
  · rw [if_pos (q1.mpr c), if_pos (Or.inl c)]
  · rw [if_neg (fun z => c (q1.mp z)), k_codeAt h hz, q_bd, show (59 : Int32) = nI 59 from rfl]
    by_cases c2 : sgn tx z = 59
    · rw [if_pos (q2.mpr c2), if_pos (Or.inr c2)]
    · rw [if_neg (fun z => c2 (q2.mp z)), if_neg (fun q => q.elim c c2)]
theorem k_num5 {tx : List Nat} {μ : mT} {z e v f : Nat} (h : pC μ tx) (hz : z < e) (he : e ≤ 900) (hv : v ≤ 1000) (hd : isD (sgn tx z)) : f_X2_number_L5 (nI e) (f + 1) (nI v) (nI z) μ = f_X2_number_L5 (nI e) f (nI (v * 10 + (sgn tx z - 48))) (nI (z + 1)) μ := by
  rw [f_X2_number_L5, if_neg (nI_ge hz (by omega)), k_codeAt h (by omega), q_bd, show (10 : Int32) = nI 10 from rfl, q_mul, q_add, show (48 : Int32) = nI 48 from rfl, q_sub (by omega), q_lt, q_lt, show (nI z + 1 : Int32) = nI (z + 1) from nI_1 z, show v * 10 + sgn tx z - 48 = v * 10 + (sgn tx z - 48) by omega]
theorem k_number {tx : List Nat} {μ : mT} {z : Nat} (h : pC μ tx) (hd : isD (sgn tx z)) (hz : z ≤ 800) : f_X2_number (nI z) (nI (z + (numV tx z).2)) μ = some (nI (numV tx z).1, μ) := by
  unfold f_X2_number
  have e0 : (0 : Int32) = nI 0 := rfl
  rw [e0, show fu = 3999 + 1 from rfl]
  have one : f_X2_number_L5 (nI (z + 1)) (3999 + 1) (nI 0) (nI z) μ = some (nI (sgn tx z - 48), μ) := by
    rw [k_num5 h (by omega) (by omega) (by omega) hd, show 3999 = 3998 + 1 from rfl, f_X2_number_L5, if_pos (nI_le (Nat.le_refl _) (by omega)), Nat.zero_mul, Nat.zero_add]
  unfold numV
  by_cases c : sgn tx z = 48
  · rw [if_pos c, one, c]
  · rw [if_neg c]
    by_cases c2 : isD (sgn tx (z + 1))
    · rw [if_pos c2]
      dsimp only
      rw [k_num5 h (by omega) (by omega) (by omega) hd, show 3999 = 3998 + 1 from rfl, k_num5 h (by omega) (by omega) (by omega) c2, show 3998 = 3997 + 1 from rfl, f_X2_number_L5, if_pos (nI_le (by omega) (by omega)), Nat.zero_mul, Nat.zero_add, Nat.mul_comm]
    · rw [if_neg c2]
      exact one
theorem k_carryOne {tx : List Nat} {μ : mT} {y : yT} {B p q k a b : Nat} (h : pC μ tx) (hy : cY μ 0 y) (hk : kY y B) (hr : rdO tx p = (q, some (k, a, b))) :
    ∃ μ', f_X7_carryOne (nI p) (nI q) μ = some ((opS y k a b).1, μ') ∧ cY μ' 0 (opS y k a b).2 ∧ only μ μ' (Yd 0) := by
  obtain ⟨nt, nw, tm, hi⟩ := hk
  have h80 := h.2.1
  have hq := rd_some hr
  have e1 : (nI p + 1 : Int32) = nI (p + 1) := nI_1 p
  have e2 : (nI p + 2 : Int32) = nI (p + 2) := q_add p 2
  unfold f_X7_carryOne opS
  rw [e1, e2, k_codeAt h (by omega), q_bd, q_lt, k_codeAt h (by omega), q_bd, show (112 : Int32) = nI 112 from rfl, show (113 : Int32) = nI 113 from rfl, show (114 : Int32) = nI 114 from rfl, show (119 : Int32) = nI 119 from rfl]
  rcases rd_case hr with ⟨g1, g2, g3, g4, g5, g6, g7⟩ | ⟨g1, g2, g3⟩ | ⟨g1, g2, g3, g4, g5⟩
  · have ea : nI (sgn tx (p + 1)) - 65 = nI a := by rw [show (65 : Int32) = nI 65 from rfl, g3, q_sub (by omega), Nat.add_sub_cancel]
    rw [g2, ea, g6, k_number h g5 (by omega), q_bd, q_bd, ← g7]
    rcases g1 with g1 | g1
    · rw [g1, if_pos rfl, if_pos rfl]
      obtain ⟨μ', d1, d2, d3⟩ := k_takeOut (a := nI a) (b := nI b) hy hi
      exact ⟨μ', by rw [d1, q_bd], d2, d3⟩
    · rw [g1, if_neg (by decide), if_pos rfl, if_neg (by decide), if_pos rfl]
      obtain ⟨μ', d1, d2, d3⟩ := k_bringIn (a := nI a) (b := nI b) hy hi
      exact ⟨μ', by rw [d1, q_bd], d2, d3⟩
  · rw [g2, g1, if_neg (by decide), if_neg (by decide), if_pos rfl, if_neg (by decide), if_neg (by decide), if_pos rfl]
    obtain ⟨μ', d1, d2, d3⟩ := k_goRound hy hi
    exact ⟨μ', by rw [d1, q_bd], d2, d3⟩
  · rw [g2, g4, k_number h g3 (by omega), q_bd, q_bd, ← g5]
    rcases g1 with g1 | g1
    · rw [g1, if_neg (by decide), if_neg (by decide), if_neg (by decide), if_neg (by decide), if_neg (by decide), if_neg (by decide), if_neg (by decide), if_neg (by decide)]
      obtain ⟨μ', d1, d2, d3⟩ := k_letLeave (a := nI a) hy hi
      exact ⟨μ', by rw [d1, q_bd], d2, d3⟩
    · rw [g1, if_neg (by decide), if_neg (by decide), if_neg (by decide), if_pos rfl, if_neg (by decide), if_neg (by decide), if_neg (by decide), if_pos rfl]
      obtain ⟨μ', d1, d2, d3⟩ := k_letPass (a := nI a) hy hi
      exact ⟨μ', by rw [d1, q_bd], d2, d3⟩
/-- the class's loop, up to an order's end -/
theorem k_skip {tx : List Nat} {μ : mT} {K9 K16 : Int32 → mT → Option (Int32 × mT)} {v5 v6 : Int32} (h : pC μ tx) (hc : ∀ c ∈ tx, 33 ≤ c ∧ c ≤ 126) {q : Nat} (hq : q ≤ tx.length) : ∀ (d x f : Nat), x + d = q → (∀ z, x ≤ z → z < q → sgn tx z ≠ 59) →
    f_X7_carryOut_L32 K9 K16 (f + d) v5 v6 (nI x) μ = f_X7_carryOut_L32 K9 K16 f v5 v6 (nI q) μ := by
  have h80 := h.2.1
  intro d
  induction d with
  | zero =>
    intro x f hx _
    rw [show x = q by omega]
    rfl
  | succ d ih =>
    intro x f hx hn
    rw [← Nat.add_assoc, f_X7_carryOut_L32, h.1, if_neg (nI_nlt (by omega) (by omega)), k_endsOrder h hc (by omega), q_bd, if_neg (show ¬ (x = tx.length ∨ sgn tx x = 59) from fun z => z.elim (fun z => by omega) (hn x (Nat.le_refl _) (by omega))), q_lt, if_pos p00]
    dsimp only
    rw [q_lt, show (nI x + 1 : Int32) = nI (x + 1) from nI_1 x]
    exact ih (x + 1) f (by omega) (fun z h1 h2 => hn z (by omega) h2)
