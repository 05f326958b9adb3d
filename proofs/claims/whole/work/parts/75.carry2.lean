theorem k_run {tx : List Nat} (hc : ∀ c ∈ tx, 33 ≤ c ∧ c ≤ 126) {K : Int32 → mT → Option (Int32 × mT)} : ∀ (n p f i B : Nat) (y : yT) (μ : mT) (l : List (Nat × Nat × Nat × Nat × Nat)), ordF tx n p = (none, l) → tx.length + 3 ≤ p + f → pC μ tx → cY μ 0 y → kY y B → B + 5000 * l.length < 1000000000 →
    ∃ μ', f_X7_carryOut_L32 K K f (nI i) (nI p) (nI p) μ = K (nI (runS l i y).1) μ' ∧ cY μ' 0 (runS l i y).2 ∧ only μ μ' (Yd 0) := by
  intro n
  induction n with
  | zero => intro p f i B y μ l ho; exact absurd (congrArg Prod.fst ho) (by simp [ordF])
  | succ n ih =>
    intro p f i B y μ l ho hf hx hy hk hB
    have h80 := hx.2.1
    unfold ordF at ho
    rcases e : rdO tx p with ⟨q, _ | ⟨k, a, b⟩⟩
    · rw [e] at ho
      exact absurd (congrArg Prod.fst ho) (by simp)
    · rw [e] at ho
      dsimp only at ho
      have hq := rd_some e
      obtain ⟨f, rfl⟩ : ∃ n', f = n' + 1 + (q - p) := ⟨f - (q - p) - 1, by omega⟩
      obtain ⟨μ1, d1, d2, d3⟩ := k_carryOne hx hy hk e
      have hk1 : kY (opS y k a b).2 (B + 5000) := opS_k hk (by omega)
      have hx1 : pC μ1 tx := hx.o (d3 21 0 (by unfold Yd; omega)) (d3 25 0 (by unfold Yd; omega))
      have eq1 : (nI q + 1 : Int32) = nI (q + 1) := nI_1 q
      have ei1 : (nI i + 1 : Int32) = nI (i + 1) := nI_1 i
      have step : ∀ (he : q = tx.length ∨ sgn tx q = 59), f_X7_carryOut_L32 K K (f + 1 + (q - p)) (nI i) (nI p) (nI p) μ = if (opS y k a b).1 < 0 then K (nI i) μ1 else f_X7_carryOut_L32 K K f (nI (i + 1)) (nI (q + 1)) (nI (q + 1)) μ1 := by
        intro he
        rw [k_skip hx hc hq.2 (q - p) p (f + 1) (by omega) (fun z h1 h2 => rd_no e h1 h2), f_X7_carryOut_L32, hx.1, if_neg (nI_nlt (by omega) (by omega)), k_endsOrder hx hc (by omega), q_bd, if_pos he, q_lt, if_neg n10, d1, q_bd]
        by_cases c : (opS y k a b).1 < 0
        · rw [if_neg (Int32.not_le.mpr c), if_pos c]
        · rw [if_pos (Int32.not_lt.mp c), if_neg c, q_lt, q_lt]
          dsimp only
          rw [q_lt, eq1, ei1]
      by_cases c : tx.length ≤ q
      · rw [if_pos c] at ho
        cases ho
        rw [step (Or.inl (by omega))]
        unfold runS
        by_cases cr : (opS y k a b).1 < 0
        · rw [if_pos cr, if_pos cr]
          exact ⟨μ1, rfl, d2, d3⟩
        · rw [if_neg cr, if_neg cr]
          obtain ⟨f, rfl⟩ : ∃ n', f = n' + 1 := ⟨f - 1, by omega⟩
          rw [f_X7_carryOut_L32, hx1.1, if_pos (nI_lt (by omega) (by omega))]
          exact ⟨μ1, rfl, d2, d3⟩
      · rw [if_neg c] at ho
        by_cases c2 : sgn tx q = 59
        · rw [if_pos c2] at ho
          obtain ⟨l', hl'⟩ : ∃ l', l' = (ordF tx n (q + 1)).2 := ⟨_, rfl⟩
          have ho1 : (ordF tx n (q + 1)).1 = none := congrArg Prod.fst ho
          have ho2 : (p, q, k, a, b) :: l' = l := by rw [hl']; exact congrArg Prod.snd ho
          subst ho2
          rw [List.length_cons] at hB
          rw [step (Or.inr c2)]
          unfold runS
          by_cases cr : (opS y k a b).1 < 0
          · rw [if_pos cr, if_pos cr]
            exact ⟨μ1, rfl, d2, d3⟩
          · rw [if_neg cr, if_neg cr]
            obtain ⟨μ2, g1, g2, g3⟩ := ih (q + 1) f (i + 1) (B + 5000) (opS y k a b).2 μ1 l' (Prod.ext ho1 hl'.symm) (by omega) hx1 d2 hk1 (by omega)
            exact ⟨μ2, g1, g2, d3.tr g3⟩
        · rw [if_neg c2] at ho
          exact absurd (congrArg Prod.fst ho) (by simp)
/-- how many orders, and which kinds -/
theorem ordF_l {tx : List Nat} (hc : ∀ c ∈ tx, 33 ≤ c ∧ c ≤ 126) : ∀ (n p : Nat) (l : List (Nat × Nat × Nat × Nat × Nat)), ordF tx n p = (none, l) → p ≤ tx.length → 2 * l.length ≤ tx.length - p + 1 ∧ ∀ (j p' q' k' a' b' : Nat), l[j]? = some (p', q', k', a', b') → k' ≤ 126 := by
  intro n
  induction n with
  | zero => intro p l ho; exact absurd (congrArg Prod.fst ho) (by simp [ordF])
  | succ n ih =>
    intro p l ho hp
    unfold ordF at ho
    rcases e : rdO tx p with ⟨q, _ | ⟨k, a, b⟩⟩
    · rw [e] at ho
      exact absurd (congrArg Prod.fst ho) (by simp)
    · rw [e] at ho
      dsimp only at ho
      have hq := rd_some e
      have hk : k ≤ 126 := by
        rcases rd_case e with ⟨g1, -⟩ | ⟨g1, -⟩ | ⟨g1, -⟩ <;> omega
      by_cases c : tx.length ≤ q
      · rw [if_pos c] at ho
        cases ho
        refine ⟨by simp; omega, fun j p' q' k' a' b' hj => ?_⟩
        have hl := (List.getElem?_eq_some_iff.mp hj).1
        rw [show j = 0 by simp at hl; omega] at hj
        cases hj
        exact hk
      · rw [if_neg c] at ho
        by_cases c2 : sgn tx q = 59
        · rw [if_pos c2] at ho
          obtain ⟨l', hl'⟩ : ∃ l', l' = (ordF tx n (q + 1)).2 := ⟨_, rfl⟩
          have ho1 : (ordF tx n (q + 1)).1 = none := congrArg Prod.fst ho
          have ho2 : (p, q, k, a, b) :: l' = l := by rw [hl']; exact congrArg Prod.snd ho
          subst ho2
          obtain ⟨g1, g2⟩ := ih (q + 1) l' (Prod.ext ho1 hl'.symm) (by omega)
          rw [List.length_cons]
          refine ⟨by omega, fun j p' q' k' a' b' hj => ?_⟩
          cases j with
          | zero =>
            rw [List.getElem?_cons_zero] at hj
            cases hj
            exact hk
          | succ j =>
            rw [List.getElem?_cons_succ] at hj
            exact g2 j p' q' k' a' b' hj
        · rw [if_neg c2] at ho
          exact absurd (congrArg Prod.fst ho) (by simp)
theorem MR.t {μ : mT} {y : yT} {hp : hT} {r : Int32 × yT} {o : Option (Int32 × mT)} (h : MR μ y hp true r o) : ∃ μ', o = some (r.1, μ') ∧ hM μ' r.2 hp true ∧ only μ μ' Mh ∧ k27 μ μ' := by
  obtain ⟨μ', a, b, c, d⟩ := h
  refine ⟨μ', a, ?_, c, d⟩
  unfold pT at b
  rw [if_pos rfl] at b
  rwa [ite_self] at b
theorem m_carry {μ : mT} {y : yT} {hp : hT} {B i k a b : Nat} (hm : hM μ y hp true) (hk : kY y B) (hB : B < 850000000) (hf : hF hp) (hi : i ≤ 60) (hk1 : k ≤ 126)
    (h : μ 39 0 (3 * i) = nI k ∧ (k ≠ 114 → μ 39 0 (3 * i + 1) = nI a) ∧ (k = 112 ∨ k = 113 → μ 39 0 (3 * i + 2) = nI b)) :
    ∃ μ', f_X8_carry (nI (3 * i)) μ = some ((opS y k a b).1, μ') ∧ hM μ' (opS y k a b).2 hp true ∧ only μ μ' Mh ∧ k27 μ μ' := by
  have kr := kp_round hk (by omega)
  obtain ⟨nt, nw, tm, hy⟩ := hk
  obtain ⟨h0, h1, h2⟩ := h
  have e1 : (nI (3 * i) + 1 : Int32) = nI (3 * i + 1) := nI_1 _
  have e2 : (nI (3 * i) + 2 : Int32) = nI (3 * i + 2) := q_add _ 2
  have c112 : nI k = nI 112 ↔ k = 112 := nI_eq (by omega) (by omega)
  have c113 : nI k = nI 113 ↔ k = 113 := nI_eq (by omega) (by omega)
  have c114 : nI k = nI 114 ↔ k = 114 := nI_eq (by omega) (by omega)
  have c119 : nI k = nI 119 ↔ k = 119 := nI_eq (by omega) (by omega)
  unfold f_X8_carry opS
  rw [e1, e2, q_gdi (by omega) (by omega), q_lt, q_gdi (by omega) (by omega), q_lt, q_cl (by omega), q_cl (by omega), q_cl (by omega), h0, show (112 : Int32) = nI 112 from rfl, show (113 : Int32) = nI 113 from rfl, show (114 : Int32) = nI 114 from rfl, show (119 : Int32) = nI 119 from rfl, q_gdi (by omega) (by omega), q_gdi (by omega) (by omega)]
  by_cases d1 : k = 112
  · rw [if_pos (c112.mpr d1), if_pos d1, h1 (by omega), h2 (by omega)]
    obtain ⟨μ', g1, g2⟩ := (m_pull (a := nI a) (b := nI b) hm hy hf).t
    exact ⟨μ', by rw [g1, q_bd], g2⟩
  rw [if_neg (fun z => d1 (c112.mp z)), if_neg d1]
  by_cases d2 : k = 113
  · rw [if_pos (c113.mpr d2), if_pos d2, h1 (by omega), h2 (by omega)]
    obtain ⟨μ', g1, g2⟩ := (m_push (a := nI a) (b := nI b) hm hy hf).t
    exact ⟨μ', by rw [g1, q_bd], g2⟩
  rw [if_neg (fun z => d2 (c113.mp z)), if_neg d2]
  by_cases d3 : k = 114
  · rw [if_pos (c114.mpr d3), if_pos d3]
    obtain ⟨μ', g1, g2⟩ := (m_round hm hy hf kr.2).t
    exact ⟨μ', by rw [g1, q_bd], g2⟩
  rw [if_neg (fun z => d3 (c114.mp z)), if_neg d3, h1 d3]
  by_cases d4 : k = 119
  · rw [if_pos (c119.mpr d4), if_pos d4]
    obtain ⟨μ', g1, g2⟩ := (m_pass (a := nI a) hm hy hf (by omega)).t
    exact ⟨μ', by rw [g1, q_bd], g2⟩
  · rw [if_neg (fun z => d4 (c119.mp z)), if_neg d4]
    obtain ⟨μ', g1, g2⟩ := (m_leave (a := nI a) hm hy hf (by omega)).t
    exact ⟨μ', by rw [g1, q_bd], g2⟩
theorem m_run {hp : hT} (hf : hF hp) : ∀ (l : List (Nat × Nat × Nat × Nat × Nat)) (f i B : Nat) (y : yT) (μ : mT), l.length < f → i + l.length ≤ 60 → hM μ y hp true → kY y B → B + 5000 * l.length < 850000000 → μ 27 0 16 = nI (i + l.length) → (∀ (j p q k a b : Nat), l[j]? = some (p, q, k, a, b) → k ≤ 126) →
    (∀ (j p q k a b : Nat), l[j]? = some (p, q, k, a, b) → μ 39 0 (3 * (i + j)) = nI k ∧ (k ≠ 114 → μ 39 0 (3 * (i + j) + 1) = nI a) ∧ (k = 112 ∨ k = 113 → μ 39 0 (3 * (i + j) + 2) = nI b)) →
    ∃ μ', (∀ K, f_X8_carryOut_L23 K f (nI i) μ = K (nI (runS l i y).1) μ') ∧ hM μ' (runS l i y).2 hp true ∧ only μ μ' Mh ∧ k27 μ μ'
  | [], f, i, B, y, μ, h1, h2, hm, _, _, hn, _, _ => by
    obtain ⟨f, rfl⟩ : ∃ n', f = n' + 1 := ⟨f - 1, by omega⟩
    refine ⟨μ, fun K => ?_, hm, only.rf, fun _ _ => rfl⟩
    have h3 : i ≤ 60 := by simpa using h2
    rw [f_X8_carryOut_L23, hn, List.length_nil, Nat.add_zero, if_pos (nI_le (Nat.le_refl _) (by omega))]
    rfl
  | (p, q, k, a, b) :: l, f, i, B, y, μ, h1, h2, hm, hk, hB, hn, hk1, hcl => by
    rw [List.length_cons] at h1 h2 hB hn
    obtain ⟨f, rfl⟩ : ∃ n', f = n' + 1 := ⟨f - 1, by omega⟩
    have hkk := hk1 0 p q k a b rfl
    have hc0 := hcl 0 p q k a b rfl
    obtain ⟨μ1, d1, d2, d3, d4⟩ := m_carry hm hk (by omega) hf (i := i) (by omega) hkk hc0
    have hk2 : kY (opS y k a b).2 (B + 5000) := opS_k hk (by omega)
    have e39 : μ1 39 0 = μ 39 0 := d3 39 0 (by unfold Mh; omega)
    have step : ∀ K, f_X8_carryOut_L23 K (f + 1) (nI i) μ = if (opS y k a b).1 < 0 then K (nI i) μ1 else f_X8_carryOut_L23 K f (nI (i + 1)) μ1 := fun K => by
      rw [f_X8_carryOut_L23, hn, if_neg (nI_ge (by omega) (by omega)), show (3 : Int32) = nI 3 from rfl, q_mul, d1, q_bd]
      by_cases c : (opS y k a b).1 < 0
      · rw [if_pos c, if_pos c]
      · rw [if_neg c, if_neg c, q_lt, show (nI i + 1 : Int32) = nI (i + 1) from nI_1 i]
    unfold runS
    by_cases c : (opS y k a b).1 < 0
    · rw [if_pos c]
      exact ⟨μ1, fun K => by rw [step K, if_pos c], d2, d3, d4⟩
    · rw [if_neg c]
      obtain ⟨μ2, g1, g2, g3, g4⟩ := m_run hf l f (i + 1) (B + 5000) _ μ1 (by omega) (by omega) d2 hk2 (by omega) (by rw [d4 16 (by omega), hn]; congr 1; omega) (fun j p' q' k' a' b' hj => hk1 (j + 1) p' q' k' a' b' (by rw [List.getElem?_cons_succ]; exact hj)) (fun j p' q' k' a' b' hj => by
        have := hcl (j + 1) p' q' k' a' b' (by rw [List.getElem?_cons_succ]; exact hj)
        rw [e39, show i + 1 + j = i + (j + 1) by omega]
        exact this)
      exact ⟨μ2, fun K => by rw [step K, if_neg c, g1 K], g2, d3.tr g3, d4.tr g4⟩
theorem ff_le : ∀ (l : List Nat) (i d z : Nat), ffS i d l = some z → z ≤ i + l.length
  | [], i, d, z, h => by
    unfold ffS at h
    by_cases c : d = 3 ∨ d = 4
    · rw [if_pos c] at h; cases h
    · rw [if_neg c] at h; cases h; exact Nat.le_refl _
  | c :: l, i, d, z, h => by
    unfold ffS at h
    by_cases c5 : dfa d c = 5
    · rw [if_pos c5] at h; cases h; omega
    · rw [if_neg c5] at h
      have := ff_le l (i + 1) _ z h
      rw [List.length_cons]
      omega
