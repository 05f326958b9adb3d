/-- what the model's reader holds behind an order from place p, the n-th -/
def RO (tx : List Nat) (μ' : mT) (p n : Nat) : Prop := match rdO tx p with
  | (q, none) => PS μ' q 1
  | (q, some (k, a, b)) => PS μ' q 0 ∧ μ' 27 0 16 = nI (n + 1) ∧ μ' 39 0 (3 * n) = nI k ∧ (k ≠ 114 → μ' 39 0 (3 * n + 1) = nI a) ∧ (k = 112 ∨ k = 113 → μ' 39 0 (3 * n + 2) = nI b)
theorem m16_o {μ : mT} : o39 μ (m16 μ) := o39_16
theorem m16_p {μ : mT} {q : Nat} {w : Int32} (h : PS μ q w) : PS (m16 μ) q w := ⟨by unfold m16; rw [q_up, if_neg (by omega)]; exact h.1, by unfold m16; rw [q_up, if_neg (by omega)]; exact h.2⟩
theorem m16_16 {μ : mT} {n : Nat} (h : μ 27 0 16 = nI n) : m16 μ 27 0 16 = nI (n + 1) := by
  unfold m16
  rw [q_up, if_pos ⟨rfl, rfl, rfl⟩, h]
  exact nI_1 n
theorem m16_39 {μ : mT} {x : Nat} : m16 μ 39 0 x = μ 39 0 x := by unfold m16; rw [q_up, if_neg (by omega)]
theorem PS39 {μ : mT} {q k : Nat} {w x : Int32} (h : PS μ q w) : PS (upM μ 39 0 k x) q w := ⟨by rw [q_up, if_neg (by omega)]; exact h.1, by rw [q_up, if_neg (by omega)]; exact h.2⟩
theorem m_readOne {μ : mT} {tx : List Nat} {n p : Nat} (hx : pM μ tx) (hc : ∀ c ∈ tx, 33 ≤ c ∧ c ≤ 126) (hp : PS μ p 0) (h80 : p ≤ 800) (hn : μ 27 0 16 = nI n) (hn60 : n ≤ 60) :
    ∃ μ', f_X8_readOne μ = some (0, μ') ∧ o39 μ μ' ∧ RO tx μ' p n ∧ ∀ x, x < 3 * n → μ' 39 0 x = μ 39 0 x := by
  have hs := sgn_le (p := p) hc
  have hs1 := sgn_le (p := p + 1) hc
  unfold RO rdO
  by_cases c1 : sgn tx p = 112 ∨ sgn tx p = 113
  · rw [if_pos c1, m_ro_pq hx hp h80 hn hn60 c1]
    generalize hA : mA μ n p (sgn tx p) = A
    have oA : o39 μ A := by rw [← hA]; exact mA_o
    have pA : PS A (p + 1) 0 := by rw [← hA]; exact mA_p
    have nA : A 27 0 16 = nI n := by rw [← hA, mA_16]; exact hn
    have a0 : A 39 0 (3 * n) = nI (sgn tx p) := by rw [← hA, mA_39, if_neg (by omega), if_pos rfl]
    have al : ∀ x, x < 3 * n → A 39 0 x = μ 39 0 x := fun x h => by rw [← hA, mA_39, if_neg (by omega), if_neg (by omega)]
    obtain ⟨μ1, b1, b2, b3⟩ := m_one (a := 65) (b := 7) (oA.pM hx) pA (by omega) (by omega) (by omega) (by omega)
    rw [show (65 : Int32) = nI 65 from rfl, show (7 : Int32) = nI 7 from rfl, b1, q_bd]
    by_cases c2 : 65 ≤ sgn tx (p + 1) ∧ sgn tx (p + 1) ≤ 65 + 7
    · rw [if_pos c2] at b3 ⊢
      generalize hB : upM μ1 39 0 (3 * n + 1) (nI (sgn tx (p + 1)) - nI 65) = Bm
      have oB : o39 μ1 Bm := by rw [← hB]; exact o39_39
      have pB : PS Bm (p + 1 + 1) 0 := by rw [← hB]; exact PS39 b3
      have e39 : ∀ x, Bm 39 0 x = if x = 3 * n + 1 then nI (sgn tx (p + 1) - 65) else A 39 0 x := fun x => by
        rw [← hB, q_up]
        by_cases c : x = 3 * n + 1
        · rw [if_pos ⟨rfl, rfl, c⟩, if_pos c, q_sub c2.1]
        · rw [if_neg (fun z => c z.2.2), if_neg c, b2 39 0 x (by omega)]
      have nB : Bm 27 0 16 = nI n := by rw [← hB, q_up, if_neg (by omega), b2 27 0 16 (by omega)]; exact nA
      rw [if_pos pB.2]
      rcases m_number (oB.pM ((b2.w).pM (oA.pM hx))) hc pB (by omega) with ⟨c3, μ2, d1, d2, d3⟩ | ⟨c3, v, μ2, d1, d2, d3⟩
      · rw [if_pos c3, d1, q_bd]
        have e2 : ∀ x, μ2 39 0 x = Bm 39 0 x := fun x => d2 39 0 x (by omega)
        refine ⟨_, rfl, oA.tr (b2.w.tr (oB.tr (d2.w.tr (o39_39.tr m16_o)))), ⟨m16_p (PS39 d3), m16_16 ?_, ?_, fun _ => ?_, fun _ => ?_⟩, fun x hxl => ?_⟩
        · rw [q_up, if_neg (by omega), d2 27 0 16 (by omega)]; exact nB
        · rw [m16_39, q_up, if_neg (by omega), e2, e39, if_neg (by omega)]; exact a0
        · rw [m16_39, q_up, if_neg (by omega), e2, e39, if_pos rfl]
        · rw [m16_39, q_up, if_pos ⟨rfl, rfl, rfl⟩]
        · rw [m16_39, q_up, if_neg (by omega), e2, e39, if_neg (by omega)]; exact al x hxl
      · rw [if_neg c3, d1, q_bd]
        have e2 : ∀ x, μ2 39 0 x = Bm 39 0 x := fun x => d2 39 0 x (by omega)
        refine ⟨_, rfl, oA.tr (b2.w.tr (oB.tr (d2.w.tr (o39_39.tr m16_o)))), m16_p (PS39 d3), fun x hxl => ?_⟩
        rw [m16_39, q_up, if_neg (by omega), e2, e39, if_neg (by omega)]; exact al x hxl
    · rw [if_neg c2] at b3 ⊢
      rw [if_neg (by rw [q_up, if_neg (by omega), b3.2]; exact n10)]
      refine ⟨_, rfl, oA.tr (b2.w.tr (o39_39.tr (o39_39.tr m16_o))), m16_p (PS39 (PS39 b3)), fun x hxl => ?_⟩
      rw [m16_39, q_up, if_neg (by omega), q_up, if_neg (by omega), b2 39 0 x (by omega)]; exact al x hxl
  rw [if_neg c1]
  by_cases c2 : sgn tx p = 114
  · rw [if_pos c2, m_ro_r hx hp h80 hn hn60 c2]
    refine ⟨_, rfl, mA_o.tr m16_o, ⟨m16_p mA_p, m16_16 (mA_16.trans hn), ?_, fun z => absurd rfl z, fun z => absurd z (by omega)⟩, fun x hxl => ?_⟩
    · rw [m16_39, mA_39, if_neg (by omega), if_pos rfl]
    · rw [m16_39, mA_39, if_neg (by omega), if_neg (by omega)]
  rw [if_neg c2]
  by_cases c3 : sgn tx p = 116 ∨ sgn tx p = 119
  · rw [if_pos c3, m_ro_tw hx hp h80 hn hn60 c3]
    generalize hA : mA μ n p (sgn tx p) = A
    have oA : o39 μ A := by rw [← hA]; exact mA_o
    have pA : PS A (p + 1) 0 := by rw [← hA]; exact mA_p
    have nA : A 27 0 16 = nI n := by rw [← hA, mA_16]; exact hn
    have a0 : A 39 0 (3 * n) = nI (sgn tx p) := by rw [← hA, mA_39, if_neg (by omega), if_pos rfl]
    have al : ∀ x, x < 3 * n → A 39 0 x = μ 39 0 x := fun x h => by rw [← hA, mA_39, if_neg (by omega), if_neg (by omega)]
    rcases m_number (oA.pM hx) hc pA (by omega) with ⟨c4, μ2, d1, d2, d3⟩ | ⟨c4, v, μ2, d1, d2, d3⟩
    · rw [if_pos c4, d1, q_bd]
      have e2 : ∀ x, μ2 39 0 x = A 39 0 x := fun x => d2 39 0 x (by omega)
      refine ⟨_, rfl, oA.tr (d2.w.tr (o39_39.tr m16_o)), ⟨m16_p (PS39 d3), m16_16 ?_, ?_, fun _ => ?_, fun z => absurd z (by omega)⟩, fun x hxl => ?_⟩
      · rw [q_up, if_neg (by omega), d2 27 0 16 (by omega)]; exact nA
      · rw [m16_39, q_up, if_neg (by omega), e2]; exact a0
      · rw [m16_39, q_up, if_pos ⟨rfl, rfl, rfl⟩]
      · rw [m16_39, q_up, if_neg (by omega), e2]; exact al x hxl
    · rw [if_neg c4, d1, q_bd]
      have e2 : ∀ x, μ2 39 0 x = A 39 0 x := fun x => d2 39 0 x (by omega)
      refine ⟨_, rfl, oA.tr (d2.w.tr (o39_39.tr m16_o)), m16_p (PS39 d3), fun x hxl => ?_⟩
      rw [m16_39, q_up, if_neg (by omega), e2]; exact al x hxl
  rw [if_neg c3]
  exact m_ro_no hx hp h80 hn hn60 (by omega) c1 c2 c3
/-- the class's automaton, step by step -/
theorem sgn_get {tx : List Nat} {p : Nat} (h : p < tx.length) : tx[p]? = some (sgn tx p) := by
  unfold sgn
  rw [List.getElem?_eq_getElem h]
  rfl
theorem sgn_end {tx : List Nat} {p : Nat} (h : tx.length ≤ p) : sgn tx p = 0 := by
  unfold sgn
  rw [List.getElem?_eq_none h]
  rfl
theorem ff_lt {tx : List Nat} {p d : Nat} (h : p < tx.length) : ffS p d (tx.drop p) = if dfa d (sgn tx p) = 5 then some p else ffS (p + 1) (dfa d (sgn tx p)) (tx.drop (p + 1)) := by
  rw [drop_cons_of (sgn_get h)]
  rfl
theorem ff_ge {tx : List Nat} {p d : Nat} (h : tx.length ≤ p) : ffS p d (tx.drop p) = if d = 3 ∨ d = 4 then none else some p := by
  rw [List.drop_eq_nil_of_le h]
  rfl
theorem dfa_0 {d : Nat} : dfa d 0 = 5 := by
  unfold dfa
  split
  · rfl
  split
  · rfl
  split
  · rfl
  split
  · rfl
  · rfl
theorem ff_low {tx : List Nat} {p d : Nat} (hd : d ≤ 2) : ffS p d (tx.drop p) = if dfa d (sgn tx p) = 5 then some p else ffS (p + 1) (dfa d (sgn tx p)) (tx.drop (p + 1)) := by
  by_cases h : p < tx.length
  · exact ff_lt h
  · rw [ff_ge (by omega), if_neg (by omega), sgn_end (by omega), dfa_0, if_pos rfl]
theorem ff_4 {tx : List Nat} {p : Nat} : ffS p 4 (tx.drop p) = if tx.length ≤ p then none else if sgn tx p = 59 then ffS (p + 1) 0 (tx.drop (p + 1)) else some p := by
  by_cases h : p < tx.length
  · have e4 : dfa 4 (sgn tx p) = if sgn tx p = 59 then 0 else 5 := rfl
    rw [ff_lt h, e4, if_neg (show ¬ tx.length ≤ p by omega)]
    by_cases c : sgn tx p = 59
    · rw [if_pos c, if_pos c, if_neg (by omega)]
    · rw [if_neg c, if_neg c, if_pos rfl]
  · rw [ff_ge (by omega), if_pos (Or.inr rfl), if_pos (by omega)]
theorem ff_3 {tx : List Nat} {p : Nat} : ffS p 3 (tx.drop p) = if isD (sgn tx p) then ffS (p + 1) 4 (tx.drop (p + 1)) else ffS p 4 (tx.drop p) := by
  by_cases h : p < tx.length
  · have e3 : dfa 3 (sgn tx p) = if isD (sgn tx p) then 4 else if sgn tx p = 59 then 0 else 5 := rfl
    rw [ff_lt h, e3]
    by_cases c0 : isD (sgn tx p)
    · rw [if_pos c0, if_pos c0, if_neg (by omega)]
    · rw [if_neg c0, if_neg c0, ff_4, if_neg (show ¬ tx.length ≤ p by omega)]
      by_cases c : sgn tx p = 59
      · rw [if_pos c, if_pos c, if_neg (by omega)]
      · rw [if_neg c, if_neg c, if_pos rfl]
  · rw [ff_ge (by omega), if_pos (Or.inl rfl), if_neg (by rw [sgn_end (by omega)]; omega), ff_4, if_pos (by omega)]
theorem ff_2 {tx : List Nat} {p : Nat} : ffS p 2 (tx.drop p) = if isD (sgn tx p) then ffS (p + (numV tx p).2) 4 (tx.drop (p + (numV tx p).2)) else some p := by
  rw [ff_low (by omega)]
  unfold dfa numV
  simp only [Nat.reduceEqDiff, ↓reduceIte]
  by_cases c : sgn tx p = 48
  · rw [if_pos c, if_pos c, if_neg (by omega), if_pos (show isD (sgn tx p) by omega)]
  · rw [if_neg c, if_neg c]
    by_cases c2 : isD (sgn tx p)
    · rw [if_pos c2, if_pos c2, if_neg (by omega), ff_3]
      by_cases c3 : isD (sgn tx (p + 1))
      · rw [if_pos c3, if_pos c3]; rfl
      · rw [if_neg c3, if_neg c3]
    · rw [if_neg c2, if_neg c2, if_pos rfl]
def ffR (tx : List Nat) (r : Nat × Option (Nat × Nat × Nat)) : Option Nat := match r with
  | (q, none) => some q
  | (q, some _) => ffS q 4 (tx.drop q)
theorem ff_0 {tx : List Nat} {p : Nat} : ffS p 0 (tx.drop p) = ffR tx (rdO tx p) := by
  rw [ff_low (by omega)]
  unfold rdO
  have e0 : dfa 0 (sgn tx p) = if sgn tx p = 112 ∨ sgn tx p = 113 then 1 else if sgn tx p = 114 then 4 else if sgn tx p = 116 ∨ sgn tx p = 119 then 2 else 5 := rfl
  rw [e0]
  by_cases c1 : sgn tx p = 112 ∨ sgn tx p = 113
  · rw [if_pos c1, if_pos c1, if_neg (by omega), ff_low (by omega)]
    have e1 : dfa 1 (sgn tx (p + 1)) = if 65 ≤ sgn tx (p + 1) ∧ sgn tx (p + 1) ≤ 72 then 2 else 5 := rfl
    rw [e1]
    by_cases c2 : 65 ≤ sgn tx (p + 1) ∧ sgn tx (p + 1) ≤ 65 + 7
    · rw [if_pos c2, if_pos (show 65 ≤ sgn tx (p + 1) ∧ sgn tx (p + 1) ≤ 72 from c2), if_neg (by omega), show p + 1 + 1 = p + 2 from rfl, ff_2]
      by_cases c3 : isD (sgn tx (p + 2))
      · rw [if_pos c3, if_pos c3]; rfl
      · rw [if_neg c3, if_neg c3]; rfl
    · rw [if_neg c2, if_neg (show ¬ (65 ≤ sgn tx (p + 1) ∧ sgn tx (p + 1) ≤ 72) from c2), if_pos rfl]; rfl
  rw [if_neg c1, if_neg c1]
  by_cases c2 : sgn tx p = 114
  · rw [if_pos c2, if_pos c2, if_neg (by omega)]; rfl
  rw [if_neg c2, if_neg c2]
  by_cases c3 : sgn tx p = 116 ∨ sgn tx p = 119
  · rw [if_pos c3, if_pos c3, if_neg (by omega), ff_2]
    by_cases c4 : isD (sgn tx (p + 1))
    · rw [if_pos c4, if_pos c4]; rfl
    · rw [if_neg c4, if_neg c4]; rfl
  rw [if_neg c3, if_neg c3, if_pos rfl]; rfl
