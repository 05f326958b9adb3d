abbrev isD (c : Nat) : Prop := 48 ≤ c ∧ c ≤ 57
theorem sgn_le {tx : List Nat} {p : Nat} (h : ∀ c ∈ tx, 33 ≤ c ∧ c ≤ 126) : sgn tx p ≤ 126 := by
  unfold sgn
  cases e : tx[p]? with
  | none => simp
  | some c => exact (h c (List.mem_of_getElem? e)).2
theorem m_num9s {μ : mT} {tx : List Nat} {p v f : Nat} (hx : pM μ tx) (hc : ∀ c ∈ tx, 33 ≤ c ∧ c ≤ 126) (hp : PS μ p 0) (h80 : p ≤ 1000) (hv : 1 ≤ v) (hv2 : v ≤ 99) :
    f_X8_number_L9 (f + 1) (nI v) μ = if isD (sgn tx p) ∧ 10 * v + sgn tx p - 48 ≤ 99 then f_X8_number_L9 f (nI (10 * v + sgn tx p - 48)) (upM μ 27 0 17 (nI (p + 1))) else some (nI v, μ) := by
  have hs := sgn_le (p := p) hc
  have e48 : (48 : Int32) = nI 48 := rfl
  have e57 : (57 : Int32) = nI 57 := rfl
  have e99 : (99 : Int32) = nI 99 := rfl
  have e10 : (10 : Int32) = nI 10 := rfl
  have hin : (nI (sgn tx p) < nI 48 ∨ nI 57 < nI (sgn tx p)) ↔ ¬ isD (sgn tx p) := by
    rw [nI_ltI (by omega) (by omega), nI_ltI (by omega) (by omega)]
    omega
  rw [f_X8_number_L9, hp.2, if_pos p00, if_neg (nI_nle (by omega) (by omega)), m_sign hx hp h80, q_bd, e48, e57, m_in, q_bd]
  by_cases c : isD (sgn tx p)
  case neg =>
    rw [if_pos (hin.mpr c), if_pos p00, if_neg (fun z => c z.1)]
  rw [if_neg (fun z => hin.mp z c), if_neg n10, m_sign hx hp h80, q_bd, e10, q_mul, q_add, q_sub (by omega), e99]
  by_cases c2 : 10 * v + sgn tx p - 48 ≤ 99
  · rw [if_neg (nI_nlt c2 (by omega)), if_pos ⟨c, c2⟩, m_sign hx hp h80, q_bd, q_lt, hp.1, q_add, q_sub (by omega), show (nI p + 1 : Int32) = nI (p + 1) from nI_1 p, q_lt]
  · rw [if_pos (nI_lt (by omega) (by omega)), if_neg (fun z => c2 z.2)]
theorem PS.step {μ : mT} {p q : Nat} (h : PS μ p 0) : PS (upM μ 27 0 17 (nI q)) q 0 := ⟨by rw [q_up, if_pos ⟨rfl, rfl, rfl⟩], by rw [q_up, if_neg (by omega)]; exact h.2⟩
theorem o78_17 {μ : mT} {x : Int32} : o78 μ (upM μ 27 0 17 x) := fun κ j k h => by rw [q_up, if_neg (by omega)]
/-- a number from place p: its value and how many signs it has -/
def numV (tx : List Nat) (p : Nat) : Nat × Nat :=
  if sgn tx p = 48 then (0, 1) else if isD (sgn tx (p + 1)) then (10 * (sgn tx p - 48) + (sgn tx (p + 1) - 48), 2) else (sgn tx p - 48, 1)
theorem m_number {μ : mT} {tx : List Nat} {p : Nat} (hx : pM μ tx) (hc : ∀ c ∈ tx, 33 ≤ c ∧ c ≤ 126) (hp : PS μ p 0) (h80 : p ≤ 900) :
    (isD (sgn tx p) ∧ ∃ μ', f_X8_number μ = some (nI (numV tx p).1, μ') ∧ o78 μ μ' ∧ PS μ' (p + (numV tx p).2) 0) ∨ (¬ isD (sgn tx p) ∧ ∃ v μ', f_X8_number μ = some (v, μ') ∧ o78 μ μ' ∧ PS μ' p 1) := by
  have hs := sgn_le (p := p) hc
  have hs2 := sgn_le (p := p + 1) hc
  obtain ⟨μ1, a1, a2, a3⟩ := m_one (a := 48) (b := 9) hx hp (by omega) (by omega) (by omega) (by omega)
  unfold f_X8_number
  rw [show (48 : Int32) = nI 48 from rfl, show (9 : Int32) = nI 9 from rfl, a1, q_bd]
  by_cases c : isD (sgn tx p)
  · left
    rw [if_pos (show 48 ≤ sgn tx p ∧ sgn tx p ≤ 48 + 9 from c)] at a3
    have hx1 := a2.pM hx
    refine ⟨c, ?_⟩
    rw [q_sub (by omega), show fu = 3999 + 1 from rfl]
    unfold numV
    by_cases c0 : sgn tx p = 48
    · rw [if_pos c0, c0, f_X8_number_L9, a3.2, if_pos p00, if_pos (by decide)]
      exact ⟨μ1, rfl, a2, a3⟩
    · rw [if_neg c0, m_num9s hx1 hc a3 (by omega) (by omega) (by omega)]
      by_cases c2 : isD (sgn tx (p + 1))
      · rw [if_pos ⟨c2, by omega⟩, if_pos c2]
        have hx2 := (o78_17 (x := nI (p + 1 + 1))).pM hx1
        have hp2 := a3.step (q := p + 1 + 1)
        rw [show 3999 = 3998 + 1 from rfl, m_num9s hx2 hc hp2 (by omega) (by omega) (by omega), if_neg (by omega)]
        refine ⟨_, ?_, a2.tr o78_17, hp2⟩
        rw [show 10 * (sgn tx p - 48) + sgn tx (p + 1) - 48 = 10 * (sgn tx p - 48) + (sgn tx (p + 1) - 48) by omega]
      · rw [if_neg (fun z => c2 z.1), if_neg c2]
        exact ⟨μ1, rfl, a2, a3⟩
  · right
    rw [if_neg (show ¬ (48 ≤ sgn tx p ∧ sgn tx p ≤ 48 + 9) from c)] at a3
    refine ⟨c, nI (sgn tx p) - nI 48, μ1, ?_, a2, a3⟩
    rw [show fu = 3999 + 1 from rfl, f_X8_number_L9, a3.2, if_neg n10]
