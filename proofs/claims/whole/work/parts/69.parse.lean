/-- the reader's place and its flag -/
def PS (μ : mT) (p : Nat) (w : Int32) : Prop := μ 27 0 17 = nI p ∧ μ 27 0 18 = w
def o78 (μ μ' : mT) : Prop := ∀ κ j k, ¬ (κ = 27 ∧ j = 0 ∧ (k = 17 ∨ k = 18)) → μ' κ j k = μ κ j k
theorem o78.rf {μ : mT} : o78 μ μ := fun _ _ _ _ => rfl
theorem o78.tr {μ μ1 μ2 : mT} (a : o78 μ μ1) (b : o78 μ1 μ2) : o78 μ μ2 := fun κ j k h => (b κ j k h).trans (a κ j k h)
theorem o78.pM {μ μ' : mT} {tx : List Nat} (h : o78 μ μ') (hx : pM μ tx) : pM μ' tx := ⟨(h 27 0 8 (by omega)).trans hx.1, hx.2.1, fun i c q => (h 34 0 i (by omega)).trans (hx.2.2 i c q)⟩
def sgn (tx : List Nat) (p : Nat) : Nat := (tx[p]?).getD 0
theorem m_sign {μ : mT} {tx : List Nat} {p : Nat} {w : Int32} (hx : pM μ tx) (hp : PS μ p w) (h80 : p ≤ 1000) : f_X8_sign μ = some (nI (sgn tx p), μ) := by
  have hl := hx.2.1
  unfold f_X8_sign sgn
  rw [hp.1, hx.1]
  by_cases c : tx.length ≤ p
  · rw [if_pos (nI_le c (by omega)), List.getElem?_eq_none c]
    rfl
  · obtain ⟨s, hs⟩ : ∃ s, tx[p]? = some s := ⟨_, List.getElem?_eq_getElem (by omega)⟩
    rw [if_neg (nI_ge (by omega) (by omega)), q_gdi (by omega) (by omega), q_cl (by omega), hx.2.2 p s hs, hs]
    rfl
/-- one sign between a and a + b is eaten, else the flag is set -/
theorem m_one {μ : mT} {tx : List Nat} {p a b : Nat} (hx : pM μ tx) (hp : PS μ p 0) (h80 : p ≤ 1000) (ha : a ≤ 200) (hb : b ≤ 200) (hs : sgn tx p ≤ 200) :
    ∃ μ', f_X8_one (nI a) (nI b) μ = some (nI (sgn tx p) - nI a, μ') ∧ o78 μ μ' ∧ (if a ≤ sgn tx p ∧ sgn tx p ≤ a + b then PS μ' (p + 1) 0 else PS μ' p 1) := by
  unfold f_X8_one
  rw [m_sign hx hp h80, q_bd, q_lt, q_lt, q_lt, hp.2, if_pos p00, m_in, q_bd]
  have hd : (nI (sgn tx p) - nI a).toInt = (sgn tx p : Int) - (a : Int) := by
    rw [Int32.toInt_sub, nI_toInt (by omega), nI_toInt (by omega)]
    exact Int.bmod_eq_of_le (by omega) (by omega)
  have hr : (nI (sgn tx p) - nI a < 0 ∨ nI b < nI (sgn tx p) - nI a) ↔ ¬ (a ≤ sgn tx p ∧ sgn tx p ≤ a + b) := by
    rw [Int32.lt_iff_toInt_lt, Int32.lt_iff_toInt_lt, hd, nI_toInt (by omega)]
    show ((sgn tx p : Int) - (a : Int) < 0 ∨ _) ↔ _
    omega
  by_cases c : a ≤ sgn tx p ∧ sgn tx p ≤ a + b
  · simp only [if_pos c]
    rw [if_neg (fun q => hr.mp q c), if_neg n10]
    rw [q_gd (by decide), q_lt]
    have e18 : upM μ 27 0 18 0 27 0 18 = 0 := by rw [q_up, if_pos ⟨rfl, rfl, rfl⟩]
    have e17 : upM μ 27 0 18 0 27 0 17 = nI p := by rw [q_up, if_neg (by omega)]; exact hp.1
    rw [e18, if_pos p00, e17, show (nI p + 1 : Int32) = nI (p + 1) from nI_1 p, q_lt]
    exact ⟨_, rfl, fun κ j k h => by rw [q_up, if_neg (by omega), q_up, if_neg (by omega)], by rw [q_up, if_pos ⟨rfl, rfl, rfl⟩], by rw [q_up, if_neg (by omega)]; exact e18⟩
  · simp only [if_neg c]
    rw [if_pos (hr.mpr c), if_pos p00]
    rw [q_gd (by decide), q_lt]
    have e18 : upM μ 27 0 18 1 27 0 18 = 1 := by rw [q_up, if_pos ⟨rfl, rfl, rfl⟩]
    have e17 : upM μ 27 0 18 1 27 0 17 = nI p := by rw [q_up, if_neg (by omega)]; exact hp.1
    rw [e18, if_neg n10, e17, Int32.add_zero, q_lt]
    exact ⟨_, rfl, fun κ j k h => by rw [q_up, if_neg (by omega), q_up, if_neg (by omega)], by rw [q_up, if_pos ⟨rfl, rfl, rfl⟩], by rw [q_up, if_neg (by omega)]; exact e18⟩
