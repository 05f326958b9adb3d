/-- what is due behind a sign: 0 a kind, 1 a track, 2 a number's first sign, 3 its second or the end, 4 the end, 5 a fault -/
def dfa (d c : Nat) : Nat :=
  if d = 0 then (if c = 112 ∨ c = 113 then 1 else if c = 114 then 4 else if c = 116 ∨ c = 119 then 2 else 5)
  else if d = 1 then (if 65 ≤ c ∧ c ≤ 72 then 2 else 5)
  else if d = 2 then (if c = 48 then 4 else if 48 ≤ c ∧ c ≤ 57 then 3 else 5)
  else if d = 3 then (if 48 ≤ c ∧ c ≤ 57 then 4 else if c = 59 then 0 else 5)
  else (if c = 59 then 0 else 5)
theorem dfa_le (d c : Nat) : dfa d c ≤ 5 := by
  unfold dfa
  repeat' split
  all_goals omega
/-- the place of the first fault, or none -/
def ffS : Nat → Nat → List Nat → Option Nat
  | i, d, [] => if d = 3 ∨ d = 4 then none else some i
  | i, d, c :: l => if dfa d c = 5 then some i else ffS (i + 1) (dfa d c) l
theorem k_digit {c : Nat} (hc : c < 256) {μ : mT} : f_X2_isDigit (nI c) μ = some (if 48 ≤ c ∧ c ≤ 57 then 1 else 0, μ) := by
  unfold f_X2_isDigit
  rw [show (48 : Int32) = nI 48 from rfl, show (57 : Int32) = nI 57 from rfl]
  by_cases c1 : c < 48
  · rw [if_pos (nI_lt c1 (by omega)), if_neg (by omega)]
  · rw [if_neg (nI_nlt (by omega) (by omega))]
    by_cases c2 : 57 < c
    · rw [if_pos (nI_lt c2 (by omega)), if_neg (by omega)]
    · rw [if_neg (nI_nlt (by omega) (by omega)), if_pos (by omega)]
theorem k_kind {c : Nat} (hc : c < 256) {μ : mT} : f_X2_dueBehindKind (nI c) μ = some (nI (dfa 0 c), μ) := by
  unfold f_X2_dueBehindKind dfa
  rw [show (112 : Int32) = nI 112 from rfl, show (113 : Int32) = nI 113 from rfl, show (114 : Int32) = nI 114 from rfl, show (116 : Int32) = nI 116 from rfl, show (119 : Int32) = nI 119 from rfl]
  simp only [nI_eq (show c < 2 ^ 31 by omega) (show 112 < 2 ^ 31 by omega), nI_eq (show c < 2 ^ 31 by omega) (show 113 < 2 ^ 31 by omega), nI_eq (show c < 2 ^ 31 by omega) (show 114 < 2 ^ 31 by omega), nI_eq (show c < 2 ^ 31 by omega) (show 116 < 2 ^ 31 by omega), nI_eq (show c < 2 ^ 31 by omega) (show 119 < 2 ^ 31 by omega)]
  rw [if_pos True.intro]
  by_cases c1 : c = 112
  · rw [if_pos c1, if_pos (Or.inl c1)]; rfl
  by_cases c2 : c = 113
  · rw [if_neg c1, if_pos c2, if_pos (Or.inr c2)]; rfl
  rw [if_neg c1, if_neg c2, if_neg (show ¬ (c = 112 ∨ c = 113) from fun z => z.elim c1 c2)]
  by_cases c3 : c = 114
  · rw [if_pos c3, if_pos c3]; rfl
  rw [if_neg c3, if_neg c3]
  by_cases c4 : c = 116
  · rw [if_pos c4, if_pos (Or.inl c4)]; rfl
  by_cases c5 : c = 119
  · rw [if_neg c4, if_pos c5, if_pos (Or.inr c5)]; rfl
  rw [if_neg c4, if_neg c5, if_neg (show ¬ (c = 116 ∨ c = 119) from fun z => z.elim c4 c5)]
  rfl
theorem k_due {d c : Nat} (hd : d < 5) (hc : c < 256) {μ : mT} : f_X2_dueBehind (nI d) (nI c) μ = some (nI (dfa d c), μ) := by
  unfold f_X2_dueBehind
  rw [k_kind hc, q_bd, k_digit hc, q_bd, q_bd]
  have e59 : (nI c = 59) = (c = 59) := by rw [show (59 : Int32) = nI 59 from rfl, nI_eq (by omega) (by omega)]
  have e48 : (nI c = 48) = (c = 48) := by rw [show (48 : Int32) = nI 48 from rfl, nI_eq (by omega) (by omega)]
  have e65 : (nI c < 65) = (c < 65) := by rw [show (65 : Int32) = nI 65 from rfl, nI_ltI (by omega) (by omega)]
  have e72 : ((72 : Int32) < nI c) = (72 < c) := by rw [show (72 : Int32) = nI 72 from rfl, nI_ltI (by omega) (by omega)]
  rcases (show d = 0 ∨ d = 1 ∨ d = 2 ∨ d = 3 ∨ d = 4 by omega) with rfl | rfl | rfl | rfl | rfl
  · rw [if_pos (by decide)]
  · rw [if_neg (by decide), if_pos (by decide)]
    unfold dfa
    simp only [e65, e72, Nat.reduceEqDiff, ↓reduceIte]
    by_cases c1 : c < 65
    · rw [if_pos c1, if_neg (by omega)]; rfl
    · rw [if_neg c1]
      by_cases c2 : 72 < c
      · rw [if_pos c2, if_neg (by omega)]; rfl
      · rw [if_neg c2, if_pos (by omega)]; rfl
  · rw [if_neg (by decide), if_neg (by decide), if_pos (by decide)]
    unfold dfa
    simp only [e48, Nat.reduceEqDiff, ↓reduceIte]
    by_cases c1 : c = 48
    · rw [if_pos c1, if_pos c1]; rfl
    · rw [if_neg c1, if_neg c1]
      by_cases c2 : 48 ≤ c ∧ c ≤ 57
      · rw [if_pos c2, if_pos c2, if_neg n10]; rfl
      · rw [if_neg c2, if_neg c2, if_pos p00]; rfl
  · rw [if_neg (by decide), if_neg (by decide), if_neg (by decide), if_pos (by decide)]
    unfold dfa
    simp only [e59, Nat.reduceEqDiff, ↓reduceIte]
    by_cases c2 : 48 ≤ c ∧ c ≤ 57
    · rw [if_pos c2, if_pos c2, if_neg n10]; rfl
    · rw [if_neg c2, if_neg c2, if_pos p00]
      by_cases c3 : c = 59
      · rw [if_pos c3, if_pos c3]; rfl
      · rw [if_neg c3, if_neg c3]; rfl
  · rw [if_neg (by decide), if_neg (by decide), if_neg (by decide), if_neg (by decide)]
    unfold dfa
    simp only [e59, Nat.reduceEqDiff, ↓reduceIte]
    by_cases c3 : c = 59
    · rw [if_pos c3, if_pos c3]; rfl
    · rw [if_neg c3, if_neg c3]; rfl
def ffA (o : Option Nat) : Int32 := match o with
  | none => -6
  | some i => nI i
theorem k_ff4 {tx : List Nat} {μ : mT} (h : pC μ tx) (hc : ∀ c ∈ tx, 33 ≤ c ∧ c ≤ 126) : ∀ (n f i d : Nat), i + n = tx.length → n < f → d < 5 →
    f_X2_firstFault_L4 (fun v5 μ6 => if v5 = 3 then some (-6, μ6) else if v5 = 4 then some (-6, μ6) else some (μ6 21 0 0, μ6)) f (nI d) (nI i) μ = some (ffA (ffS i d (tx.drop i)), μ) := by
  have h80 := h.2.1
  intro n
  induction n with
  | zero =>
    intro f i d hi hf hd
    obtain ⟨f, rfl⟩ : ∃ n', f = n' + 1 := ⟨f - 1, by omega⟩
    rw [f_X2_firstFault_L4, h.1, if_pos (nI_le (by omega) (by omega)), List.drop_eq_nil_of_le (by omega), show (3 : Int32) = nI 3 from rfl, show (4 : Int32) = nI 4 from rfl]
    unfold ffS
    by_cases c3 : d = 3
    · rw [if_pos (by rw [c3]), if_pos (Or.inl c3)]; rfl
    · rw [if_neg (show ¬ nI d = nI 3 from by rw [nI_eq (by omega) (by omega)]; exact c3)]
      by_cases c4 : d = 4
      · rw [if_pos (by rw [c4]), if_pos (Or.inr c4)]; rfl
      · rw [if_neg (show ¬ nI d = nI 4 from by rw [nI_eq (by omega) (by omega)]; exact c4), if_neg (fun z => z.elim c3 c4), show tx.length = i by omega]
        rfl
  | succ n ih =>
    intro f i d hi hf hd
    obtain ⟨f, rfl⟩ : ∃ n', f = n' + 1 := ⟨f - 1, by omega⟩
    obtain ⟨c, hci⟩ : ∃ c, tx[i]? = some c := ⟨_, List.getElem?_eq_getElem (by omega)⟩
    have hcb := hc c (List.mem_of_getElem? hci)
    have hle := dfa_le d c
    rw [f_X2_firstFault_L4, h.1, if_neg (nI_ge (by omega) (by omega)), q_gdi (by omega) (by omega), q_cl (by omega), h.2.2 i c hci, k_due hd (by omega), q_bd, drop_cons_of hci, show (5 : Int32) = nI 5 from rfl]
    unfold ffS
    by_cases c5 : dfa d c = 5
    · rw [if_pos (by rw [c5]), if_pos c5]; rfl
    · rw [if_neg (show ¬ nI (dfa d c) = nI 5 from by rw [nI_eq (by omega) (by omega)]; exact c5), if_neg c5, q_lt, show (nI i + 1 : Int32) = nI (i + 1) from nI_1 i]
      exact ih f (i + 1) (dfa d c) (by omega) (by omega) (by omega)
theorem k_fault {tx : List Nat} {μ : mT} (h : pC μ tx) (hc : ∀ c ∈ tx, 33 ≤ c ∧ c ≤ 126) : f_X2_firstFault μ = some (ffA (ffS 0 0 tx), μ) := by
  have h80 := h.2.1
  unfold f_X2_firstFault
  rw [q_lt]
  exact k_ff4 h hc tx.length fu 0 0 (by omega) (by unfold fu; omega) (by omega)
