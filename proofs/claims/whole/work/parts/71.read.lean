def o39 (μ μ' : mT) : Prop := ∀ κ j k, ¬ (κ = 27 ∧ j = 0 ∧ (k = 16 ∨ k = 17 ∨ k = 18)) → ¬ (κ = 39 ∧ j = 0) → μ' κ j k = μ κ j k
theorem o39.rf {μ : mT} : o39 μ μ := fun _ _ _ _ _ => rfl
theorem o39.tr {μ μ1 μ2 : mT} (a : o39 μ μ1) (b : o39 μ1 μ2) : o39 μ μ2 := fun κ j k h h' => (b κ j k h h').trans (a κ j k h h')
theorem o78.w {μ μ' : mT} (a : o78 μ μ') : o39 μ μ' := fun κ j k h _ => a κ j k (by omega)
theorem o39.pM {μ μ' : mT} {tx : List Nat} (h : o39 μ μ') (hx : pM μ tx) : pM μ' tx := ⟨(h 27 0 8 (by omega) (by omega)).trans hx.1, hx.2.1, fun i c q => (h 34 0 i (by omega) (by omega)).trans (hx.2.2 i c q)⟩
theorem o39_39 {μ : mT} {k : Nat} {x : Int32} : o39 μ (upM μ 39 0 k x) := fun κ j k' h h' => by rw [q_up, if_neg (by omega)]
theorem o39_16 {μ : mT} {x : Int32} : o39 μ (upM μ 27 0 16 x) := fun κ j k' h h' => by rw [q_up, if_neg (by omega)]
theorem o39_17 {μ : mT} {x : Int32} : o39 μ (upM μ 27 0 17 x) := fun κ j k' h h' => by rw [q_up, if_neg (by omega)]
theorem o39_18 {μ : mT} {x : Int32} : o39 μ (upM μ 27 0 18 x) := fun κ j k' h h' => by rw [q_up, if_neg (by omega)]
/-- an order from place p: its end, or the fault's place; its kind and its two numbers -/
def rdO (tx : List Nat) (p : Nat) : Nat × Option (Nat × Nat × Nat) :=
  if sgn tx p = 112 ∨ sgn tx p = 113 then
    (if 65 ≤ sgn tx (p + 1) ∧ sgn tx (p + 1) ≤ 65 + 7 then
      (if isD (sgn tx (p + 2)) then (p + 2 + (numV tx (p + 2)).2, some (sgn tx p, sgn tx (p + 1) - 65, (numV tx (p + 2)).1)) else (p + 2, none))
     else (p + 1, none))
  else if sgn tx p = 114 then (p + 1, some (114, 0, 0))
  else if sgn tx p = 116 ∨ sgn tx p = 119 then
    (if isD (sgn tx (p + 1)) then (p + 1 + (numV tx (p + 1)).2, some (sgn tx p, (numV tx (p + 1)).1, 0)) else (p + 1, none))
  else (p, none)
def mA (μ : mT) (n p s : Nat) : mT := upM (upM (upM (upM μ 39 0 (3 * n) (nI s)) 39 0 (3 * n + 1) 0) 27 0 18 0) 27 0 17 (nI (p + 1))
def m16 (μ : mT) : mT := upM μ 27 0 16 (μ 27 0 16 + 1)
theorem mA_o {μ : mT} {n p s : Nat} : o39 μ (mA μ n p s) := o39_39.tr (o39_39.tr (o39_18.tr o39_17))
theorem mA_p {μ : mT} {n p s : Nat} : PS (mA μ n p s) (p + 1) 0 := ⟨by unfold mA; rw [q_up, if_pos ⟨rfl, rfl, rfl⟩], by unfold mA; rw [q_up, if_neg (by omega), q_up, if_pos ⟨rfl, rfl, rfl⟩]⟩
theorem mA_16 {μ : mT} {n p s : Nat} : mA μ n p s 27 0 16 = μ 27 0 16 := by
  unfold mA
  rw [q_up, if_neg (by omega), q_up, if_neg (by omega), q_up, if_neg (by omega), q_up, if_neg (by omega)]
theorem mA_39 {μ : mT} {n p s x : Nat} : mA μ n p s 39 0 x = if x = 3 * n + 1 then 0 else if x = 3 * n then nI s else μ 39 0 x := by
  unfold mA
  rw [q_up, if_neg (by omega), q_up, if_neg (by omega), q_up]
  by_cases c : x = 3 * n + 1
  · rw [if_pos ⟨rfl, rfl, c⟩, if_pos c]
  · rw [if_neg (fun z => c z.2.2), if_neg c, q_up]
    by_cases c2 : x = 3 * n
    · rw [if_pos ⟨rfl, rfl, c2⟩, if_pos c2]
    · rw [if_neg (fun z => c2 z.2.2), if_neg c2]
section RO
variable {μ : mT} {tx : List Nat} {n p : Nat}
theorem m_ro_pq (hx : pM μ tx) (hp : PS μ p 0) (h80 : p ≤ 800) (hn : μ 27 0 16 = nI n) (hn60 : n ≤ 60) (hs : sgn tx p = 112 ∨ sgn tx p = 113) :
    f_X8_readOne μ = bd (f_X8_one 65 7 (mA μ n p (sgn tx p))) (fun v μ1 => if (upM μ1 39 0 (3 * n + 1) v) 27 0 18 = 0 then bd (f_X8_number (upM μ1 39 0 (3 * n + 1) v)) (fun v2 μ2 => some (0, m16 (upM μ2 39 0 (3 * n + 2) v2))) else some (0, m16 (upM (upM μ1 39 0 (3 * n + 1) v) 39 0 (3 * n + 2) 0))) := by
  have e1 : (nI (3 * n) + 1 : Int32) = nI (3 * n + 1) := nI_1 _
  have e2 : (nI (3 * n) + 2 : Int32) = nI (3 * n + 2) := q_add _ 2
  have e3 : (nI p + 1 : Int32) = nI (p + 1) := nI_1 _
  unfold f_X8_readOne mA m16
  rw [hn, show (3 : Int32) = nI 3 from rfl, q_mul, q_lt, m_sign hx hp (by omega), q_bd]
  have hb : isB (0 : Int32) = true := by decide
  rcases hs with hs | hs
  · rw [hs]
    have ea : ((nI 112 : Int32) = 112) = True := eq_true rfl
    simp (disch := first | omega | assumption) only [q_lt, e1, e2, e3, q_gdi, q_cl, ea, ↓reduceIte, q_gd hb, q_up, Nat.reduceEqDiff, false_and, and_false, true_and, and_true, ↓reduceIte, hp.1, eq_self]
  · rw [hs]
    have ea : ((nI 113 : Int32) = 112) = False := eq_false (by decide)
    have eb : ((nI 113 : Int32) = 113) = True := eq_true rfl
    simp (disch := first | omega | assumption) only [q_lt, e1, e2, e3, q_gdi, q_cl, ea, eb, ↓reduceIte, q_gd hb, q_up, Nat.reduceEqDiff, false_and, and_false, true_and, and_true, ↓reduceIte, hp.1, eq_self]
theorem m_ro_r (hx : pM μ tx) (hp : PS μ p 0) (h80 : p ≤ 800) (hn : μ 27 0 16 = nI n) (hn60 : n ≤ 60) (hs : sgn tx p = 114) :
    f_X8_readOne μ = some (0, m16 (mA μ n p 114)) := by
  have e1 : (nI (3 * n) + 1 : Int32) = nI (3 * n + 1) := nI_1 _
  have e3 : (nI p + 1 : Int32) = nI (p + 1) := nI_1 _
  unfold f_X8_readOne mA m16
  rw [hn, show (3 : Int32) = nI 3 from rfl, q_mul, q_lt, m_sign hx hp (by omega), q_bd, hs]
  have hb : isB (0 : Int32) = true := by decide
  have ea : ((nI 114 : Int32) = 112) = False := eq_false (by decide)
  have eb : ((nI 114 : Int32) = 113) = False := eq_false (by decide)
  have ec : ((nI 114 : Int32) = 114) = True := eq_true rfl
  simp (disch := first | omega | assumption) only [q_lt, e1, e3, q_gdi, q_cl, ea, eb, ec, ↓reduceIte, q_gd hb, q_up, Nat.reduceEqDiff, false_and, and_false, true_and, and_true, ↓reduceIte, hp.1, eq_self]
theorem m_ro_tw (hx : pM μ tx) (hp : PS μ p 0) (h80 : p ≤ 800) (hn : μ 27 0 16 = nI n) (hn60 : n ≤ 60) (hs : sgn tx p = 116 ∨ sgn tx p = 119) :
    f_X8_readOne μ = bd (f_X8_number (mA μ n p (sgn tx p))) (fun v μ1 => some (0, m16 (upM μ1 39 0 (3 * n + 1) v))) := by
  have e1 : (nI (3 * n) + 1 : Int32) = nI (3 * n + 1) := nI_1 _
  have e3 : (nI p + 1 : Int32) = nI (p + 1) := nI_1 _
  unfold f_X8_readOne mA m16
  rw [hn, show (3 : Int32) = nI 3 from rfl, q_mul, q_lt, m_sign hx hp (by omega), q_bd]
  have hb : isB (0 : Int32) = true := by decide
  rcases hs with hs | hs
  · rw [hs]
    have ea : ((nI 116 : Int32) = 112) = False := eq_false (by decide)
    have eb : ((nI 116 : Int32) = 113) = False := eq_false (by decide)
    have ec : ((nI 116 : Int32) = 114) = False := eq_false (by decide)
    have ed : ((nI 116 : Int32) = 119) = False := eq_false (by decide)
    have ee : ((nI 116 : Int32) = 116) = True := eq_true rfl
    simp (disch := first | omega | assumption) only [q_lt, e1, e3, q_gdi, q_cl, ea, eb, ec, ed, ee, ↓reduceIte, q_gd hb, q_up, Nat.reduceEqDiff, false_and, and_false, true_and, and_true, ↓reduceIte, hp.1, eq_self]
  · rw [hs]
    have ea : ((nI 119 : Int32) = 112) = False := eq_false (by decide)
    have eb : ((nI 119 : Int32) = 113) = False := eq_false (by decide)
    have ec : ((nI 119 : Int32) = 114) = False := eq_false (by decide)
    have ed : ((nI 119 : Int32) = 119) = True := eq_true rfl
    simp (disch := first | omega | assumption) only [q_lt, e1, e3, q_gdi, q_cl, ea, eb, ec, ed, ↓reduceIte, q_gd hb, q_up, Nat.reduceEqDiff, false_and, and_false, true_and, and_true, ↓reduceIte, hp.1, eq_self]
theorem m_ro_no (hx : pM μ tx) (hp : PS μ p 0) (h80 : p ≤ 800) (hn : μ 27 0 16 = nI n) (hn60 : n ≤ 60) (hs : sgn tx p < 1000) (h1 : ¬ (sgn tx p = 112 ∨ sgn tx p = 113)) (h2 : ¬ sgn tx p = 114) (h3 : ¬ (sgn tx p = 116 ∨ sgn tx p = 119)) :
    ∃ μ', f_X8_readOne μ = some (0, μ') ∧ o39 μ μ' ∧ PS μ' p 1 ∧ ∀ x, x < 3 * n → μ' 39 0 x = μ 39 0 x := by
  have e1 : (nI (3 * n) + 1 : Int32) = nI (3 * n + 1) := nI_1 _
  unfold f_X8_readOne
  rw [hn, show (3 : Int32) = nI 3 from rfl, q_mul, q_lt, m_sign hx hp (by omega), q_bd]
  have hb : isB (1 : Int32) = true := by decide
  have ea : (nI (sgn tx p) = 112) = False := eq_false (by rw [show (112 : Int32) = nI 112 from rfl, nI_eq (by omega) (by omega)]; omega)
  have eb : (nI (sgn tx p) = 113) = False := eq_false (by rw [show (113 : Int32) = nI 113 from rfl, nI_eq (by omega) (by omega)]; omega)
  have ec : (nI (sgn tx p) = 114) = False := eq_false (by rw [show (114 : Int32) = nI 114 from rfl, nI_eq (by omega) (by omega)]; omega)
  have ed : (nI (sgn tx p) = 119) = False := eq_false (by rw [show (119 : Int32) = nI 119 from rfl, nI_eq (by omega) (by omega)]; omega)
  have ee : (nI (sgn tx p) = 116) = False := eq_false (by rw [show (116 : Int32) = nI 116 from rfl, nI_eq (by omega) (by omega)]; omega)
  have e10 : ((1 : Int32) = 0) = False := eq_false n10
  simp (disch := first | omega | assumption) only [q_lt, e1, q_gdi, q_cl, ea, eb, ec, ed, ee, e10, ↓reduceIte, q_gd hb, q_up, Nat.reduceEqDiff, false_and, and_false, true_and, and_true, ↓reduceIte, eq_self]
  refine ⟨_, rfl, o39_39.tr (o39_39.tr o39_18), ⟨?_, ?_⟩, fun x hx => ?_⟩
  · rw [q_up, if_neg (by omega), q_up, if_neg (by omega), q_up, if_neg (by omega)]; exact hp.1
  · rw [q_up, if_pos ⟨rfl, rfl, rfl⟩]
  · rw [q_up, if_neg (by omega), q_up, if_neg (by omega), q_up, if_neg (by omega)]
end RO
