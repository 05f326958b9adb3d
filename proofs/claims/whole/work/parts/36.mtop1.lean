def hF (hp : hT) : Prop := ∀ i, i < hp.1 → gY (hp.2 i)
def MR (μ : mT) (y : yT) (hp : hT) (tx : Bool) (r : Int32 × yT) (o : Option (Int32 × mT)) : Prop :=
  ∃ μ', o = some (r.1, μ') ∧ hM μ' r.2 (if r.1 < 0 then hp else pT tx hp y) tx ∧ only μ μ' Mh ∧ k27 μ μ'
theorem n10 : ¬ (1 : Int32) = 0 := by decide
theorem p00 : (0 : Int32) = 0 := rfl
theorem MR.no {μ : mT} {y : yT} {hp : hT} {tx : Bool} (h : hM μ y hp tx) (a : Int32) (ha : a < 0) : MR μ y hp tx (a, y) (some (a, μ)) :=
  ⟨μ, rfl, by dsimp only; rw [if_pos ha]; exact h, only.rf, fun _ _ => rfl⟩
theorem MR.yes {μ μ1 μ' : mT} {y y' : yT} {hp : hT} {tx : Bool} {a : Int32} (b2 : hM μ1 y (pT tx hp y) tx) (b3 : only μ μ1 (fun κ j => (κ = 27 ∨ κ = 31) ∧ j = 0)) (b4 : k27 μ μ1) (hy : mY (μ' 28 0) y') (ho : only μ1 μ' Mo) (ha : ¬ a < 0) : MR μ y hp tx (a, y') (some (a, μ')) :=
  ⟨μ', rfl, by dsimp only; rw [if_neg ha]; exact b2.now hy ho, (b3.w (by unfold Mh; omega)).tr (ho.w (by unfold Mo Mh; omega)), b4.tr (k27_o ho)⟩
theorem gD {y : yT} {nt nw tm B t n : Nat} (hi : iY y nt nw tm B) (ht : t < nt) (hn : n ≤ (y.2.1 t).length) : gY (dO y t n) :=
  (gN_D (s := (dO y t n).1) (bl := y.2.2.1) hi.gn (by
    unfold dO nP
    dsimp only
    rw [sU_n (by omega), if_neg (by omega)]) ht hn hi.bl).1
theorem gB {y : yT} {nt nw tm B t n : Nat} (hi : iY y nt nw tm B) (ht : t < nt) (hn : n ≤ (y.2.1 8).length) : gY (sBk y t n) :=
  (gN_B (s := (sBk y t n).1) (bl := y.2.2.1) hi.gn (by
    unfold sBk
    dsimp only
    rw [sU_n (by omega)]) ht hn hi.bl).1
theorem gR {y : yT} {nt nw tm B : Nat} (hi : iY y nt nw tm B) : gY (y.1, rwR y.2.1, y.2.2) :=
  (gN_R (s := y.1) (bl := y.2.2.1) hi.gn rfl hi.bl).1
theorem m_pull {nt nw tm B : Nat} {a b : Int32} {y : yT} {hp : hT} {tx : Bool} {μ : mT} (h : hM μ y hp tx) (hi : iY y nt nw tm B) (hf : hF hp) :
    MR μ y hp tx (sPull y a b) (f_X8_pull a b μ) := by
  unfold f_X8_pull sPull
  rw [m_isTrack h.1 hi.hnt hi.nt8, q_bd]
  by_cases ht : isT y a = true
  · obtain ⟨t, ht1, rfl⟩ := isT_in hi.hnt hi.nt8 ht
    have hn8 := hi.nt8
    rw [if_pos ht, if_pos ht, if_neg n10, m_in, q_bd]
    by_cases hb : b < 1 ∨ 30 < b
    · rw [if_pos hb, if_pos hb, if_pos p00]
      exact MR.no h _ (by decide)
    · rw [if_neg hb, if_neg hb, if_neg n10]
      obtain ⟨n, n1, n2, rfl⟩ := b30 hb
      rw [m_canPull h.1 hi.rOK (by omega) (by omega), q_bd, q_cl (by omega), q_cl (by omega)]
      by_cases hc : canP y t n = true
      · rw [if_pos hc, if_pos hc, if_neg n10]
        have hle : n ≤ (y.2.1 t).length := by
          unfold canP at hc
          rw [Bool.and_eq_true, decide_eq_true_eq] at hc
          exact hc.1
        have hl8 := (hi.rOK 8 (by omega)).1
        obtain ⟨μ1, b1, b2, b3, b4⟩ := m_record h hi.g hf
        rw [b1, q_bd]
        obtain ⟨μ2, c1, c2, c3⟩ := m_drawOut b2.1 hi.g (t := t) (n := n) (by omega) hle
        rw [c1, q_bd]
        have e2 : μ1 28 0 (2 : Int32).toNatClampNeg = y.1 0 2 := b2.1.1.z (k := 2) (by omega)
        rw [e2]
        obtain ⟨μ3, d1, d2, d3⟩ := m_take (m := y.1 0 2) (jn := jD y t n) c2 (gD hi ht1 hle)
        rw [d1, q_bd]
        have e9 : μ3 28 0 (9 : Int32).toNatClampNeg = nI ((y.2.1 8).length + n) := by
          have := d2.2.1.n8
          rw [show (9 : Int32).toNatClampNeg = 9 from rfl, this]
          show nI (rwD y.2.1 t n 8).length = _
          unfold rwD
          rw [if_neg (by omega), if_pos rfl, List.length_append, List.length_take]
          congr 1
          omega
        rw [e9]
        exact MR.yes b2 b3 b4 d2 (c3.tr d3) (nI_pos (by omega))
      · rw [if_neg hc, if_neg hc, if_pos p00]
        exact MR.no h _ (by decide)
  · rw [if_neg ht, if_neg ht, if_pos p00]
    exact MR.no h _ (by decide)
theorem m_push {nt nw tm B : Nat} {a b : Int32} {y : yT} {hp : hT} {tx : Bool} {μ : mT} (h : hM μ y hp tx) (hi : iY y nt nw tm B) (hf : hF hp) :
    MR μ y hp tx (sPush y a b) (f_X8_push a b μ) := by
  unfold f_X8_push sPush
  rw [m_isTrack h.1 hi.hnt hi.nt8, q_bd]
  by_cases ht : isT y a = true
  · obtain ⟨t, ht1, rfl⟩ := isT_in hi.hnt hi.nt8 ht
    have hn8 := hi.nt8
    rw [if_pos ht, if_pos ht, if_neg n10, m_in, q_bd]
    by_cases hb : b < 1 ∨ 30 < b
    · rw [if_pos hb, if_pos hb, if_pos p00]
      exact MR.no h _ (by decide)
    · rw [if_neg hb, if_neg hb, if_neg n10]
      obtain ⟨n, n1, n2, rfl⟩ := b30 hb
      rw [m_canPush h.1 hi.rOK (by omega) (by omega), q_bd, q_cl (by omega), q_cl (by omega)]
      by_cases hc : canQ y t n = true
      · rw [if_pos hc, if_pos hc, if_neg n10]
        have hle : n ≤ (y.2.1 8).length := by
          unfold canQ at hc
          rw [Bool.and_eq_true, decide_eq_true_eq] at hc
          exact hc.1
        have hl8 := (hi.rOK 8 (by omega)).1
        obtain ⟨μ1, b1, b2, b3, b4⟩ := m_record h hi.g hf
        rw [b1, q_bd]
        obtain ⟨μ2, c1, c2, c3⟩ := m_setBack b2.1 hi.g (t := t) (n := n) (by omega) hle
        rw [c1, q_bd]
        have e2 : μ1 28 0 (2 : Int32).toNatClampNeg = y.1 0 2 := b2.1.1.z (k := 2) (by omega)
        rw [e2]
        obtain ⟨μ3, d1, d2, d3⟩ := m_take (m := y.1 0 2) (jn := jB y t) c2 (gB hi ht1 hle)
        rw [d1, q_bd]
        have e9 : μ3 28 0 (9 : Int32).toNatClampNeg = nI ((y.2.1 8).length - n) := by
          have := d2.2.1.n8
          rw [show (9 : Int32).toNatClampNeg = 9 from rfl, this]
          show nI (rwB y.2.1 t n 8).length = _
          unfold rwB
          rw [if_neg (by omega), if_pos rfl, List.length_take]
          congr 1
          omega
        rw [e9]
        exact MR.yes b2 b3 b4 d2 (c3.tr d3) (nI_pos (by omega))
      · rw [if_neg hc, if_neg hc, if_pos p00]
        exact MR.no h _ (by decide)
  · rw [if_neg ht, if_neg ht, if_pos p00]
    exact MR.no h _ (by decide)
theorem m_round {nt nw tm B : Nat} {y : yT} {hp : hT} {tx : Bool} {μ : mT} (h : hM μ y hp tx) (hi : iY y nt nw tm B) (hf : hF hp) (ha : ¬ (sRnd y).1 0 6 < 0) :
    MR μ y hp tx (sRound y) (f_X8_round μ) := by
  unfold f_X8_round sRound
  rw [m_canRound h.1 hi.rOK, q_bd]
  by_cases hc : canR y = true
  · rw [if_pos hc, if_pos hc, if_neg n10]
    obtain ⟨μ1, b1, b2, b3, b4⟩ := m_record h hi.g hf
    rw [b1, q_bd]
    obtain ⟨μ2, c1, c2, c3⟩ := m_turnRound b2.1 hi.g
    rw [c1, q_bd]
    have e2 : μ2 28 0 (4 : Int32).toNatClampNeg = y.1 0 4 := c2.1.z (k := 4) (by omega)
    rw [e2]
    obtain ⟨μ3, d1, d2, d3⟩ := m_take (m := y.1 0 4) (jn := 2) c2 (gR hi)
    rw [d1, q_bd]
    have e9 : μ3 28 0 (6 : Int32).toNatClampNeg = (sRnd y).1 0 6 := d2.1.z (k := 6) (by omega)
    rw [e9]
    exact MR.yes b2 b3 b4 d2 (c3.tr d3) ha
  · rw [if_neg hc, if_neg hc, if_pos p00]
    exact MR.no h _ (by decide)
theorem m_pass {nt nw tm B : Nat} {a : Int32} {y : yT} {hp : hT} {tx : Bool} {μ : mT} (h : hM μ y hp tx) (hi : iY y nt nw tm B) (hf : hF hp) (hB : B < 2000000000) :
    MR μ y hp tx (sPass y a) (f_X8_pass a μ) := by
  unfold f_X8_pass sPass
  rw [m_in, q_bd]
  by_cases hb : a < 1 ∨ 999 < a
  · rw [if_pos hb, if_pos hb, if_pos p00]
    exact MR.no h _ (by decide)
  · rw [if_neg hb, if_neg hb, if_neg n10]
    obtain ⟨μ1, b1, b2, b3, b4⟩ := m_record h hi.g hf
    rw [b1, q_bd]
    have e2 : μ1 28 0 (6 : Int32).toNatClampNeg = y.1 0 6 := b2.1.1.z (k := 6) (by omega)
    rw [e2]
    obtain ⟨μ3, d1, d2, d3⟩ := m_comeTo (t := y.1 0 6 + a) b2.1 hi.g
    rw [d1, q_bd]
    have e9 : μ3 28 0 (6 : Int32).toNatClampNeg = y.1 0 6 + a := d2.1.z (k := 6) (by omega)
    rw [e9]
    refine MR.yes b2 b3 b4 d2 d3 ?_
    have h0 : ¬ a < 0 := fun q => hb (Or.inl (Int32.lt_of_lt_of_le q (by decide)))
    obtain ⟨n, hn, e⟩ := nI_of2 (M := 999) (n := 999) (by decide) h0 (Int32.not_lt.mp (fun q => hb (Or.inr q)))
    rw [hi.htm, e, q_add]
    have := hi.tmB
    exact nI_pos (by omega)
