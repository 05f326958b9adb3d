noncomputable def qMov (y : yT) (nt : Nat) (a : Int32) : Int32 := match tIx y.2.2.2.length a with
  | none => -1
  | some t => match y.2.2.2[t]? with
    | none => -1
    | some e => mvS y nt e.2
theorem m_moves {nt : Nat} {a : Int32} {y : yT} {μ : mT} (h : mY (μ 28 0) y) (hg : gN y nt) :
    ∃ μ', f_X8_moves a μ = some (qMov y nt a, μ') ∧ mY (μ' 28 0) y ∧ only μ μ' O3 := by
  unfold qMov
  cases et : tIx y.2.2.2.length a with
  | none =>
    refine ⟨μ, ?_, h, only.rf⟩
    unfold f_X8_moves
    rw [m_isTrain h hg.1.2.2.2.2.1, q_bd, et]
    rfl
  | some t =>
    obtain ⟨rfl, ht⟩ := tIx_some et
    obtain ⟨e, he⟩ : ∃ e, y.2.2.2[t]? = some e := ⟨_, List.getElem?_eq_getElem ht⟩
    dsimp only
    rw [he]
    exact m_movesOf h hg he
theorem k_moves {nt : Nat} {a : Int32} {y : yT} {μ : mT} (h : cY μ 0 y) (hg : gN y nt) :
    ∃ μ', f_X7_moves a μ = some (qMov y nt a, μ') ∧ only μ μ' (Yd 1) := by
  unfold f_X7_moves qMov
  rw [k_has h.2.2.2 hg.1.2.2.2.2.1, q_bd]
  cases et : tIx y.2.2.2.length a with
  | none => exact ⟨μ, rfl, only.rf⟩
  | some t =>
    obtain ⟨rfl, ht⟩ := tIx_some et
    obtain ⟨e, he⟩ : ∃ e, y.2.2.2[t]? = some e := ⟨_, List.getElem?_eq_getElem ht⟩
    obtain ⟨μ1, a1, a2⟩ := k_fewestMoves (j := 0) (by omega) h hg he
    dsimp only
    rw [if_pos (show (some t).isSome = true from rfl), if_neg n10, he, a1, q_bd]
    exact ⟨μ1, rfl, a2⟩
def qCnt (y : yT) (n13 n14 : Nat) (a : Int32) : Int32 := if a = 13 then nI n13 else if a = 14 then nI n14 else qYard y a
theorem k_count {nt nw tm B : Nat} {a : Int32} {y : yT} {hp : hT} {tx : List Nat} {μ : mT} (h : cY μ 0 y) (hi : iY y nt nw tm B) (hh : hC μ hp) (hx : pC μ tx) : f_X7_count a μ = some (qCnt y tx.length hp.1 a, μ) := by
  unfold f_X7_count qCnt
  rw [hx.1, hh.1]
  by_cases c : a = 13
  · rw [if_pos c, if_pos c]
  rw [if_neg c, if_neg c]
  by_cases c : a = 14
  · rw [if_pos c, if_pos c]
  rw [if_neg c, if_neg c, k_aboutYard h hi, q_bd]
theorem m_count' {nt nw tm B : Nat} {a : Int32} {y : yT} {hp : hT} {tx : List Nat} {t : Bool} {μ : mT} (hh : hM μ y hp t) (hi : iY y nt nw tm B) (hx : pM μ tx) : f_X8_count a μ = some (qCnt y tx.length hp.1 a, μ) := by
  rw [m_count hh.1 hi, hx.1, hh.2.1]
  rfl
theorem k_ofTrack {nt nw tm B : Nat} {a b : Int32} {y : yT} {μ : mT} (h : cY μ 0 y) (hi : iY y nt nw tm B) : f_X7_ofTrack a b μ = some (qTrack y a b, μ) := by
  unfold f_X7_ofTrack
  rw [k_aboutTrack h hi, q_bd]
theorem k_ofWagon {nt nw tm B : Nat} {a b : Int32} {y : yT} {μ : mT} (h : cY μ 0 y) (hi : iY y nt nw tm B) : f_X7_ofWagon a b μ = some (qWagon y a b, μ) := by
  unfold f_X7_ofWagon
  rw [k_aboutWagon h hi, q_bd]
theorem k_ofTrain {nt nw tm B : Nat} {a b : Int32} {y : yT} {μ : mT} (h : cY μ 0 y) (hi : iY y nt nw tm B) : f_X7_ofTrain a b μ = some (qTrain y a b, μ) := by
  unfold f_X7_ofTrain
  rw [k_aboutTrain h hi, q_bd]
-- what the operations keep
theorem iY.up {y : yT} {nt nw tm B B' : Nat} (h : iY y nt nw tm B) (hb : B ≤ B') : iY y nt nw tm B' := by
  obtain ⟨⟨a1, a2, a3, a4, a5, a6⟩, b, c, d, e, f, g, k, ⟨l1, l2⟩, m, n⟩ := h
  refine ⟨⟨a1, a2, a3, a4, a5, by omega⟩, b, c, d, e, f, g, k, ⟨l1, fun x hx => ?_⟩, m, fun x hx => ?_⟩
  · obtain ⟨p, q, p1, p2, p3⟩ := l2 x hx
    exact ⟨p, q, by omega, by omega, p3⟩
  · obtain ⟨⟨p, p1, p2⟩, p3⟩ := n x hx
    exact ⟨⟨p, by omega, p2⟩, p3⟩
/-- only numbers that iY does not speak of are set -/
theorem iY.sc {y : yT} {nt nw tm B : Nat} (h : iY y nt nw tm B) {s : sT} (h0 : ∀ k, k ≤ 8 → s 0 k = y.1 0 k) (h5 : s 5 = y.1 5) : iY (s, y.2) nt nw tm B := by
  obtain ⟨⟨a1, a2, a3, a4, a5, a6⟩, b, c, d, e, f, g, k, l, m, n⟩ := h
  refine ⟨⟨(h0 7 (by omega)).trans a1, a2, (h0 8 (by omega)).trans a3, a4, (h0 6 (by omega)).trans a5, a6⟩, fun k hk => by
    obtain ⟨v, v1, v2⟩ := b k hk
    exact ⟨v, v1, (h0 k (by omega)).trans v2⟩, c, d, e, f, fun w hw r hr hm => ?_, fun w hw hm => ?_, l, m, n⟩
  · show s 5 w = -6
    rw [h5]; exact g w hw r hr hm
  · show 0 ≤ s 5 w
    rw [h5]; exact k w hw hm
/-- the minute grows, and blocks that are over go -/
theorem iY_ctm {y : yT} {nt nw tm B tm' : Nat} (h : iY y nt nw tm B) (hm : tm' ≤ B) : iY (ctm y (nI tm')) nt nw tm' B := by
  obtain ⟨⟨a1, a2, a3, a4, a5, a6⟩, b, c, d, e, f, g, k, ⟨l1, l2⟩, m, n⟩ := h
  have hs : ∀ a k, ¬ (a = 0 ∧ k = 6) → (ctm y (nI tm')).1 a k = y.1 a k := fun a k q => sU_n q
  refine ⟨⟨?_, a2, ?_, a4, ?_, hm⟩, fun k hk => ?_, c, d, e, f, fun w hw r hr hm => ?_, fun w hw hm => ?_, ⟨?_, fun x hx => l2 x ((List.mem_filter.mp hx).1)⟩, m, n⟩
  · exact (hs 0 7 (by omega)).trans a1
  · exact (hs 0 8 (by omega)).trans a3
  · exact sU_s (s := y.1) (a := 0) (k := 6) (x := nI tm')
  · obtain ⟨v, v1, v2⟩ := b k hk
    exact ⟨v, v1, (hs 0 k (by omega)).trans v2⟩
  · exact (hs 5 w (by omega)).trans (g w hw r hr hm)
  · rw [hs 5 w (by omega)]
    exact k w hw hm
  · exact Nat.le_trans (List.length_filter_le _ _) l1
theorem iY.bends {y : yT} {nt nw tm B : Nat} (h : iY y nt nw tm B) : ∀ b ∈ y.2.2.1, ∃ e, e ≤ B ∧ b.2 = nI e := fun b hb => by
  obtain ⟨x, e, p1, p2, p3⟩ := h.2.2.2.2.2.2.2.2.1.2 b hb
  exact ⟨e, p2, by rw [p3]⟩
