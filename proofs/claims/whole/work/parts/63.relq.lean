def Sq : Nat → Nat → Prop := fun κ j => (κ = 27 ∨ κ = 28 ∨ κ = 29 ∨ κ = 30 ∨ κ = 36 ∨ κ = 37 ∨ κ = 38) ∧ j = 0
theorem st_query {μ : mT} {B : Nat} {o1 o2 : mT → Option (Int32 × mT)} (h : RR μ B) (hr : ∀ y hp tx, cY μ 0 y → hC μ hp → pC μ tx → kY y B → ∃ v μ1, o1 μ = some (v, μ1) ∧ only μ μ1 (Yd 1) ∧ (hM μ1 y hp false → pM μ1 tx → ∃ μ2, o2 μ1 = some (v, μ2) ∧ mY (μ2 28 0) y ∧ only μ1 μ2 Sq ∧ ∀ x, x ≠ 14 → μ2 27 0 x = μ1 27 0 x)) : ST μ (B + 5000) o1 o2 := by
  obtain ⟨y, hp, zs, tx, h1, h2, h3, h4, h5, h6, h7, h8, h9, h10, h11⟩ := h
  obtain ⟨v, μ1, a1, a2, a3⟩ := hr y hp tx h1 h2 h4 h8
  have ok : only μ μ1 Sk := a2.w (by unfold Yd Sk; omega)
  have hm := h5.o ok
  have hx := h7.o ok
  obtain ⟨μ2, b1, b2, b3, b4⟩ := a3 hm hx
  refine ⟨v, μ1, μ2, a1, b1, y, hp, zs, tx, ?_, ?_, ?_, ?_, ⟨b2, ?_, hm.2.2.1, ?_, ?_⟩, ?_, ?_, h8.up (by omega), fun i hi => (h9 i hi).up (by omega), fun k z q => (h10 k z q).up (by omega), h11⟩
  · exact (h1.o (fun κ hκ => a2 κ 0 (by unfold Yd; omega))).o (fun κ hκ => b3 κ 0 (by unfold Sq; omega))
  · exact (h2.o a2 (fun κ j z => by unfold Yd at z; omega)).o b3 (fun κ j z => by unfold Sq at z; omega)
  · exact (h3.o a2 (fun κ j z => by unfold Yd at z; omega)).o b3 (fun κ j z => by unfold Sq at z; omega)
  · exact (h4.o (a2 21 0 (by unfold Yd; omega)) (a2 25 0 (by unfold Yd; omega))).o (b3 21 0 (by unfold Sq; omega)) (b3 25 0 (by unfold Sq; omega))
  · rw [b4 4 (by omega)]; exact hm.2.1
  · rw [b3 31 0 (by unfold Sq; omega)]; exact hm.2.2.2.1
  · rw [b4 9 (by omega)]; exact hm.2.2.2.2
  · exact (h6.o a2 (fun κ j z => by unfold Yd at z; omega)).o b3 (fun κ j z => by unfold Sq at z; omega)
  · exact hx.k (b4 8 (by omega)) (b3 34 0 (by unfold Sq; omega))
/-- a question that sets nothing -/
theorem st_pure {μ : mT} {B : Nat} {o1 o2 : mT → Option (Int32 × mT)} (h : RR μ B) (hr : ∀ y hp tx, cY μ 0 y → hC μ hp → pC μ tx → kY y B → ∃ v, o1 μ = some (v, μ) ∧ (hM μ y hp false → pM μ tx → o2 μ = some (v, μ))) : ST μ (B + 5000) o1 o2 :=
  st_query h (fun y hp tx h1 h2 h4 h8 => by
    obtain ⟨v, a, b⟩ := hr y hp tx h1 h2 h4 h8
    exact ⟨v, μ, a, only.rf, fun hm hx => ⟨μ, b hm hx, hm.1, only.rf, fun _ _ => rfl⟩⟩)
section SQ
variable {μ : mT} {B : Nat} {a b : Int32}
theorem st_ofTrack (h : RR μ B) : ST μ (B + 5000) (f_X7_ofTrack a b) (f_X8_ofTrack a b) := st_pure h (fun y hp tx h1 h2 h4 ⟨nt, nw, tm, hi⟩ => ⟨_, k_ofTrack h1 hi, fun hm _ => m_ofTrack hm.1 hi⟩)
theorem st_at (h : RR μ B) : ST μ (B + 5000) (f_X7_at a b) (f_X8_at a b) := st_pure h (fun y hp tx h1 h2 h4 ⟨nt, nw, tm, hi⟩ => ⟨_, k_at h1 hi, fun hm _ => m_at hm.1 hi⟩)
theorem st_ofWagon (h : RR μ B) : ST μ (B + 5000) (f_X7_ofWagon a b) (f_X8_ofWagon a b) := st_pure h (fun y hp tx h1 h2 h4 ⟨nt, nw, tm, hi⟩ => ⟨_, k_ofWagon h1 hi, fun hm _ => m_ofWagon hm.1 hi⟩)
theorem st_ofTrain (h : RR μ B) : ST μ (B + 5000) (f_X7_ofTrain a b) (f_X8_ofTrain a b) := st_pure h (fun y hp tx h1 h2 h4 ⟨nt, nw, tm, hi⟩ => ⟨_, k_ofTrain h1 hi, fun hm _ => m_ofTrain hm.1 hi⟩)
theorem st_count (h : RR μ B) : ST μ (B + 5000) (f_X7_count a) (f_X8_count a) := st_pure h (fun y hp tx h1 h2 h4 ⟨nt, nw, tm, hi⟩ => ⟨_, k_count h1 hi h2 h4, fun hm hx => m_count' hm hi hx⟩)
theorem st_freeFrom (h : RR μ B) : ST μ (B + 5000) (f_X7_freeFrom a) (f_X8_freeFrom a) := st_pure h (fun y hp tx h1 h2 h4 ⟨nt, nw, tm, hi⟩ => ⟨_, k_freeFrom h1 hi, fun hm _ => m_freeFrom hm.1 hi⟩)
theorem st_roomFor (h : RR μ B) : ST μ (B + 5000) f_X7_roomFor f_X8_roomFor := st_pure h (fun y hp tx h1 h2 h4 ⟨nt, nw, tm, hi⟩ => ⟨_, k_roomFor h1 hi, fun hm _ => m_roomFor hm.1 hi⟩)
theorem st_buried (h : RR μ B) : ST μ (B + 5000) f_X7_buried f_X8_buried := st_pure h (fun y hp tx h1 h2 h4 ⟨nt, nw, tm, hi⟩ => ⟨_, k_buried h1 hi, fun hm _ => m_buried hm.1 hi⟩)
theorem st_straight (h : RR μ B) : ST μ (B + 5000) (f_X7_straight a) (f_X8_straight a) := st_query h (fun y hp tx h1 h2 h4 ⟨nt, nw, tm, hi⟩ => by
  obtain ⟨μ1, p1, p2⟩ := k_straight (a := a) h1 hi.gn
  refine ⟨_, μ1, p1, p2, fun hm _ => ?_⟩
  obtain ⟨μ2, q1, q2, q3⟩ := m_straight (a := a) hm.1 hi.gn
  exact ⟨μ2, q1, by rw [q2 28 0 (by unfold L5; omega)]; exact hm.1, q2.w (by unfold L5 Sq; omega), q3⟩)
theorem st_pulls (h : RR μ B) : ST μ (B + 5000) (f_X7_pulls a) (f_X8_pulls a) := st_query h (fun y hp tx h1 h2 h4 ⟨nt, nw, tm, hi⟩ => by
  obtain ⟨μ1, p1, p2⟩ := k_pulls (a := a) h1 hi.gn
  refine ⟨_, μ1, p1, p2, fun hm _ => ?_⟩
  obtain ⟨μ2, q1, q2, q3⟩ := m_pulls (a := a) hm.1 hi.gn
  exact ⟨μ2, q1, by rw [q2 28 0 (by unfold L5; omega)]; exact hm.1, q2.w (by unfold L5 Sq; omega), q3⟩)
theorem st_wouldLeave (h : RR μ B) (hB : B < 800000000) : ST μ (B + 5000) (f_X7_wouldLeave a) (f_X8_wouldLeave a) := st_query h (fun y hp tx h1 h2 h4 ⟨nt, nw, tm, hi⟩ => by
  obtain ⟨μ1, p1, p2⟩ := k_wouldLeave (a := a) h1 hi
  refine ⟨_, μ1, p1, p2, fun hm _ => ?_⟩
  obtain ⟨μ2, q1, q2, q3⟩ := m_wouldLeave (a := a) hm.1 hi (by omega)
  exact ⟨μ2, q1, by rw [q2 28 0 (by unfold L5; omega)]; exact hm.1, q2.w (by unfold L5 Sq; omega), q3⟩)
theorem st_moves (h : RR μ B) : ST μ (B + 5000) (f_X7_moves a) (f_X8_moves a) := st_query h (fun y hp tx h1 h2 h4 ⟨nt, nw, tm, hi⟩ => by
  obtain ⟨μ1, p1, p2⟩ := k_moves (a := a) h1 hi.gn
  refine ⟨_, μ1, p1, p2, fun hm _ => ?_⟩
  obtain ⟨μ2, q1, q2, q3⟩ := m_moves (a := a) hm.1 hi.gn
  exact ⟨μ2, q1, q2, q3.w (by unfold O3 Sq; omega), fun x _ => by rw [q3 27 0 (by unfold O3; omega)]⟩)
end SQ
