theorem pT_f {hp : hT} {y : yT} : pT false hp y = pH hp y := if_neg (by decide)
theorem uH_k {hp : hT} {y : yT} {B : Nat} (h : ∀ i, i < hp.1 → kY (hp.2 i) B) (hy : kY y B) : kY (uH hp y).2.1 B ∧ ∀ i, i < (uH hp y).2.2.1 → kY ((uH hp y).2.2.2 i) B := by
  unfold uH
  by_cases c : hp.1 = 0
  · rw [if_pos c]; exact ⟨hy, h⟩
  · rw [if_neg c]
    exact ⟨h _ (by omega), fun i hi => h i (by dsimp only at hi; omega)⟩
theorem st_undo {μ : mT} {B : Nat} (h : RR μ B) : ST μ (B + 5000) f_X7_undo f_X8_undo := by
  obtain ⟨y, hp, zs, tx, h1, h2, h3, h4, h5, h6, h7, h8, h9, h10, h11⟩ := h
  obtain ⟨μ1, a1, a2, a3, a4⟩ := k_undo (y := y) h2 h1 (hFk h9)
  have ok : only μ μ1 Sk := a4.w (by unfold Sk; omega)
  obtain ⟨μ2, b1, b2, b3, b4⟩ := m_undo (h5.o ok) (hFk h9)
  obtain ⟨k1, k2⟩ := uH_k h9 h8
  refine ⟨_, μ1, μ2, a1, b1, _, _, zs, tx, a2.o (fun κ hκ => b3 κ 0 (by unfold Mh; omega)), a3.o b3 (fun κ j z => by unfold Mh at z; omega), (h3.o a4 (fun κ j z => by omega)).o b3 (fun κ j z => by unfold Mh at z; omega), (h4.o (a4 21 0 (by omega)) (a4 25 0 (by omega))).o (b3 21 0 (by unfold Mh; omega)) (b3 25 0 (by unfold Mh; omega)), b2, (h6.o a4 (fun κ j z => by omega)).o b3 (fun κ j z => by unfold Mh at z; omega), (h7.o ok).k (b4 8 (by omega)) (b3 34 0 (by unfold Mh; omega)), k1.up (by omega), fun i hi => (k2 i hi).up (by omega), fun k z q => (h10 k z q).up (by omega), h11⟩
theorem st_save {μ : mT} {B : Nat} {a : Int32} (h : RR μ B) : ST μ (B + 5000) (f_X7_save a) (f_X8_save a) := by
  obtain ⟨y, hp, zs, tx, h1, h2, h3, h4, h5, h6, h7, h8, h9, h10, h11⟩ := h
  obtain ⟨μ1, a1, a2, a3⟩ := k_save (a := a) h1 h8.g h3
  have ok : only μ μ1 Sk := a3.w (by unfold Sk; omega)
  have hm := h5.o ok
  obtain ⟨μ2, b1, b2, b3⟩ := m_save (a := a) hm.1 h8.g (fun k z q => (h10 k z q).g) (h6.o a3 (fun κ j z => by omega))
  have hz : ∀ k z, (sSave y zs a).2 k = some z → kY z (B + 5000) := fun k z q => by
    unfold sSave at q
    split at q
    · exact (h10 k z q).up (by omega)
    · dsimp only at q
      split at q
      · cases q; exact h8.up (by omega)
      · exact (h10 k z q).up (by omega)
  refine ⟨_, μ1, μ2, a1, b1, y, hp, _, tx, (h1.o (fun κ hκ => a3 κ 0 (by omega))).o (fun κ hκ => b3 κ 0 (by omega)), ?_, a2.o b3 (fun κ j z => by omega), (h4.o (a3 21 0 (by omega)) (a3 25 0 (by omega))).o (b3 21 0 (by omega)) (b3 25 0 (by omega)), ⟨by rw [b3 28 0 (by omega)]; exact hm.1, by rw [b3 27 0 (by omega)]; exact hm.2.1, hm.2.2.1, by rw [b3 31 0 (by omega)]; exact hm.2.2.2.1, by rw [b3 27 0 (by omega)]; exact hm.2.2.2.2⟩, b2, (h7.o ok).k (by rw [b3 27 0 (by omega)]) (b3 34 0 (by omega)), h8.up (by omega), fun i hi => (h9 i hi).up (by omega), hz, h11⟩
  exact (h2.o a3 (fun κ j z => by omega)).o b3 (fun κ j z => by omega)
theorem sPut_ok {tx : List Nat} {N : Nat} (h : ∀ c ∈ tx, 33 ≤ c ∧ c ≤ 126) : ∀ c ∈ (sPut tx N).2, 33 ≤ c ∧ c ≤ 126 := by
  unfold sPut
  by_cases c0 : (bysL 8 N).length = 0
  · rw [if_pos c0]; exact h
  rw [if_neg c0]
  by_cases c1 : okB (bysL 8 N) = true
  · rw [if_pos c1]
    by_cases c2 : tx.length + (bysL 8 N).length ≤ 80
    · rw [if_pos c2]
      intro c hc
      rcases List.mem_append.mp hc with z | z
      · exact h c z
      · rw [List.mem_reverse] at z
        unfold okB at c1
        rw [List.all_eq_true] at c1
        have := c1 c z
        rw [Bool.and_eq_true, decide_eq_true_eq, decide_eq_true_eq] at this
        exact this
    · rw [if_neg c2]; exact h
  · rw [if_neg c1]; exact h
theorem st_put {μ : mT} {B : Nat} {a : Int64} (h : RR μ B) : ST μ (B + 5000) (f_X7_put a) (f_X8_put a) := by
  obtain ⟨y, hp, zs, tx, h1, h2, h3, h4, h5, h6, h7, h8, h9, h10, h11⟩ := h
  obtain ⟨μ1, a1, a2, a3⟩ := k_put (a := a) h4
  have ok : only μ μ1 Sk := a3.w (by unfold Sk; omega)
  have hm := h5.o ok
  obtain ⟨μ2, b1, b2, b3, b4⟩ := m_put (a := a) (h7.o ok)
  refine ⟨_, μ1, μ2, a1, b1, y, hp, zs, _, (h1.o (fun κ hκ => a3 κ 0 (by omega))).o (fun κ hκ => b3 κ 0 (by omega)), (h2.o a3 (fun κ j z => by omega)).o b3 (fun κ j z => by omega), (h3.o a3 (fun κ j z => by omega)).o b3 (fun κ j z => by omega), a2.o (b3 21 0 (by omega)) (b3 25 0 (by omega)), ⟨by rw [b3 28 0 (by omega)]; exact hm.1, by rw [b4 4 (by omega)]; exact hm.2.1, hm.2.2.1, by rw [b3 31 0 (by omega)]; exact hm.2.2.2.1, by rw [b4 9 (by omega)]; exact hm.2.2.2.2⟩, (h6.o a3 (fun κ j z => by omega)).o b3 (fun κ j z => by omega), b2, h8.up (by omega), fun i hi => (h9 i hi).up (by omega), fun k z q => (h10 k z q).up (by omega), sPut_ok h11⟩
theorem st_wipe {μ : mT} {B : Nat} (h : RR μ B) : ST μ (B + 5000) f_X7_wipe f_X8_wipe := by
  obtain ⟨y, hp, zs, tx, h1, h2, h3, h4, h5, h6, h7, h8, h9, h10, h11⟩ := h
  obtain ⟨μ1, a1, a2, a3⟩ := k_wipe h4
  have ok : only μ μ1 Sk := a3.w (by unfold Sk; omega)
  have hm := h5.o ok
  obtain ⟨μ2, b1, b2, b3, b4⟩ := m_wipe (h7.o ok)
  refine ⟨_, μ1, μ2, a1, b1, y, hp, zs, _, (h1.o (fun κ hκ => a3 κ 0 (by omega))).o (fun κ hκ => b3 κ 0 (by omega)), (h2.o a3 (fun κ j z => by omega)).o b3 (fun κ j z => by omega), (h3.o a3 (fun κ j z => by omega)).o b3 (fun κ j z => by omega), a2.o (b3 21 0 (by omega)) (b3 25 0 (by omega)), ⟨by rw [b3 28 0 (by omega)]; exact hm.1, by rw [b4 4 (by omega)]; exact hm.2.1, hm.2.2.1, by rw [b3 31 0 (by omega)]; exact hm.2.2.2.1, by rw [b4 9 (by omega)]; exact hm.2.2.2.2⟩, (h6.o a3 (fun κ j z => by omega)).o b3 (fun κ j z => by omega), b2, h8.up (by omega), fun i hi => (h9 i hi).up (by omega), fun k z q => (h10 k z q).up (by omega), fun c hc => (List.not_mem_nil hc).elim⟩
