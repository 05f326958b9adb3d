theorem hM.flag {μ : mT} {y : yT} {hp : hT} {t t' : Bool} {x : Int32} (h : hM μ y hp t) (hx : x = if t' = true then 1 else 0) : hM (upM μ 27 0 9 x) y hp t' := by
  obtain ⟨a, b, c, d, e⟩ := h
  have o : only μ (upM μ 27 0 9 x) (fun κ j => κ = 27 ∧ j = 0) := q_uple rfl
  exact ⟨by rw [o 28 0 (by omega)]; exact a, by rw [q_up, if_neg (by omega)]; exact b, c, by rw [o 31 0 (by omega)]; exact d, by rw [q_up, if_pos ⟨rfl, rfl, rfl⟩]; exact hx⟩
theorem hM.pad {μ : mT} {y : yT} {hp : hT} {t : Bool} {x : Int32} (h : hM μ y hp t) : hM (upM μ 27 0 8 x) y hp t := by
  obtain ⟨a, b, c, d, e⟩ := h
  have o : only μ (upM μ 27 0 8 x) (fun κ j => κ = 27 ∧ j = 0) := q_uple rfl
  exact ⟨by rw [o 28 0 (by omega)]; exact a, by rw [q_up, if_neg (by omega)]; exact b, c, by rw [o 31 0 (by omega)]; exact d, by rw [q_up, if_neg (by omega)]; exact e⟩
def Ks : Nat → Nat → Prop := fun κ j => (κ < 18 ∧ (j = 0 ∨ (2 ≤ j ∧ j ≤ 8))) ∨ ((κ = 19 ∨ κ = 21 ∨ κ = 22) ∧ j = 0)
theorem k_carryOut {μ : mT} {B : Nat} {y : yT} {hp : hT} {tx : List Nat} {L : List (Nat × Nat × Nat × Nat × Nat)} (h1 : cY μ 0 y) (h2 : hC μ hp) (h4 : pC μ tx) (h8 : kY y B) (h11 : ∀ c ∈ tx, 33 ≤ c ∧ c ≤ 126) (hB : B < 800000000) (hL : L.length ≤ 40) (e : ffS 0 0 tx = none) (ho : ordF tx 81 0 = (none, L)) :
    ∃ μ', f_X7_carryOut μ = some (nI (runS L 0 y).1, μ') ∧ cY μ' 0 (runS L 0 y).2 ∧ hC μ' (pH hp y) ∧ pC μ' [] ∧ only μ μ' Ks := by
  have h80 := h4.2.1
  have hcnt := runS_i L 0 y
  obtain ⟨μ1, a1, a2, a3, a4⟩ := k_hnote h2 h1 h8.g
  have hx1 : pC μ1 tx := h4.o (a4 21 0 (by unfold Hy; omega)) (a4 25 0 (by unfold Hy; omega))
  obtain ⟨μ2, b1, b2, b3⟩ := k_run h11 (K := fun v10 μ11 => bd (f_X2_clear μ11) (fun _ μ13 => bd (f_X1_kept v10 μ13) (fun v14 μ15 => some (v14, μ15)))) 81 0 fu 0 B y μ1 L ho (by unfold fu; omega) hx1 a3 h8 (by omega)
  have e7 : f_X7_carryOut μ = f_X7_carryOut_L32 (fun v10 μ11 => bd (f_X2_clear μ11) (fun _ μ13 => bd (f_X1_kept v10 μ13) (fun v14 μ15 => some (v14, μ15)))) (fun v10 μ11 => bd (f_X2_clear μ11) (fun _ μ13 => bd (f_X1_kept v10 μ13) (fun v14 μ15 => some (v14, μ15)))) fu (nI 0) (nI 0) (nI 0) μ1 := by
    unfold f_X7_carryOut
    rw [k_fault h4 h11, q_bd, e, if_pos (show ffA none = -6 from rfl), a1, q_bd, q_lt, q_lt]
    rfl
  have o3 : only μ2 (upM μ2 21 0 0 0) (fun κ j => κ = 21 ∧ j = 0) := q_uple rfl
  obtain ⟨μ4, d1, d2, d3⟩ := k_kept (a := nI (runS L 0 y).1) ((a2.o b3 (fun κ j z => by unfold Yd at z; omega)).o o3 (fun κ j z => by omega))
  rw [if_neg (nI_pos (by omega))] at d2
  refine ⟨μ4, ?_, (b2.o (fun κ hκ => o3 κ 0 (by omega))).o (fun κ hκ => d3 κ 0 (by omega)), d2, ⟨?_, by simp, fun i c q => by simp at q⟩, (a4.w (by unfold Hy Ks; omega)).tr ((b3.w (by unfold Yd Ks; omega)).tr ((o3.w (by unfold Ks; omega)).tr (d3.w (by unfold Ks; omega))))⟩
  · rw [e7, b1]
    unfold f_X2_clear
    rw [q_lt, q_lt, q_bd, d1, q_bd]
  · rw [d3 21 0 (by omega), q_up, if_pos ⟨rfl, rfl, rfl⟩]
    rfl
theorem m_carryOut {μ : mT} {B : Nat} {y : yT} {hp : hT} {tx : List Nat} {L : List (Nat × Nat × Nat × Nat × Nat)} (hm : hM μ y hp false) (hf : hF hp) (hx : pM μ tx) (h8 : kY y B) (h11 : ∀ c ∈ tx, 33 ≤ c ∧ c ≤ 126) (hB : B < 800000000) (hL : L.length ≤ 40) (hLk : ∀ (j p q k a b : Nat), L[j]? = some (p, q, k, a, b) → k ≤ 126) (e : ffS 0 0 tx = none) (ho : ordF tx 81 0 = (none, L)) :
    ∃ μ', f_X8_carryOut μ = some (nI (runS L 0 y).1, μ') ∧ hM μ' (runS L 0 y).2 (pH hp y) false ∧ pM μ' [] ∧ only μ μ' (fun κ j => (κ = 27 ∨ κ = 28 ∨ κ = 31 ∨ κ = 39) ∧ j = 0) := by
  obtain ⟨μ1, a1, a2, a3, a4⟩ := m_faultOf h11 hx
  rw [ho] at a3
  obtain ⟨-, f2, f3⟩ := a3
  obtain ⟨μ2, b1, b2, b3, b4⟩ := m_record (hm.o39 a2) h8.g hf
  rw [pT_f] at b2
  have hfp : hF (pH hp y) := by
    unfold pH
    by_cases c : hp.1 < 6
    · rw [if_pos c]
      intro i hi
      dsimp only at hi ⊢
      by_cases ci : i = hp.1
      · rw [if_pos ci]; exact h8.g
      · rw [if_neg ci]; exact hf i (by omega)
    · rw [if_neg c]
      intro i hi
      dsimp only at hi ⊢
      by_cases ci : i = 5
      · rw [if_pos ci]; exact h8.g
      · rw [if_neg ci]; exact hf (i + 1) (by omega)
  have m3 : hM (upM μ2 27 0 9 1) y (pH hp y) true := b2.flag rfl
  have o3 : only μ2 (upM μ2 27 0 9 1) (fun κ j => κ = 27 ∧ j = 0) := q_uple rfl
  obtain ⟨μ4, d1, d2, d3, d4⟩ := m_run hfp L fu 0 B y (upM μ2 27 0 9 1) (by unfold fu; omega) (by omega) m3 h8 (by omega) (by rw [q_up, if_neg (by omega), b4 16 (by omega)]; exact f2) hLk (fun j p q k a b hj => by
    rw [o3 39 0 (by omega), b3 39 0 (by omega)]
    exact f3 j p q k a b hj)
  refine ⟨upM (upM μ4 27 0 9 0) 27 0 8 0, ?_, (d2.flag (t' := false) (x := 0) rfl).pad, ⟨by rw [q_up, if_pos ⟨rfl, rfl, rfl⟩]; rfl, by simp, fun i c q => by simp at q⟩, (a2.only.w (by omega)).tr ((b3.w (by omega)).tr ((o3.w (by omega)).tr ((d3.w (by unfold Mh; omega)).tr (only.tr ((q_uple rfl).w (by omega)) ((q_uple rfl).w (by omega))))))⟩
  unfold f_X8_carryOut
  rw [a1, q_bd, e, if_pos (show ffA none = -6 from rfl), b1, q_bd, q_lt, q_lt, show (0 : Int32) = nI 0 from rfl, d1]
  rfl
theorem st_carryOut {μ : mT} {B : Nat} (h : RR μ B) (hB : B < 800000000) : ST μ (B + 205000) f_X7_carryOut f_X8_carryOut := by
  obtain ⟨y, hp, zs, tx, h1, h2, h3, h4, h5, h6, h7, h8, h9, h10, h11⟩ := h
  have h80 := h4.2.1
  obtain ⟨μa, b1, b2, b3, b4⟩ := m_faultOf h11 h7
  cases e : ffS 0 0 tx with
  | some z =>
    have hz := ff_le tx 0 0 z e
    have o := b2.only
    refine ⟨-3, μ, μa, ?_, ?_, y, hp, zs, tx, h1.o (fun κ hκ => o κ 0 (by omega)), h2.o o (fun κ j z => by omega), h3.o o (fun κ j z => by omega), h4.o (o 21 0 (by omega)) (o 25 0 (by omega)), h5.o39 b2, h6.o o (fun κ j z => by omega), b2.pM h7, h8.up (by omega), fun i hi => (h9 i hi).up (by omega), fun k z q => (h10 k z q).up (by omega), h11⟩
    · unfold f_X7_carryOut
      rw [k_fault h4 h11, q_bd, e, if_neg (show ¬ ffA (some z) = -6 from q_n6 (by omega))]
    · unfold f_X8_carryOut
      rw [b1, q_bd, e, if_neg (show ¬ ffA (some z) = -6 from q_n6 (by omega))]
  | none =>
    obtain ⟨L, hL⟩ : ∃ L, L = (ordF tx 81 0).2 := ⟨_, rfl⟩
    have ho : ordF tx 81 0 = (none, L) := Prod.ext (by rw [← b4, e]) hL.symm
    obtain ⟨l1, l2⟩ := ordF_l h11 81 0 L ho (Nat.zero_le _)
    obtain ⟨μ1, c1, c2, c3, c4, c5⟩ := k_carryOut h1 h2 h4 h8 h11 (by omega) (by omega) e ho
    have ok : only μ μ1 Sk := c5.w (by unfold Ks Sk; omega)
    obtain ⟨μ2, d1, d2, d3, d4⟩ := m_carryOut (h5.o ok) (hFk h9) (h7.o ok) h8 h11 (by omega) (by omega) l2 e ho
    have kk : kY (runS L 0 y).2 (B + 205000) := (runS_k L 0 B y h8 (by omega)).up (by omega)
    refine ⟨_, μ1, μ2, c1, d1, (runS L 0 y).2, pH hp y, zs, [], c2.o (fun κ hκ => d4 κ 0 (by omega)), c3.o d4 (fun κ j z => by omega), (h3.o c5 (fun κ j z => by unfold Ks at z; omega)).o d4 (fun κ j z => by omega), c4.o (d4 21 0 (by omega)) (d4 25 0 (by omega)), d2, (h6.o c5 (fun κ j z => by unfold Ks at z; omega)).o d4 (fun κ j z => by omega), d3, kk, pH_k (fun i hi => (h9 i hi).up (by omega)) (h8.up (by omega)), fun k z q => (h10 k z q).up (by omega), fun c hc => (List.not_mem_nil hc).elim⟩
