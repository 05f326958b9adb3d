/-- the class and the model hold the same -/
def RR (μ : mT) (B : Nat) : Prop := ∃ (y : yT) (hp : hT) (zs : zT) (tx : List Nat), cY μ 0 y ∧ hC μ hp ∧ zC μ zs ∧ pC μ tx ∧ hM μ y hp false ∧ zM μ zs ∧ pM μ tx ∧ kY y B ∧ (∀ i, i < hp.1 → kY (hp.2 i) B) ∧ (∀ k z, zs k = some z → kY z B) ∧ ∀ c ∈ tx, 33 ≤ c ∧ c ≤ 126
theorem kY.g {y : yT} {B : Nat} (h : kY y B) : gY y := by
  obtain ⟨nt, nw, tm, h⟩ := h
  exact h.g
theorem kY.m {y : yT} {B : Nat} (h : kY y B) (hB : B < 2000000000) : ¬ y.1 0 6 < 0 := by
  obtain ⟨nt, nw, tm, h⟩ := h
  have := h.tmB
  rw [h.htm]
  exact nI_pos (by omega)
/-- what the class's calls may set, and the model's -/
def Sk : Nat → Nat → Prop := fun κ j => κ < 27 ∨ j ≠ 0
def Sm : Nat → Nat → Prop := fun κ j => 27 ≤ κ ∧ j = 0
theorem hM.o {μ μ' : mT} {y : yT} {hp : hT} {t : Bool} (h : hM μ y hp t) (ho : only μ μ' Sk) : hM μ' y hp t := by
  obtain ⟨a, b, c, d, e⟩ := h
  exact ⟨by rw [ho 28 0 (by unfold Sk; omega)]; exact a, by rw [ho 27 0 (by unfold Sk; omega)]; exact b, c, by rw [ho 31 0 (by unfold Sk; omega)]; exact d, by rw [ho 27 0 (by unfold Sk; omega)]; exact e⟩
theorem pM.o {μ μ' : mT} {tx : List Nat} (h : pM μ tx) (ho : only μ μ' Sk) : pM μ' tx := ⟨by rw [ho 27 0 (by unfold Sk; omega)]; exact h.1, h.2.1, by rw [ho 34 0 (by unfold Sk; omega)]; exact h.2.2⟩
theorem pC.o {μ μ' : mT} {tx : List Nat} (h : pC μ tx) (e1 : μ' 21 0 = μ 21 0) (e2 : μ' 25 0 = μ 25 0) : pC μ' tx := ⟨by rw [e1]; exact h.1, h.2.1, by rw [e2]; exact h.2.2⟩
theorem pM.k {μ μ' : mT} {tx : List Nat} (h : pM μ tx) (e1 : μ' 27 0 8 = μ 27 0 8) (e2 : μ' 34 0 = μ 34 0) : pM μ' tx := ⟨by rw [e1]; exact h.1, h.2.1, by rw [e2]; exact h.2.2⟩
def ST (μ : mT) (B : Nat) (o1 : mT → Option (Int32 × mT)) (o2 : mT → Option (Int32 × mT)) : Prop := ∃ v μ1 μ2, o1 μ = some (v, μ1) ∧ o2 μ1 = some (v, μ2) ∧ RR μ2 B
def MS : Nat → Nat → Prop := fun κ j => (κ = 27 ∨ κ = 28 ∨ κ = 31 ∨ κ = 35) ∧ j = 0
theorem pH_k {hp : hT} {y : yT} {B : Nat} (h : ∀ i, i < hp.1 → kY (hp.2 i) B) (hy : kY y B) : ∀ i, i < (pH hp y).1 → kY ((pH hp y).2 i) B := by
  unfold pH
  by_cases c : hp.1 < 6
  · rw [if_pos c]
    intro i hi
    dsimp only at hi ⊢
    by_cases ci : i = hp.1
    · rw [if_pos ci]; exact hy
    · rw [if_neg ci]; exact h i (by omega)
  · rw [if_neg c]
    intro i hi
    dsimp only at hi ⊢
    by_cases ci : i = 5
    · rw [if_pos ci]; exact hy
    · rw [if_neg ci]; exact h (i + 1) (by omega)
theorem st_change {μ : mT} {B : Nat} {o1 o2 : mT → Option (Int32 × mT)} (h : RR μ B) (hr : ∀ y hp zs, cY μ 0 y → hC μ hp → zC μ zs → kY y B → (∀ i, i < hp.1 → kY (hp.2 i) B) → (∀ k z, zs k = some z → kY z B) → ∃ r : Int32 × yT, CR μ y hp r (o1 μ) ∧ kY r.2 (B + 5000) ∧ ∀ μ1, zM μ1 zs → hM μ1 y hp false → ∃ μ2, o2 μ1 = some (r.1, μ2) ∧ hM μ2 r.2 (if r.1 < 0 then hp else pT false hp y) false ∧ only μ1 μ2 MS ∧ k27 μ1 μ2) : ST μ (B + 5000) o1 o2 := by
  obtain ⟨y, hp, zs, tx, h1, h2, h3, h4, h5, h6, h7, h8, h9, h10, h11⟩ := h
  obtain ⟨r, ⟨μ1, a1, a2, a3, a4⟩, b, c⟩ := hr y hp zs h1 h2 h3 h8 h9 h10
  have ok : only μ μ1 Sk := a4.w (by unfold Kc Sk; omega)
  obtain ⟨μ2, d1, d2, d3, d4⟩ := c μ1 (h6.o a4 (fun κ j z => by unfold Kc at z; omega)) (h5.o ok)
  refine ⟨r.1, μ1, μ2, a1, d1, r.2, if r.1 < 0 then hp else pH hp y, zs, tx, a2.o (fun κ hκ => d3 κ 0 (by unfold MS; omega)), a3.o d3 (fun κ j z => by unfold MS at z; omega), (h3.o a4 (fun κ j z => by unfold Kc at z; omega)).o d3 (fun κ j z => by unfold MS at z; omega), (h4.o (a4 21 0 (by unfold Kc; omega)) (a4 25 0 (by unfold Kc; omega))).o (d3 21 0 (by unfold MS; omega)) (d3 25 0 (by unfold MS; omega)), d2, (h6.o a4 (fun κ j z => by unfold Kc at z; omega)).o d3 (fun κ j z => by unfold MS at z; omega), (h7.o ok).k (d4 8 (by omega)) (d3 34 0 (by unfold MS; omega)), b, ?_, fun k z q => (h10 k z q).up (by omega), h11⟩
  by_cases c0 : r.1 < 0
  · rw [if_pos c0]
    exact fun i hi => (h9 i hi).up (by omega)
  · rw [if_neg c0]
    exact pH_k (fun i hi => (h9 i hi).up (by omega)) (h8.up (by omega))
theorem MR.s {μ : mT} {y : yT} {hp : hT} {r : Int32 × yT} {o : Option (Int32 × mT)} (h : MR μ y hp false r o) : ∃ μ2, o = some (r.1, μ2) ∧ hM μ2 r.2 (if r.1 < 0 then hp else pT false hp y) false ∧ only μ μ2 MS ∧ k27 μ μ2 := by
  obtain ⟨μ2, a, b, c, d⟩ := h
  exact ⟨μ2, a, b, c.w (by unfold Mh MS; omega), d⟩
section ST
variable {μ : mT} {B : Nat} {a b : Int32}
theorem hFk {hp : hT} (h : ∀ i, i < hp.1 → kY (hp.2 i) B) : hF hp := fun i hi => (h i hi).g
theorem st_set (h : RR μ B) : ST μ (B + 5000) (f_X7_set a b) (f_X8_set a b) := st_change h (fun y hp zs h1 h2 h3 h8 h9 h10 => by
  obtain ⟨nt, nw, tm, hi⟩ := h8
  exact ⟨_, kt_set h2 h1 hi, (kp_set ⟨nt, nw, tm, hi⟩).1, fun μ1 _ hm => (m_set hm hi (hFk h9)).s⟩)
theorem st_track (h : RR μ B) : ST μ (B + 5000) (f_X7_track a) (f_X8_track a) := st_change h (fun y hp zs h1 h2 h3 h8 h9 h10 => by
  obtain ⟨nt, nw, tm, hi⟩ := h8
  exact ⟨_, kt_track h2 h1 hi, kp_track ⟨nt, nw, tm, hi⟩, fun μ1 _ hm => (m_addtrack hm hi (hFk h9)).s⟩)
theorem st_wagon (h : RR μ B) : ST μ (B + 5000) (f_X7_wagon a b) (f_X8_wagon a b) := st_change h (fun y hp zs h1 h2 h3 h8 h9 h10 => by
  obtain ⟨nt, nw, tm, hi⟩ := h8
  exact ⟨_, kt_wagon h2 h1 hi, kp_wagon ⟨nt, nw, tm, hi⟩, fun μ1 _ hm => (m_wagon hm hi (hFk h9)).s⟩)
theorem st_block (h : RR μ B) (hB : B < 800000000) : ST μ (B + 5000) (f_X7_block a b) (f_X8_block a b) := st_change h (fun y hp zs h1 h2 h3 h8 h9 h10 => by
  obtain ⟨nt, nw, tm, hi⟩ := h8
  exact ⟨_, kt_block h2 h1 hi, kp_block ⟨nt, nw, tm, hi⟩ (by omega), fun μ1 _ hm => (m_block hm hi (hFk h9)).s⟩)
theorem st_pull (h : RR μ B) (hB : B < 800000000) : ST μ (B + 5000) (f_X7_pull a b) (f_X8_pull a b) := st_change h (fun y hp zs h1 h2 h3 h8 h9 h10 => by
  obtain ⟨nt, nw, tm, hi⟩ := h8
  exact ⟨_, kt_pull h2 h1 hi, kp_pull ⟨nt, nw, tm, hi⟩ (by omega), fun μ1 _ hm => (m_pull hm hi (hFk h9)).s⟩)
theorem st_push (h : RR μ B) (hB : B < 800000000) : ST μ (B + 5000) (f_X7_push a b) (f_X8_push a b) := st_change h (fun y hp zs h1 h2 h3 h8 h9 h10 => by
  obtain ⟨nt, nw, tm, hi⟩ := h8
  exact ⟨_, kt_push h2 h1 hi, kp_push ⟨nt, nw, tm, hi⟩ (by omega), fun μ1 _ hm => (m_push hm hi (hFk h9)).s⟩)
theorem st_round (h : RR μ B) (hB : B < 800000000) : ST μ (B + 5000) f_X7_round f_X8_round := st_change h (fun y hp zs h1 h2 h3 h8 h9 h10 => by
  obtain ⟨k1, k2⟩ := kp_round h8 (by omega)
  obtain ⟨nt, nw, tm, hi⟩ := h8
  exact ⟨_, kt_round h2 h1 hi, k1, fun μ1 _ hm => (m_round hm hi (hFk h9) k2).s⟩)
theorem st_pass (h : RR μ B) (hB : B < 800000000) : ST μ (B + 5000) (f_X7_pass a) (f_X8_pass a) := st_change h (fun y hp zs h1 h2 h3 h8 h9 h10 => by
  obtain ⟨nt, nw, tm, hi⟩ := h8
  exact ⟨_, kt_pass h2 h1 hi, kp_pass ⟨nt, nw, tm, hi⟩ (by omega), fun μ1 _ hm => (m_pass hm hi (hFk h9) (by omega)).s⟩)
theorem st_strike (h : RR μ B) : ST μ (B + 5000) (f_X7_strike a) (f_X8_strike a) := st_change h (fun y hp zs h1 h2 h3 h8 h9 h10 => by
  obtain ⟨nt, nw, tm, hi⟩ := h8
  exact ⟨_, kt_strike h2 h1 hi, kp_strike ⟨nt, nw, tm, hi⟩, fun μ1 _ hm => (m_strike hm hi (hFk h9)).s⟩)
theorem st_leave (h : RR μ B) (hB : B < 800000000) : ST μ (B + 5000) (f_X7_leave a) (f_X8_leave a) := st_change h (fun y hp zs h1 h2 h3 h8 h9 h10 => by
  obtain ⟨nt, nw, tm, hi⟩ := h8
  exact ⟨_, kt_leave h2 h1 hi, kp_leave ⟨nt, nw, tm, hi⟩ (by omega), fun μ1 _ hm => (m_leave hm hi (hFk h9) (by omega)).s⟩)
theorem st_train {x : Int64} (h : RR μ B) (hB : B < 800000000) : ST μ (B + 5000) (f_X7_train x a) (f_X8_train x a) := st_change h (fun y hp zs h1 h2 h3 h8 h9 h10 => by
  obtain ⟨nt, nw, tm, hi⟩ := h8
  exact ⟨_, kt_train h2 h1 hi, kp_train ⟨nt, nw, tm, hi⟩ (by omega), fun μ1 _ hm => by
    obtain ⟨μ2, q1, q2, q3, q4⟩ := m_train (a := x) (due := a) hm hi (hFk h9)
    exact ⟨μ2, q1, q2, q3.w (by unfold MS; omega), q4⟩⟩)
theorem st_restore (h : RR μ B) (hB : B < 800000000) : ST μ (B + 5000) (f_X7_restore a) (f_X8_restore a) := st_change h (fun y hp zs h1 h2 h3 h8 h9 h10 => by
  have hz : ∀ k z, zs k = some z → gY z ∧ ¬ z.1 0 6 < 0 := fun k z q => ⟨(h10 k z q).g, (h10 k z q).m (by omega)⟩
  refine ⟨_, kt_restore (a := a) h2 h1 h8.g hz h3, ?_, fun μ1 hzm hm => (m_restore (a := a) hm h8.g (hFk h9) hz hzm).s⟩
  unfold sRest
  split
  · exact h8.up (by omega)
  · cases e : zs a.toNatClampNeg with
    | none => exact h8.up (by omega)
    | some z => exact (h10 _ z e).up (by omega))
end ST
