theorem td_dis {l : List Nat} (h : l.Nodup) {n w : Nat} (h1 : w ∈ l.take n) (h2 : w ∈ l.drop n) : False := by
  rw [← List.take_append_drop n l, List.nodup_append] at h
  exact h.2.2 w h1 w h2 rfl
theorem rwD_mem {rw : Nat → List Nat} {t n r w : Nat} (ht : t < 8) : w ∈ rwD rw t n r → (r = t ∧ w ∈ (rw t).drop n) ∨ (r = 8 ∧ (w ∈ rw 8 ∨ w ∈ (rw t).take n)) ∨ (r ≠ t ∧ r ≠ 8 ∧ w ∈ rw r) := by
  unfold rwD
  intro h
  by_cases e : r = t
  · rw [if_pos e] at h
    exact Or.inl ⟨e, h⟩
  · rw [if_neg e] at h
    by_cases e8 : r = 8
    · rw [if_pos e8] at h
      exact Or.inr (Or.inl ⟨e8, List.mem_append.mp h⟩)
    · rw [if_neg e8] at h
      exact Or.inr (Or.inr ⟨e, e8, h⟩)
theorem rwB_mem {rw : Nat → List Nat} {t n r w : Nat} (ht : t < 8) : w ∈ rwB rw t n r → (r = t ∧ (w ∈ rw t ∨ w ∈ (rw 8).drop ((rw 8).length - n))) ∨ (r = 8 ∧ w ∈ (rw 8).take ((rw 8).length - n)) ∨ (r ≠ t ∧ r ≠ 8 ∧ w ∈ rw r) := by
  unfold rwB
  intro h
  by_cases e : r = t
  · rw [if_pos e] at h
    exact Or.inl ⟨e, (List.mem_append.mp h).symm⟩
  · rw [if_neg e] at h
    by_cases e8 : r = 8
    · rw [if_pos e8] at h
      exact Or.inr (Or.inl ⟨e8, h⟩)
    · rw [if_neg e8] at h
      exact Or.inr (Or.inr ⟨e, e8, h⟩)
theorem rwD_dis {rw : Nat → List Nat} {t n : Nat} (ho : rOK rw) (hD : rDis rw) (ht : t < 8) : rDis (rwD rw t n) := by
  intro r r' w hr hr' h h'
  have a := rwD_mem ht h
  have b := rwD_mem ht h'
  have hn := (ho t (by omega)).2.2
  rcases a with ⟨a1, a2⟩ | ⟨a1, a2 | a2⟩ | ⟨a1, a2, a3⟩ <;> rcases b with ⟨b1, b2⟩ | ⟨b1, b2 | b2⟩ | ⟨b1, b2, b3⟩
  · omega
  · have := hD t 8 w (by omega) (by omega) (List.mem_of_mem_drop a2) b2; omega
  · exact (td_dis hn b2 a2).elim
  · have := hD t r' w (by omega) (by omega) (List.mem_of_mem_drop a2) b3; omega
  · have := hD 8 t w (by omega) (by omega) a2 (List.mem_of_mem_drop b2); omega
  · omega
  · omega
  · have := hD 8 r' w (by omega) (by omega) a2 b3; omega
  · exact (td_dis hn a2 b2).elim
  · omega
  · omega
  · have := hD t r' w (by omega) (by omega) (List.mem_of_mem_take a2) b3; omega
  · have := hD r t w (by omega) (by omega) a3 (List.mem_of_mem_drop b2); omega
  · have := hD r 8 w (by omega) (by omega) a3 b2; omega
  · have := hD r t w (by omega) (by omega) a3 (List.mem_of_mem_take b2); omega
  · exact hD r r' w hr hr' a3 b3
theorem rwB_dis {rw : Nat → List Nat} {t n : Nat} (ho : rOK rw) (hD : rDis rw) (ht : t < 8) : rDis (rwB rw t n) := by
  intro r r' w hr hr' h h'
  have a := rwB_mem ht h
  have b := rwB_mem ht h'
  have hn := (ho 8 (by omega)).2.2
  rcases a with ⟨a1, a2 | a2⟩ | ⟨a1, a2⟩ | ⟨a1, a2, a3⟩ <;> rcases b with ⟨b1, b2 | b2⟩ | ⟨b1, b2⟩ | ⟨b1, b2, b3⟩
  · omega
  · omega
  · have := hD t 8 w (by omega) (by omega) a2 (List.mem_of_mem_take b2); omega
  · have := hD t r' w (by omega) (by omega) a2 b3; omega
  · omega
  · omega
  · exact (td_dis hn b2 a2).elim
  · have := hD 8 r' w (by omega) (by omega) (List.mem_of_mem_drop a2) b3; omega
  · have := hD 8 t w (by omega) (by omega) (List.mem_of_mem_take a2) b2; omega
  · exact (td_dis hn a2 b2).elim
  · omega
  · have := hD 8 r' w (by omega) (by omega) (List.mem_of_mem_take a2) b3; omega
  · have := hD r t w (by omega) (by omega) a3 b2; omega
  · have := hD r 8 w (by omega) (by omega) a3 (List.mem_of_mem_drop b2); omega
  · have := hD r 8 w (by omega) (by omega) a3 (List.mem_of_mem_take b2); omega
  · exact hD r r' w hr hr' a3 b3
theorem rwD_tot {rw : Nat → List Nat} {t n : Nat} (ht : t < 8) (hn : n ≤ (rw t).length) : tot (rwD rw t n) = tot rw := by
  unfold tot
  rw [rwD_8 ht]
  have hne : ∀ r, r < 8 → r ≠ t → rwD rw t n r = rw r := fun r hr hr' => by
    unfold rwD
    rw [if_neg hr', if_neg (by omega)]
  rcases (show t = 0 ∨ t = 1 ∨ t = 2 ∨ t = 3 ∨ t = 4 ∨ t = 5 ∨ t = 6 ∨ t = 7 by omega) with rfl | rfl | rfl | rfl | rfl | rfl | rfl | rfl <;>
    (rw [rwD_t]
     simp (disch := omega) only [hne, List.length_append, List.length_take, List.length_drop]
     omega)
theorem rwB_t {rw : Nat → List Nat} {t n : Nat} : rwB rw t n t = (rw 8).drop ((rw 8).length - n) ++ rw t := if_pos rfl
theorem rwB_tot {rw : Nat → List Nat} {t n : Nat} (ht : t < 8) (hn : n ≤ (rw 8).length) : tot (rwB rw t n) = tot rw := by
  unfold tot
  rw [rwB_8 ht]
  have hne : ∀ r, r < 8 → r ≠ t → rwB rw t n r = rw r := fun r hr hr' => by
    unfold rwB
    rw [if_neg hr', if_neg (by omega)]
  rcases (show t = 0 ∨ t = 1 ∨ t = 2 ∨ t = 3 ∨ t = 4 ∨ t = 5 ∨ t = 6 ∨ t = 7 by omega) with rfl | rfl | rfl | rfl | rfl | rfl | rfl | rfl <;>
    (rw [rwB_t]
     simp (disch := omega) only [hne, List.length_append, List.length_take, List.length_drop]
     omega)
theorem rwD_ok {rw : Nat → List Nat} {t n : Nat} (ho : rOK rw) (hD : rDis rw) (hT : tot rw ≤ 30) (ht : t < 8) (hn : n ≤ (rw t).length) : rOK (rwD rw t n) := by
  intro r hr
  have hT' : tot (rwD rw t n) ≤ 30 := by rw [rwD_tot ht hn]; exact hT
  refine ⟨Nat.le_trans (tot_one hr) hT', fun w hw => ?_, ?_⟩
  · rcases rwD_mem ht hw with ⟨a1, a2⟩ | ⟨a1, a2 | a2⟩ | ⟨a1, a2, a3⟩
    · exact (ho t (by omega)).2.1 w (List.mem_of_mem_drop a2)
    · exact (ho 8 (by omega)).2.1 w a2
    · exact (ho t (by omega)).2.1 w (List.mem_of_mem_take a2)
    · exact (ho r hr).2.1 w a3
  · unfold rwD
    by_cases e : r = t
    · rw [if_pos e]
      exact List.Nodup.sublist (List.drop_sublist _ _) (ho t (by omega)).2.2
    · rw [if_neg e]
      by_cases e8 : r = 8
      · rw [if_pos e8]
        exact nd_take ho hD ht
      · rw [if_neg e8]
        exact (ho r hr).2.2
theorem rwB_ok {rw : Nat → List Nat} {t n : Nat} (ho : rOK rw) (hD : rDis rw) (hT : tot rw ≤ 30) (ht : t < 8) (hn : n ≤ (rw 8).length) : rOK (rwB rw t n) := by
  intro r hr
  have hT' : tot (rwB rw t n) ≤ 30 := by rw [rwB_tot ht hn]; exact hT
  refine ⟨Nat.le_trans (tot_one hr) hT', fun w hw => ?_, ?_⟩
  · rcases rwB_mem ht hw with ⟨a1, a2 | a2⟩ | ⟨a1, a2⟩ | ⟨a1, a2, a3⟩
    · exact (ho t (by omega)).2.1 w a2
    · exact (ho 8 (by omega)).2.1 w (List.mem_of_mem_drop a2)
    · exact (ho 8 (by omega)).2.1 w (List.mem_of_mem_take a2)
    · exact (ho r hr).2.1 w a3
  · unfold rwB
    by_cases e : r = t
    · rw [if_pos e, List.nodup_append]
      refine ⟨List.Nodup.sublist (List.drop_sublist _ _) (ho 8 (by omega)).2.2, (ho t (by omega)).2.2, fun a ha b hb q => ?_⟩
      subst q
      have := hD 8 t a (by omega) (by omega) (List.mem_of_mem_drop ha) hb
      omega
    · rw [if_neg e]
      by_cases e8 : r = 8
      · rw [if_pos e8]
        exact List.Nodup.sublist (List.take_sublist _ _) (ho 8 (by omega)).2.2
      · rw [if_neg e8]
        exact (ho r hr).2.2
theorem rwR_mem {rw : Nat → List Nat} {r w : Nat} : w ∈ rwR rw r ↔ w ∈ rw r := by
  unfold rwR
  by_cases e : r = 8
  · subst e; simp
  · rw [if_neg e]
theorem rwR_len {rw : Nat → List Nat} {r : Nat} : (rwR rw r).length = (rw r).length := by
  unfold rwR
  by_cases e : r = 8
  · subst e; simp
  · rw [if_neg e]
theorem rwR_dis {rw : Nat → List Nat} (hD : rDis rw) : rDis (rwR rw) := fun r r' w hr hr' h h' => hD r r' w hr hr' (rwR_mem.mp h) (rwR_mem.mp h')
theorem rwR_tot {rw : Nat → List Nat} : tot (rwR rw) = tot rw := by
  unfold tot
  simp only [rwR_len]
theorem rwR_ok {rw : Nat → List Nat} (ho : rOK rw) : rOK (rwR rw) := by
  intro r hr
  refine ⟨by rw [rwR_len]; exact (ho r hr).1, fun w hw => (ho r hr).2.1 w (rwR_mem.mp hw), ?_⟩
  unfold rwR
  by_cases e : r = 8
  · subst e
    rw [if_pos rfl]
    exact cw_nd (r := 0) (ho 8 hr).2.2
  · rw [if_neg e]
    exact (ho r hr).2.2
def gN (y : yT) (nt : Nat) : Prop := gY y ∧ nt ≤ 8 ∧ y.1 0 7 = nI nt ∧ ∀ t, nt ≤ t → t < 8 → y.2.1 t = []
theorem iY.gn {y : yT} {nt nw tm B : Nat} (h : iY y nt nw tm B) : gN y nt := ⟨h.g, h.nt8, h.hnt, h.2.2.2.2.2.1⟩
theorem gN_of {y : yT} {nt : Nat} (h : gN y nt) {s : sT} {rw : Nat → List Nat} {bl : List (Int32 × Int32)} (h7 : s 0 7 = y.1 0 7) (ho : rOK rw) (hD : rDis rw) (hT : tot rw = tot y.2.1) (he : ∀ t, nt ≤ t → t < 8 → rw t = []) (hb : bl.length ≤ 10) : gN (s, rw, bl, y.2.2.2) nt :=
  ⟨⟨ho, hD, by rw [show tot (s, rw, bl, y.2.2.2).2.1 = tot rw from rfl, hT]; exact h.1.2.2.1, hb, h.1.2.2.2.2⟩, h.2.1, by rw [← h.2.2.1]; exact h7, he⟩
theorem gN_D {y : yT} {nt t n : Nat} {s : sT} {bl : List (Int32 × Int32)} (h : gN y nt) (h7 : s 0 7 = y.1 0 7) (ht : t < nt) (hn : n ≤ (y.2.1 t).length) (hb : bl.length ≤ 10) : gN (s, rwD y.2.1 t n, bl, y.2.2.2) nt := by
  have h8 := h.2.1
  refine gN_of h h7 (rwD_ok h.1.1 h.1.2.1 h.1.2.2.1 (by omega) hn) (rwD_dis h.1.1 h.1.2.1 (by omega)) (rwD_tot (by omega) hn) (fun t' h1 h2 => ?_) hb
  unfold rwD
  rw [if_neg (by omega), if_neg (by omega)]
  exact h.2.2.2 t' h1 h2
theorem gN_B {y : yT} {nt t n : Nat} {s : sT} {bl : List (Int32 × Int32)} (h : gN y nt) (h7 : s 0 7 = y.1 0 7) (ht : t < nt) (hn : n ≤ (y.2.1 8).length) (hb : bl.length ≤ 10) : gN (s, rwB y.2.1 t n, bl, y.2.2.2) nt := by
  have h8 := h.2.1
  refine gN_of h h7 (rwB_ok h.1.1 h.1.2.1 h.1.2.2.1 (by omega) hn) (rwB_dis h.1.1 h.1.2.1 (by omega)) (rwB_tot (by omega) hn) (fun t' h1 h2 => ?_) hb
  unfold rwB
  rw [if_neg (by omega), if_neg (by omega)]
  exact h.2.2.2 t' h1 h2
theorem gN_R {y : yT} {nt : Nat} {s : sT} {bl : List (Int32 × Int32)} (h : gN y nt) (h7 : s 0 7 = y.1 0 7) (hb : bl.length ≤ 10) : gN (s, rwR y.2.1, bl, y.2.2.2) nt := by
  refine gN_of h h7 (rwR_ok h.1.1) (rwR_dis h.1.2.1) rwR_tot (fun t' h1 h2 => ?_) hb
  unfold rwR
  rw [if_neg (by omega)]
  exact h.2.2.2 t' h1 h2
theorem rwD_B {rw : Nat → List Nat} {t n : Nat} (ht : t < 8) (hn : n ≤ (rw t).length) : rwB (rwD rw t n) t n = rw := by
  funext r
  have e8 : rwD rw t n 8 = rw 8 ++ (rw t).take n := rwD_8 ht
  unfold rwB
  rw [e8]
  have hl : (rw 8 ++ (rw t).take n).length - n = (rw 8).length := by
    rw [List.length_append, List.length_take]
    omega
  rw [hl]
  by_cases e : r = t
  · subst e
    rw [if_pos rfl, rwD_t, List.drop_append_of_le_length (Nat.le_refl _), List.drop_length, List.nil_append, List.take_append_drop]
  · rw [if_neg e]
    by_cases e8 : r = 8
    · subst e8
      rw [if_pos rfl, List.take_append_of_le_length (Nat.le_refl _), List.take_length]
    · rw [if_neg e8]
      unfold rwD
      rw [if_neg e, if_neg e8]
theorem rwB_D {rw : Nat → List Nat} {t n : Nat} (ht : t < 8) (hn : n ≤ (rw 8).length) : rwD (rwB rw t n) t n = rw := by
  funext r
  have e8 : rwB rw t n 8 = (rw 8).take ((rw 8).length - n) := rwB_8 ht
  unfold rwD
  rw [e8, rwB_t]
  have hl : ((rw 8).drop ((rw 8).length - n)).length = n := by
    rw [List.length_drop]
    omega
  by_cases e : r = t
  · subst e
    rw [if_pos rfl, List.drop_append_of_le_length (by omega), List.drop_eq_nil_of_le (by omega), List.nil_append]
  · rw [if_neg e]
    by_cases e8 : r = 8
    · subst e8
      have e2 : List.take n (List.drop ((rw 8).length - n) (rw 8) ++ rw t) = List.drop ((rw 8).length - n) (rw 8) := by
        rw [List.take_append_of_le_length (by omega), List.take_of_length_le (by omega)]
      rw [if_pos rfl, e2, List.take_append_drop]
    · rw [if_neg e8]
      unfold rwB
      rw [if_neg e, if_neg e8]
theorem rwR_R {rw : Nat → List Nat} : rwR (rwR rw) = rw := by
  funext r
  unfold rwR
  by_cases e : r = 8
  · subst e; simp
  · rw [if_neg e, if_neg e]
