def nP (s : sT) (l : List Nat) : sT := fun a k => if a = 6 ∧ k ∈ l then s a k + 1 else s a k
def dO (y : yT) (t n : Nat) : yT := (sU (nP y.1 ((y.2.1 t).take n)) 2 t (y.1 2 t + nI n), rwD y.2.1 t n, y.2.2)
def jD (y : yT) (t n : Nat) : Int32 := if (y.2.1 t).length ≤ n then 1 else 2
def sDraw (y : yT) (t n : Nat) : yT := mvm (dO y t n) (y.1 0 2) (jD y t n)
def sBk (y : yT) (t n : Nat) : yT := (sU y.1 3 t (y.1 3 t + nI n), rwB y.2.1 t n, y.2.2)
def jB (y : yT) (t : Nat) : Int32 := if (y.2.1 t).length = 0 then 1 else 2
def sBring (y : yT) (t n : Nat) : yT := mvm (sBk y t n) (y.1 0 2) (jB y t)
def sRnd (y : yT) : yT := mvm (y.1, rwR y.2.1, y.2.2) (y.1 0 4) 2
def rDis (rw : Nat → List Nat) : Prop := ∀ r r' w, r < 9 → r' < 9 → w ∈ rw r → w ∈ rw r' → r = r'
def gY (y : yT) : Prop := rOK y.2.1 ∧ rDis y.2.1 ∧ tot y.2.1 ≤ 30 ∧ y.2.2.1.length ≤ 10 ∧ tOK y.2.2.2
theorem iY.g {y : yT} {nt nw tm B : Nat} (h : iY y nt nw tm B) : gY y := ⟨h.rOK, h.2.2.2.1, h.tot, h.bl, h.tok⟩
theorem nd_take {rw : Nat → List Nat} (ho : rOK rw) (hd : rDis rw) {t n : Nat} (ht : t < 8) : (rw 8 ++ (rw t).take n).Nodup := by
  rw [List.nodup_append]
  refine ⟨(ho 8 (by omega)).2.2, List.Nodup.sublist (List.take_sublist _ _) (ho t (by omega)).2.2, fun a ha b hb e => ?_⟩
  subst e
  have := hd 8 t a (by omega) (by omega) ha (List.mem_of_mem_take hb)
  omega
theorem rwD_8 {rw : Nat → List Nat} {t n : Nat} (ht : t < 8) : rwD rw t n 8 = rw 8 ++ (rw t).take n := by
  unfold rwD
  rw [if_neg (by omega), if_pos rfl]
theorem rwD_t {rw : Nat → List Nat} {t n : Nat} : rwD rw t n t = (rw t).drop n := if_pos rfl
theorem rwB_8 {rw : Nat → List Nat} {t n : Nat} (ht : t < 8) : rwB rw t n 8 = (rw 8).take ((rw 8).length - n) := by
  unfold rwB
  rw [if_neg (by omega), if_pos rfl]
theorem k_drawOut {j t n : Nat} {y : yT} {μ : mT} (h : cY μ j y) (hg : gY y) (ht : t < 8) (hn : n ≤ (y.2.1 t).length) :
    ∃ μ', f_X6_drawOut j (nI t) (nI n) μ = some (nI ((y.2.1 8).length + n), μ') ∧ cY μ' j (sDraw y t n) ∧ only μ μ' (Yd j) := by
  obtain ⟨ho, hD, hT, hl, -⟩ := hg
  have hl30 := (ho t (by omega)).1
  have h82 := tot_two (rw := y.2.1) ht
  obtain ⟨μ1, a1, a2, a3⟩ := k_shiftD h.2.1 ho hT ht hn
  have c8 : cRow μ1 j 8 (y.2.1 8 ++ (y.2.1 t).take n) := by
    have := a2 8 (by omega)
    rw [rwD_8 ht] at this
    exact this
  have hlen : (y.2.1 8 ++ (y.2.1 t).take n).length = (y.2.1 8).length + n := by
    rw [List.length_append, List.length_take]
    omega
  have hnd := nd_take ho hD (n := n) ht
  obtain ⟨μ2, b1, b2, b3⟩ := k_notePulled (j := j) (m := n) (l := y.2.1 8 ++ (y.2.1 t).take n) (by omega) (fun w hw => by
    rcases List.mem_append.mp hw with q | q
    · exact (ho 8 (by omega)).2.1 w q
    · exact (ho t (by omega)).2.1 w (List.mem_of_mem_take q)) hnd (by omega) c8
  rw [hlen, Nat.add_sub_cancel, List.drop_append_of_le_length (Nat.le_refl _), List.drop_length, List.nil_append] at b2
  have hY2 : cY μ2 j (nP y.1 ((y.2.1 t).take n), rwD y.2.1 t n, y.2.2) := by
    refine ⟨fun a k hd hk => ?_, a2.cong (b3 _ j (by omega)) (b3 _ j (by omega)), h.2.2.1.cong ((b3 _ j (by omega)).trans (a3 _ j (by omega))) ((b3 _ j (by omega)).trans (a3 _ j (by omega))) ((b3 _ j (by omega)).trans (a3 _ j (by omega))), h.2.2.2.cong ((b3 _ j (by omega)).trans (a3 _ j (by omega))) ((b3 _ j (by omega)).trans (a3 _ j (by omega))) ((b3 _ j (by omega)).trans (a3 _ j (by omega))) ((b3 _ j (by omega)).trans (a3 _ j (by omega)))⟩
    by_cases e : a = 6
    · subst e
      show μ2 10 j k = _
      rw [b2 k, a3 10 j (by omega)]
      have hk30 : k < 30 := by unfold sdom at hd; omega
      rw [h.1.w6 hk30]
      show _ = nP y.1 ((y.2.1 t).take n) 6 k
      unfold nP
      by_cases q : k ∈ (y.2.1 t).take n
      · rw [if_pos q, if_pos ⟨rfl, q⟩]
      · rw [if_neg q, if_neg (fun z => q z.2)]
    · have hκ : cκ a k < 11 ∧ cκ a k ≠ 10 := by unfold cκ; unfold sdom at hd; grind
      rw [b3 _ j (by omega), a3 _ j (by omega)]
      show _ = nP y.1 ((y.2.1 t).take n) a k
      unfold nP
      rw [if_neg (fun z => e z.1)]
      refine h.1 a k hd (fun e5 => ?_)
      have := hk e5
      dsimp only at this
      unfold nP at this
      rwa [if_neg (by omega)] at this
  have hY3 := hY2.up (a0 := 2) (k0 := t) (κ := 6) (k' := t) (y.1 2 t + nI n) (sdt (by omega) ht) (by decide) rfl rfl (by omega)
  have e62 : μ2 6 j t = y.1 2 t := (b3 6 j (by omega)).symm ▸ (a3 6 j (by omega)).symm ▸ h.1.t2 ht
  obtain ⟨μ4, d1, d2, d3⟩ := k_makeMove (m := y.1 0 2) (jn := jD y t n) hY3 hl
  have o3 : only μ (upM μ2 6 j t (y.1 2 t + nI n)) (Yd j) := (a3.w (by unfold Yd; omega)).tr ((b3.w (by unfold Yd; omega)).tr ((q_uple rfl).w (by unfold Yd; omega)))
  have e11 : (upM μ2 6 j t (y.1 2 t + nI n)) 11 j t = nI ((y.2.1 t).length - n) := by
    rw [q_up, if_neg (by omega), cRow.nl hY2.2.1 (by omega)]
    show nI (rwD y.2.1 t n t).length = _
    rw [rwD_t, List.length_drop]
  have e42 : (upM μ2 6 j t (y.1 2 t + nI n)) 4 j (2 : Int32).toNatClampNeg = y.1 0 2 := by
    show (upM μ2 6 j t (y.1 2 t + nI n)) 4 j 2 = y.1 0 2
    rw [q_up, if_neg (by omega), b3 4 j (by omega), a3 4 j (by omega)]
    exact h.1.set (by omega)
  have e8 : μ4 11 j 8 = nI ((y.2.1 8).length + n) := by
    rw [cRow.nl d2.2.1 (by omega)]
    show nI (rwD y.2.1 t n 8).length = _
    rw [rwD_8 ht, hlen]
  refine ⟨μ4, ?_, d2, o3.tr d3⟩
  unfold f_X6_drawOut
  rw [a1, q_bd, b1, q_bd, q_gdi ht (by omega), q_gdi ht (by omega), q_cl (by omega), e62, q_lt, k_manyIn (by omega), q_bd, e11, q_lt, e42]
  have hj : jD y t n = if nI ((y.2.1 t).length - n) ≤ 0 then 1 else 2 := by
    unfold jD
    by_cases q : (y.2.1 t).length ≤ n
    · rw [if_pos q, if_pos]
      rw [show (y.2.1 t).length - n = 0 by omega]
      decide
    · rw [if_neg q, if_neg]
      rw [z_l0]
      exact nI_ge (by omega) (by omega)
  have hfin : bd (f_X6_makeMove j (y.1 0 2) (jD y t n) (upM μ2 6 j t (y.1 2 t + nI n))) (fun _ μ12 => bd (f_X5_manyIn j 8 μ12) (fun v13 μ14 => some (v13, μ14))) = some (nI ((y.2.1 8).length + n), μ4) := by
    rw [d1, q_bd, z_l8, k_manyIn (by omega), q_bd, e8]
  split
  · rename_i q
    rw [if_pos q] at hj
    rw [← hj]
    exact hfin
  · rename_i q
    rw [if_neg q] at hj
    rw [← hj]
    exact hfin
