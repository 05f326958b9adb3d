theorem cRow.nl {μ : mT} {j : Nat} {rw : Nat → List Nat} (h : cRows μ j rw) {r : Nat} (hr : r < 9) : μ 11 j r = nI (rw r).length := by
  rw [(h r hr).1, cw_len]
theorem rev_take {l : List Nat} {n : Nat} (h : n ≤ l.length) : l.reverse.take (l.length - n) = (l.drop n).reverse := by
  rw [List.take_reverse]
  congr 2
  omega
theorem rev_drop {l : List Nat} {n : Nat} (h : n ≤ l.length) : (l.reverse.drop (l.length - n)).reverse = l.take n := by
  rw [List.drop_reverse, List.reverse_reverse]
  congr 1
  omega
theorem rev_take' {l : List Nat} {n : Nat} (h : n ≤ l.length) : l.reverse.take n = (l.drop (l.length - n)).reverse := List.take_reverse
def isT (y : yT) (a : Int32) : Bool := !decide (a < 0) && !decide (y.1 0 7 ≤ a)
theorem isT_in {y : yT} {a : Int32} {nt : Nat} (h7 : y.1 0 7 = nI nt) (h8 : nt ≤ 8) (h : isT y a = true) : ∃ t, t < nt ∧ a = nI t := by
  unfold isT at h
  simp only [Bool.and_eq_true, Bool.not_eq_true', decide_eq_false_iff_not] at h
  obtain ⟨t, ht, rfl⟩ := nI_of h.1
  refine ⟨t, ?_, rfl⟩
  rcases Nat.lt_or_ge t nt with q | q
  · exact q
  · exact absurd (by rw [h7]; exact nI_le q ht) h.2
theorem isT_t {y : yT} {t nt : Nat} (h7 : y.1 0 7 = nI nt) (h8 : nt ≤ 8) (h : t < nt) : isT y (nI t) = true := by
  unfold isT
  rw [Bool.and_eq_true, Bool.not_eq_true', Bool.not_eq_true', decide_eq_false_iff_not, decide_eq_false_iff_not, h7]
  exact ⟨nI_pos (by omega), nI_ge h (by omega)⟩
theorem k_hasTrack {j : Nat} {a : Int32} {y : yT} {μ : mT} (h : cS μ j y.1) : f_X6_hasTrack j a μ = some (if isT y a = true then 1 else 0, μ) := by
  unfold f_X6_hasTrack isT
  rw [h.tracks]
  by_cases h1 : a < 0
  · simp [h1]
  · by_cases h2 : y.1 0 7 ≤ a
    · simp [h1, h2]
    · simp [h1, h2]
def ctm (y : yT) (t : Int32) : yT := (sU y.1 0 6 t, y.2.1, y.2.2.1.filter (kp t), y.2.2.2)
def mvw (y : yT) (m jn : Int32) : Int32 := m + jn * y.1 0 3
def mvf (y : yT) (m jn : Int32) : Int32 := free (mvw y m jn) y.2.2.1 (y.1 0 6)
def mvm (y : yT) (m jn : Int32) : yT := ctm (sU (sU (sU y.1 0 16 (y.1 0 16 + (mvf y m jn - y.1 0 6))) 0 14 (y.1 0 14 + jn)) 0 15 (y.1 0 15 + 1), y.2) (mvf y m jn + mvw y m jn)
theorem cRows.cong {μ μ' : mT} {j : Nat} {rw : Nat → List Nat} (h : cRows μ j rw) (h1 : μ' 11 j = μ 11 j) (h2 : μ' 12 j = μ 12 j) : cRows μ' j rw := fun r hr => (h r hr).cong h1 h2
theorem cY.s {μ : mT} {j : Nat} {y : yT} (h : cY μ j y) : cS μ j y.1 := h.1
/-- one number of a state is set -/
theorem cY.up {μ : mT} {j : Nat} {y : yT} (h : cY μ j y) {a0 k0 κ k' : Nat} (x : Int32) (hd : sdom a0 k0) (h5 : a0 ≠ 5) (e : cκ a0 k0 = κ) (e' : ck a0 k0 = k') (hκ : κ < 11 ∧ κ ≠ 2 ∧ κ ≠ 3) : cY (upM μ κ j k' x) j (sU y.1 a0 k0 x, y.2) := by
  subst e; subst e'
  exact ⟨h.1.up hd h5 x, h.2.1.cong (q_upn (by omega)) (q_upn (by omega)), h.2.2.1.cong (q_upn (by omega)) (q_upn (by omega)) (q_upn (by omega)), h.2.2.2.cong (q_upn (by omega)) (q_upn (by omega)) (q_upn (by omega)) (q_upn (by omega))⟩
theorem k_comeTo {j : Nat} {t : Int32} {y : yT} {μ : mT} (h : cY μ j y) (hl : y.2.2.1.length ≤ 10) :
    ∃ μ', f_X6_comeTo j t μ = some (0, μ') ∧ cY μ' j (ctm y t) ∧ only μ μ' (Yd j) := by
  have h1 := h.up (a0 := 0) (k0 := 6) (κ := 0) (k' := 0) t (sd0 (by omega)) (by decide) rfl rfl (by omega)
  obtain ⟨μ', g1, g2, g3⟩ := k_dropEnded (t := t) hl h1.2.2.1
  refine ⟨μ', ?_, ⟨?_, ?_, g2, ?_⟩, only.tr ((q_uple rfl).w (by unfold Yd; omega)) (g3.w (by unfold Yd; omega))⟩
  · unfold f_X6_comeTo
    rw [q_lt, g1]
    rfl
  · exact h1.1.cong (fun κ a b c => g3 κ j (by omega))
  · exact h1.2.1.cong (g3 _ j (by omega)) (g3 _ j (by omega))
  · exact h1.2.2.2.cong (g3 _ j (by omega)) (g3 _ j (by omega)) (g3 _ j (by omega)) (g3 _ j (by omega))
theorem k_makeMove {j : Nat} {m jn : Int32} {y : yT} {μ : mT} (h : cY μ j y) (hl : y.2.2.1.length ≤ 10) :
    ∃ μ', f_X6_makeMove j m jn μ = some (0, μ') ∧ cY μ' j (mvm y m jn) ∧ only μ μ' (Yd j) := by
  have h1 := h.up (a0 := 0) (k0 := 16) (κ := 0) (k' := 3) (y.1 0 16 + (mvf y m jn - y.1 0 6)) (sd0 (by omega)) (by decide) rfl rfl (by omega)
  have h2 := h1.up (a0 := 0) (k0 := 14) (κ := 0) (k' := 1) (y.1 0 14 + jn) (sd0 (by omega)) (by decide) rfl rfl (by omega)
  have h3 := h2.up (a0 := 0) (k0 := 15) (κ := 0) (k' := 2) (y.1 0 15 + 1) (sd0 (by omega)) (by decide) rfl rfl (by omega)
  obtain ⟨μ', g1, g2, g3⟩ := k_comeTo (t := mvf y m jn + mvw y m jn) h3 hl
  refine ⟨μ', ?_, g2, only.tr ((q_uple rfl).w (by unfold Yd; omega)) (only.tr ((q_uple rfl).w (by unfold Yd; omega)) (only.tr ((q_uple rfl).w (by unfold Yd; omega)) g3))⟩
  unfold f_X6_makeMove
  have e3 : μ 4 j (3 : Int32).toNatClampNeg = y.1 0 3 := h.1.set (k := 3) (by omega)
  have ew : m + jn * y.1 0 3 = mvw y m jn := rfl
  have ef : free (mvw y m jn) y.2.2.1 (y.1 0 6) = mvf y m jn := rfl
  have a1 : (upM μ 0 j 3 (y.1 0 16 + (mvf y m jn - y.1 0 6))) 0 j 1 = y.1 0 14 := by rw [q_up, if_neg (by omega)]; exact h.1.coup
  have a2 : (upM (upM μ 0 j 3 (y.1 0 16 + (mvf y m jn - y.1 0 6))) 0 j 1 (y.1 0 14 + jn)) 0 j 2 = y.1 0 15 := by rw [q_up, if_neg (by omega), q_up, if_neg (by omega)]; exact h.1.moves
  simp only [q_lt, e3, ew, h.1.minute, k_firstFree h.2.2.1 hl, ef, q_bd, h.1.wait, a1, a2, g1]
def canP (y : yT) (t n : Nat) : Bool := decide (n ≤ (y.2.1 t).length) && !decide (y.1 0 0 < ssum (y.1 4) (y.2.1 8) + ssum (y.1 4) ((y.2.1 t).take n))
theorem rw30 {rw : Nat → List Nat} (ho : rOK rw) {r : Nat} (hr : r < 9) : ∀ w ∈ cw r (rw r), w < 30 := fun w h => (ho r hr).2.1 w (cw_mem.mp h)
theorem rwl {rw : Nat → List Nat} (ho : rOK rw) {r : Nat} (hr : r < 9) : (cw r (rw r)).length ≤ 30 := by rw [cw_len]; exact (ho r hr).1
theorem k_lenR {j r : Nat} {y : yT} {μ : mT} (h : cY μ j y) (ho : rOK y.2.1) (hr : r < 9) : f_X5_lengthOfRow j (nI r) μ = some (ssum (y.1 4) (y.2.1 r), μ) := by
  rw [k_lengthOfRow hr (h.2.1 r hr) (rwl ho hr) (rw30 ho hr)]
  congr 2
  rw [ssum_cong (g := y.1 4) (fun w hw => h.1.w4 (rw30 ho hr w hw))]
  unfold cw
  split
  · rfl
  · exact ssum_rev _ _
theorem k_lenLt {j r n : Nat} {y : yT} {μ : mT} (h : cY μ j y) (ho : rOK y.2.1) (hr : r < 8) (hn : n ≤ (y.2.1 r).length) : f_X5_lengthOfLast j (nI r) (nI n) μ = some (ssum (y.1 4) ((y.2.1 r).take n), μ) := by
  rw [k_lengthOfLast (by omega) (h.2.1 r (by omega)) (rwl ho (by omega)) (rw30 ho (by omega)) (by rw [cw_len]; exact hn)]
  congr 2
  unfold cw
  rw [if_neg (by omega), List.reverse_reverse]
  exact ssum_cong (fun w hw => h.1.w4 ((ho r (by omega)).2.1 w (List.mem_of_mem_take hw)))
theorem k_lenL8 {j n : Nat} {y : yT} {μ : mT} (h : cY μ j y) (ho : rOK y.2.1) (hn : n ≤ (y.2.1 8).length) : f_X5_lengthOfLast j 8 (nI n) μ = some (ssum (y.1 4) ((y.2.1 8).drop ((y.2.1 8).length - n)), μ) := by
  rw [z_l8, k_lengthOfLast (by omega) (h.2.1 8 (by omega)) (rwl ho (by omega)) (rw30 ho (by omega)) (by rw [cw_len]; exact hn)]
  congr 2
  unfold cw
  rw [if_pos rfl, rev_take' hn, ssum_rev]
  exact ssum_cong (fun w hw => h.1.w4 ((ho 8 (by omega)).2.1 w (List.mem_of_mem_drop hw)))
theorem k_canTakeOut {j t n : Nat} {y : yT} {μ : mT} (h : cY μ j y) (ho : rOK y.2.1) (ht : t < 8) (hn : n < 2147483648) : f_X6_canTakeOut j (nI t) (nI n) μ = some (if canP y t n = true then 1 else 0, μ) := by
  unfold f_X6_canTakeOut canP
  have hl := (ho t (by omega)).1
  rw [k_manyIn (by omega), q_bd, cRow.nl h.2.1 (by omega)]
  by_cases hle : n ≤ (y.2.1 t).length
  · rw [if_neg (nI_nlt hle (by omega)), z_l8, k_lenR h ho (by omega), q_bd, k_lenLt h ho ht hle, q_bd]
    have e0 : μ 4 j (0 : Int32).toNatClampNeg = y.1 0 0 := h.1.set (k := 0) (by omega)
    rw [e0]
    by_cases hs : y.1 0 0 < ssum (y.1 4) (y.2.1 8) + ssum (y.1 4) ((y.2.1 t).take n)
    · simp [hs]
    · simp [hs, hle]
  · rw [if_pos (nI_lt (by omega) hn)]
    simp [hle]
def canQ (y : yT) (t n : Nat) : Bool := decide (n ≤ (y.2.1 8).length) && !decide (y.1 1 t < ssum (y.1 4) (y.2.1 t) + ssum (y.1 4) ((y.2.1 8).drop ((y.2.1 8).length - n)))
theorem k_canBringIn {j t n : Nat} {y : yT} {μ : mT} (h : cY μ j y) (ho : rOK y.2.1) (ht : t < 8) (hn : n < 2147483648) : f_X6_canBringIn j (nI t) (nI n) μ = some (if canQ y t n = true then 1 else 0, μ) := by
  unfold f_X6_canBringIn canQ
  have hl := (ho 8 (by omega)).1
  rw [z_l8, k_manyIn (by omega), q_bd, cRow.nl h.2.1 (by omega)]
  by_cases hle : n ≤ (y.2.1 8).length
  · rw [if_neg (nI_nlt hle (by omega)), k_lenR h ho (by omega), q_bd, ← z_l8, k_lenL8 h ho hle, q_bd, q_gdi ht (by omega), q_cl (by omega), h.1.t1 ht]
    by_cases hs : y.1 1 t < ssum (y.1 4) (y.2.1 t) + ssum (y.1 4) ((y.2.1 8).drop ((y.2.1 8).length - n))
    · simp [hs]
    · simp [hs, hle]
  · rw [if_pos (nI_lt (by omega) hn)]
    simp [hle]
def canR (y : yT) : Bool := !(y.2.1 8).isEmpty && !decide (y.1 0 1 < ssum (y.1 4) (y.2.1 8))
theorem k_canGoRound {j : Nat} {y : yT} {μ : mT} (h : cY μ j y) (ho : rOK y.2.1) : f_X6_canGoRound j μ = some (if canR y = true then 1 else 0, μ) := by
  unfold f_X6_canGoRound canR
  have hl := (ho 8 (by omega)).1
  rw [z_l8, k_manyIn (by omega), q_bd, cRow.nl h.2.1 (by omega)]
  by_cases hle : (y.2.1 8).length = 0
  · rw [if_pos (by rw [hle]; decide)]
    simp [List.length_eq_zero_iff.mp hle]
  · have e1 : μ 4 j (1 : Int32).toNatClampNeg = y.1 0 1 := h.1.set (k := 1) (by omega)
    rw [if_neg (by rw [z_l0]; exact nI_ge (by omega) (by omega)), k_lenR h ho (by omega), q_bd, e1]
    have hne : y.2.1 8 ≠ [] := fun e => hle (by rw [e]; rfl)
    by_cases hs : y.1 0 1 < ssum (y.1 4) (y.2.1 8)
    · simp [hs]
    · simp [hs, hne]
def rwD (rw : Nat → List Nat) (t n : Nat) : Nat → List Nat := fun r => if r = t then (rw t).drop n else if r = 8 then rw 8 ++ (rw t).take n else rw r
def rwB (rw : Nat → List Nat) (t n : Nat) : Nat → List Nat := fun r => if r = t then (rw 8).drop ((rw 8).length - n) ++ rw t else if r = 8 then (rw 8).take ((rw 8).length - n) else rw r
def rwR (rw : Nat → List Nat) : Nat → List Nat := fun r => if r = 8 then (rw 8).reverse else rw r
theorem k_shiftD {j t n : Nat} {rw : Nat → List Nat} {μ : mT} (h : cRows μ j rw) (ho : rOK rw) (hT : tot rw ≤ 30) (ht : t < 8) (hn : n ≤ (rw t).length) :
    ∃ μ', f_X5_shift j (nI t) 8 (nI n) μ = some (0, μ') ∧ cRows μ' j (rwD rw t n) ∧ only μ μ' (fun κ j' => (κ = 11 ∨ κ = 12) ∧ j' = j) := by
  have h2 := tot_two (rw := rw) ht
  obtain ⟨μ', g1, g2, g3, g4, g5⟩ := k_shift' (j := j) (r1 := t) (r2 := 8) (m := n) (by omega) (by omega) (by omega) (by rw [cw_len]; exact hn) (by rw [cw_len, cw_len]; omega) (h t (by omega)) (h 8 (by omega))
  refine ⟨μ', by rw [z_l8]; exact g1, fun r hr => ?_, g5⟩
  unfold rwD
  by_cases e : r = t
  · subst e
    rw [if_pos rfl]
    rw [cw_len] at g2
    unfold cw at g2 ⊢
    rw [if_neg (by omega), rev_take hn] at g2
    rw [if_neg (by omega)]
    exact g2
  · rw [if_neg e]
    by_cases e8 : r = 8
    · subst e8
      rw [if_pos rfl]
      rw [cw_len] at g3
      unfold cw at g3 ⊢
      rw [if_pos rfl, if_neg (by omega), rev_drop hn] at g3
      rw [if_pos rfl]
      exact g3
    · rw [if_neg e8]
      exact g4 r _ hr e e8 (rwl ho hr) (h r hr)
theorem k_shiftB {j t n : Nat} {rw : Nat → List Nat} {μ : mT} (h : cRows μ j rw) (ho : rOK rw) (hT : tot rw ≤ 30) (ht : t < 8) (hn : n ≤ (rw 8).length) :
    ∃ μ', f_X5_shift j 8 (nI t) (nI n) μ = some (0, μ') ∧ cRows μ' j (rwB rw t n) ∧ only μ μ' (fun κ j' => (κ = 11 ∨ κ = 12) ∧ j' = j) := by
  have h2 := tot_two (rw := rw) ht
  obtain ⟨μ', g1, g2, g3, g4, g5⟩ := k_shift' (j := j) (r1 := 8) (r2 := t) (m := n) (by omega) (by omega) (by omega) (by rw [cw_len]; exact hn) (by rw [cw_len, cw_len]; omega) (h 8 (by omega)) (h t (by omega))
  refine ⟨μ', by rw [z_l8]; exact g1, fun r hr => ?_, g5⟩
  unfold rwB
  by_cases e : r = t
  · subst e
    rw [if_pos rfl]
    rw [cw_len] at g3
    unfold cw at g3 ⊢
    rw [if_pos rfl, if_neg (by omega)] at g3
    rw [if_neg (by omega), List.reverse_append]
    exact g3
  · rw [if_neg e]
    by_cases e8 : r = 8
    · subst e8
      rw [if_pos rfl]
      rw [cw_len] at g2
      unfold cw at g2 ⊢
      rw [if_pos rfl] at g2
      rw [if_pos rfl]
      exact g2
    · rw [if_neg e8]
      exact g4 r _ hr e8 e (rwl ho hr) (h r hr)
