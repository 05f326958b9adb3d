abbrev sT := Nat → Nat → Int32
abbrev yT := sT × (Nat → List Nat) × List (Int32 × Int32) × List (Int32 × List Nat)
def sU (s : sT) (a k : Nat) (x : Int32) : sT := fun a' k' => if a' = a ∧ k' = k then x else s a' k'
theorem sU_s {s : sT} {a k : Nat} {x : Int32} : sU s a k x a k = x := if_pos ⟨rfl, rfl⟩
theorem sU_n {s : sT} {a k a' k' : Nat} {x : Int32} (h : ¬ (a' = a ∧ k' = k)) : sU s a k x a' k' = s a' k' := if_neg h
def sdom (a k : Nat) : Prop := (a = 0 ∧ (k ≤ 8 ∨ k = 10 ∨ k = 12 ∨ (14 ≤ k ∧ k ≤ 17))) ∨ (1 ≤ a ∧ a ≤ 3 ∧ k < 8) ∨ (4 ≤ a ∧ a ≤ 6 ∧ k < 30)
def cκ (a k : Nat) : Nat := if a = 0 then (if k < 6 then 4 else if k = 8 ∨ k = 10 then 1 else 0) else a + 4
def ck (a k : Nat) : Nat := if a = 0 then (if k < 6 then k else if k = 6 then 0 else if k = 14 then 1 else if k = 15 then 2 else if k = 16 then 3 else if k = 17 then 4 else if k = 12 then 5 else if k = 7 then 7 else if k = 8 then 0 else 1) else k
theorem c_inj {a k a' k' : Nat} (h : sdom a k) (h' : sdom a' k') (e : cκ a k = cκ a' k') (e' : ck a k = ck a' k') : a = a' ∧ k = k' := by
  unfold sdom at h h'
  unfold cκ at e
  unfold ck at e'
  grind (splits := 60)
def cS (μ : mT) (j : Nat) (s : sT) : Prop := ∀ a k, sdom a k → (a = 5 → 0 ≤ s 5 k) → μ (cκ a k) j (ck a k) = s a k
theorem cS.up {μ : mT} {j : Nat} {s : sT} (h : cS μ j s) {a0 k0 : Nat} (hd : sdom a0 k0) (h5 : a0 ≠ 5) (x : Int32) : cS (upM μ (cκ a0 k0) j (ck a0 k0) x) j (sU s a0 k0 x) := by
  intro a k hd' hk
  by_cases e : a = a0 ∧ k = k0
  · obtain ⟨rfl, rfl⟩ := e
    rw [sU_s, q_up, if_pos ⟨rfl, rfl, rfl⟩]
  · rw [sU_n e, q_up, if_neg]
    · refine h a k hd' (fun e5 => ?_)
      have := hk e5
      rwa [sU_n (fun z => h5 z.1.symm)] at this
    · rintro ⟨e1, -, e2⟩
      exact e (c_inj hd' hd e1 e2)
theorem cS.cong {μ μ' : mT} {j : Nat} {s : sT} (h : cS μ j s) (h' : ∀ κ, κ < 11 → κ ≠ 2 → κ ≠ 3 → μ' κ j = μ κ j) : cS μ' j s := by
  intro a k hd hk
  have h1 := h a k hd hk
  rw [h' (cκ a k) (by unfold cκ sdom at *; grind) (by unfold cκ sdom at *; grind) (by unfold cκ sdom at *; grind)]
  exact h1
theorem cS.g {μ : mT} {j : Nat} {s : sT} (h : cS μ j s) {κ k' : Nat} (a k : Nat) (hd : sdom a k) (h5 : a ≠ 5) (e : cκ a k = κ) (e' : ck a k = k') : μ κ j k' = s a k := by
  subst e; subst e'
  exact h a k hd (fun z => absurd z h5)
theorem sd0 {k : Nat} (h : k ≤ 8 ∨ k = 10 ∨ k = 12 ∨ (14 ≤ k ∧ k ≤ 17)) : sdom 0 k := Or.inl ⟨rfl, h⟩
theorem sdt {a k : Nat} (h : 1 ≤ a ∧ a ≤ 3) (hk : k < 8) : sdom a k := Or.inr (Or.inl ⟨h.1, h.2, hk⟩)
theorem sdw {a k : Nat} (h : 4 ≤ a ∧ a ≤ 6) (hk : k < 30) : sdom a k := Or.inr (Or.inr ⟨h.1, h.2, hk⟩)
theorem cS.minute {μ : mT} {j : Nat} {s : sT} (h : cS μ j s) : μ 0 j 0 = s 0 6 := h.g 0 6 (sd0 (by omega)) (by decide) rfl rfl
theorem cS.coup {μ : mT} {j : Nat} {s : sT} (h : cS μ j s) : μ 0 j 1 = s 0 14 := h.g 0 14 (sd0 (by omega)) (by decide) rfl rfl
theorem cS.moves {μ : mT} {j : Nat} {s : sT} (h : cS μ j s) : μ 0 j 2 = s 0 15 := h.g 0 15 (sd0 (by omega)) (by decide) rfl rfl
theorem cS.wait {μ : mT} {j : Nat} {s : sT} (h : cS μ j s) : μ 0 j 3 = s 0 16 := h.g 0 16 (sd0 (by omega)) (by decide) rfl rfl
theorem cS.fines {μ : mT} {j : Nat} {s : sT} (h : cS μ j s) : μ 0 j 4 = s 0 17 := h.g 0 17 (sd0 (by omega)) (by decide) rfl rfl
theorem cS.left {μ : mT} {j : Nat} {s : sT} (h : cS μ j s) : μ 0 j 5 = s 0 12 := h.g 0 12 (sd0 (by omega)) (by decide) rfl rfl
theorem cS.tracks {μ : mT} {j : Nat} {s : sT} (h : cS μ j s) : μ 0 j 7 = s 0 7 := h.g 0 7 (sd0 (by omega)) (by decide) rfl rfl
theorem cS.wagons {μ : mT} {j : Nat} {s : sT} (h : cS μ j s) : μ 1 j 0 = s 0 8 := h.g 0 8 (sd0 (by omega)) (by decide) rfl rfl
theorem cS.gone {μ : mT} {j : Nat} {s : sT} (h : cS μ j s) : μ 1 j 1 = s 0 10 := h.g 0 10 (sd0 (by omega)) (by decide) rfl rfl
theorem cS.set {μ : mT} {j : Nat} {s : sT} (h : cS μ j s) {k : Nat} (hk : k < 6) : μ 4 j k = s 0 k := h.g 0 k (sd0 (by omega)) (by decide) (by unfold cκ; rw [if_pos rfl, if_pos hk]) (by unfold ck; rw [if_pos rfl, if_pos hk])
theorem cS.t1 {μ : mT} {j : Nat} {s : sT} (h : cS μ j s) {t : Nat} (ht : t < 8) : μ 5 j t = s 1 t := h.g 1 t (sdt (by omega) ht) (by decide) rfl rfl
theorem cS.t2 {μ : mT} {j : Nat} {s : sT} (h : cS μ j s) {t : Nat} (ht : t < 8) : μ 6 j t = s 2 t := h.g 2 t (sdt (by omega) ht) (by decide) rfl rfl
theorem cS.t3 {μ : mT} {j : Nat} {s : sT} (h : cS μ j s) {t : Nat} (ht : t < 8) : μ 7 j t = s 3 t := h.g 3 t (sdt (by omega) ht) (by decide) rfl rfl
theorem cS.w4 {μ : mT} {j : Nat} {s : sT} (h : cS μ j s) {w : Nat} (hw : w < 30) : μ 8 j w = s 4 w := h.g 4 w (sdw (by omega) hw) (by decide) rfl rfl
theorem cS.w6 {μ : mT} {j : Nat} {s : sT} (h : cS μ j s) {w : Nat} (hw : w < 30) : μ 10 j w = s 6 w := h.g 6 w (sdw (by omega) hw) (by decide) rfl rfl
theorem cS.w5 {μ : mT} {j : Nat} {s : sT} (h : cS μ j s) {w : Nat} (hw : w < 30) (h5 : 0 ≤ s 5 w) : μ 9 j w = s 5 w := h 5 w (sdw (by omega) hw) (fun _ => h5)
def cY (μ : mT) (j : Nat) (y : yT) : Prop := cS μ j y.1 ∧ cRows μ j y.2.1 ∧ cB μ j y.2.2.1 ∧ cT μ j y.2.2.2
def Yd (j : Nat) : Nat → Nat → Prop := fun κ j' => κ < 18 ∧ j' = j
def tot (rw : Nat → List Nat) : Nat := (rw 0).length + (rw 1).length + (rw 2).length + (rw 3).length + (rw 4).length + (rw 5).length + (rw 6).length + (rw 7).length + (rw 8).length
theorem tot_one {rw : Nat → List Nat} {r : Nat} (hr : r < 9) : (rw r).length ≤ tot rw := by
  unfold tot
  rcases (show r = 0 ∨ r = 1 ∨ r = 2 ∨ r = 3 ∨ r = 4 ∨ r = 5 ∨ r = 6 ∨ r = 7 ∨ r = 8 by omega) with rfl | rfl | rfl | rfl | rfl | rfl | rfl | rfl | rfl <;> omega
theorem tot_two {rw : Nat → List Nat} {r : Nat} (hr : r < 8) : (rw r).length + (rw 8).length ≤ tot rw := by
  unfold tot
  rcases (show r = 0 ∨ r = 1 ∨ r = 2 ∨ r = 3 ∨ r = 4 ∨ r = 5 ∨ r = 6 ∨ r = 7 by omega) with rfl | rfl | rfl | rfl | rfl | rfl | rfl | rfl <;> omega
/-- what always holds of a state, with a bound on its minutes -/
def iY (y : yT) (nt nw tm B : Nat) : Prop :=
  (y.1 0 7 = nI nt ∧ nt ≤ 8 ∧ y.1 0 8 = nI nw ∧ nw ≤ 30 ∧ y.1 0 6 = nI tm ∧ tm ≤ B) ∧
  (∀ k, k < 6 → ∃ a, a ≤ 1000 ∧ y.1 0 k = nI a) ∧
  (∀ r, r < 9 → (∀ w ∈ y.2.1 r, w < nw) ∧ (y.2.1 r).Nodup) ∧
  (∀ r r' w, r < 9 → r' < 9 → w ∈ y.2.1 r → w ∈ y.2.1 r' → r = r') ∧
  tot y.2.1 ≤ nw ∧
  (∀ t, nt ≤ t → t < 8 → y.2.1 t = []) ∧
  (∀ w, w < nw → ∀ r, r < 9 → w ∈ y.2.1 r → y.1 5 w = -6) ∧
  (∀ w, w < nw → (∀ r, r < 9 → w ∉ y.2.1 r) → 0 ≤ y.1 5 w) ∧
  (y.2.2.1.length ≤ 10 ∧ ∀ b ∈ y.2.2.1, ∃ x e : Nat, x ≤ B ∧ e ≤ B ∧ b = (nI x, nI e)) ∧
  tOK y.2.2.2 ∧ (∀ e ∈ y.2.2.2, (∃ d, d ≤ B + 5000 ∧ e.1 = nI d) ∧ ∀ w ∈ e.2, w < nw)
section IY
variable {y : yT} {nt nw tm B : Nat}
theorem iY.hnt (h : iY y nt nw tm B) : y.1 0 7 = nI nt := h.1.1
theorem iY.nt8 (h : iY y nt nw tm B) : nt ≤ 8 := h.1.2.1
theorem iY.hnw (h : iY y nt nw tm B) : y.1 0 8 = nI nw := h.1.2.2.1
theorem iY.nw30 (h : iY y nt nw tm B) : nw ≤ 30 := h.1.2.2.2.1
theorem iY.htm (h : iY y nt nw tm B) : y.1 0 6 = nI tm := h.1.2.2.2.2.1
theorem iY.tmB (h : iY y nt nw tm B) : tm ≤ B := h.1.2.2.2.2.2
theorem iY.rOK (h : iY y nt nw tm B) : rOK y.2.1 := fun r hr => ⟨Nat.le_trans (tot_one hr) (Nat.le_trans h.2.2.2.2.1 h.nw30), fun w hw => Nat.lt_of_lt_of_le ((h.2.2.1 r hr).1 w hw) h.nw30, (h.2.2.1 r hr).2⟩
theorem iY.totn (h : iY y nt nw tm B) : tot y.2.1 ≤ nw := h.2.2.2.2.1
theorem iY.tot (h : iY y nt nw tm B) : tot y.2.1 ≤ 30 := Nat.le_trans h.2.2.2.2.1 h.nw30
theorem iY.bl (h : iY y nt nw tm B) : y.2.2.1.length ≤ 10 := h.2.2.2.2.2.2.2.2.1.1
theorem iY.tok (h : iY y nt nw tm B) : tOK y.2.2.2 := h.2.2.2.2.2.2.2.2.2.1
end IY
theorem cRow.nl {μ : mT} {j : Nat} {rw : Nat → List Nat} (h : cRows μ j rw) {r : Nat} (hr : r < 9) : μ 11 j r = nI (rw r).length := by
  rw [(h r hr).1, cw_len]
theorem rev_take {l : List Nat} {n : Nat} (h : n ≤ l.length) : l.reverse.take (l.length - n) = (l.drop n).reverse := by
  rw [List.take_reverse]
  congr 2
  omega
theorem rev_drop {l : List Nat} {n : Nat} (h : n ≤ l.length) : (l.reverse.drop (l.length - n)).reverse = l.take n := by
  rw [List.drop_reverse, List.reverse_reverse]
  congr 1
  omega
theorem rev_take' {l : List Nat} {n : Nat} (h : n ≤ l.length) : l.reverse.take n = (l.drop (l.length - n)).reverse := List.take_reverse
def isT (y : yT) (a : Int32) : Bool := !decide (a < 0) && !decide (y.1 0 7 ≤ a)
theorem isT_in {y : yT} {a : Int32} {nt : Nat} (h7 : y.1 0 7 = nI nt) (h8 : nt ≤ 8) (h : isT y a = true) : ∃ t, t < nt ∧ a = nI t := by
  unfold isT at h
  simp only [Bool.and_eq_true, Bool.not_eq_true', decide_eq_false_iff_not] at h
  obtain ⟨t, ht, rfl⟩ := nI_of h.1
  refine ⟨t, ?_, rfl⟩
  rcases Nat.lt_or_ge t nt with q | q
  · exact q
  · exact absurd (by rw [h7]; exact nI_le q ht) h.2
theorem k_hasTrack {j : Nat} {a : Int32} {y : yT} {μ : mT} (h : cS μ j y.1) : f_X6_hasTrack j a μ = some (if isT y a = true then 1 else 0, μ) := by
  unfold f_X6_hasTrack isT
  rw [h.tracks]
  by_cases h1 : a < 0
  · simp [h1]
  · by_cases h2 : y.1 0 7 ≤ a
    · simp [h1, h2]
    · simp [h1, h2]
def ctm (y : yT) (t : Int32) : yT := (sU y.1 0 6 t, y.2.1, y.2.2.1.filter (kp t), y.2.2.2)
def mvw (y : yT) (m jn : Int32) : Int32 := m + jn * y.1 0 3
def mvf (y : yT) (m jn : Int32) : Int32 := free (mvw y m jn) y.2.2.1 (y.1 0 6)
def mvm (y : yT) (m jn : Int32) : yT := ctm (sU (sU (sU y.1 0 16 (y.1 0 16 + (mvf y m jn - y.1 0 6))) 0 14 (y.1 0 14 + jn)) 0 15 (y.1 0 15 + 1), y.2) (mvf y m jn + mvw y m jn)
theorem cRows.cong {μ μ' : mT} {j : Nat} {rw : Nat → List Nat} (h : cRows μ j rw) (h1 : μ' 11 j = μ 11 j) (h2 : μ' 12 j = μ 12 j) : cRows μ' j rw := fun r hr => (h r hr).cong h1 h2
theorem cY.s {μ : mT} {j : Nat} {y : yT} (h : cY μ j y) : cS μ j y.1 := h.1
/-- one number of a state is set -/
theorem cY.up {μ : mT} {j : Nat} {y : yT} (h : cY μ j y) {a0 k0 κ k' : Nat} (x : Int32) (hd : sdom a0 k0) (h5 : a0 ≠ 5) (e : cκ a0 k0 = κ) (e' : ck a0 k0 = k') (hκ : κ < 11 ∧ κ ≠ 2 ∧ κ ≠ 3) : cY (upM μ κ j k' x) j (sU y.1 a0 k0 x, y.2) := by
  subst e; subst e'
  exact ⟨h.1.up hd h5 x, h.2.1.cong (q_upn (by omega)) (q_upn (by omega)), h.2.2.1.cong (q_upn (by omega)) (q_upn (by omega)) (q_upn (by omega)), h.2.2.2.cong (q_upn (by omega)) (q_upn (by omega)) (q_upn (by omega)) (q_upn (by omega))⟩
theorem k_comeTo {j : Nat} {t : Int32} {y : yT} {μ : mT} (h : cY μ j y) (hl : y.2.2.1.length ≤ 10) :
    ∃ μ', f_X6_comeTo j t μ = some (0, μ') ∧ cY μ' j (ctm y t) ∧ only μ μ' (Yd j) := by
  have h1 := h.up (a0 := 0) (k0 := 6) (κ := 0) (k' := 0) t (sd0 (by omega)) (by decide) rfl rfl (by omega)
  obtain ⟨μ', g1, g2, g3⟩ := k_dropEnded (t := t) hl h1.2.2.1
  refine ⟨μ', ?_, ⟨?_, ?_, g2, ?_⟩, only.tr ((q_uple rfl).w (by unfold Yd; omega)) (g3.w (by unfold Yd; omega))⟩
  · unfold f_X6_comeTo
    rw [q_lt, g1]
    rfl
  · exact h1.1.cong (fun κ a b c => g3 κ j (by omega))
  · exact h1.2.1.cong (g3 _ j (by omega)) (g3 _ j (by omega))
  · exact h1.2.2.2.cong (g3 _ j (by omega)) (g3 _ j (by omega)) (g3 _ j (by omega)) (g3 _ j (by omega))
theorem k_makeMove {j : Nat} {m jn : Int32} {y : yT} {μ : mT} (h : cY μ j y) (hl : y.2.2.1.length ≤ 10) :
    ∃ μ', f_X6_makeMove j m jn μ = some (0, μ') ∧ cY μ' j (mvm y m jn) ∧ only μ μ' (Yd j) := by
  have h1 := h.up (a0 := 0) (k0 := 16) (κ := 0) (k' := 3) (y.1 0 16 + (mvf y m jn - y.1 0 6)) (sd0 (by omega)) (by decide) rfl rfl (by omega)
  have h2 := h1.up (a0 := 0) (k0 := 14) (κ := 0) (k' := 1) (y.1 0 14 + jn) (sd0 (by omega)) (by decide) rfl rfl (by omega)
  have h3 := h2.up (a0 := 0) (k0 := 15) (κ := 0) (k' := 2) (y.1 0 15 + 1) (sd0 (by omega)) (by decide) rfl rfl (by omega)
  obtain ⟨μ', g1, g2, g3⟩ := k_comeTo (t := mvf y m jn + mvw y m jn) h3 hl
  refine ⟨μ', ?_, g2, only.tr ((q_uple rfl).w (by unfold Yd; omega)) (only.tr ((q_uple rfl).w (by unfold Yd; omega)) (only.tr ((q_uple rfl).w (by unfold Yd; omega)) g3))⟩
  unfold f_X6_makeMove
  have e3 : μ 4 j (3 : Int32).toNatClampNeg = y.1 0 3 := h.1.set (k := 3) (by omega)
  have ew : m + jn * y.1 0 3 = mvw y m jn := rfl
  have ef : free (mvw y m jn) y.2.2.1 (y.1 0 6) = mvf y m jn := rfl
  have a1 : (upM μ 0 j 3 (y.1 0 16 + (mvf y m jn - y.1 0 6))) 0 j 1 = y.1 0 14 := by rw [q_up, if_neg (by omega)]; exact h.1.coup
  have a2 : (upM (upM μ 0 j 3 (y.1 0 16 + (mvf y m jn - y.1 0 6))) 0 j 1 (y.1 0 14 + jn)) 0 j 2 = y.1 0 15 := by rw [q_up, if_neg (by omega), q_up, if_neg (by omega)]; exact h.1.moves
  simp only [q_lt, e3, ew, h.1.minute, k_firstFree h.2.2.1 hl, ef, q_bd, h.1.wait, a1, a2, g1]
def canP (y : yT) (t n : Nat) : Bool := decide (n ≤ (y.2.1 t).length) && !decide (y.1 0 0 < ssum (y.1 4) (y.2.1 8) + ssum (y.1 4) ((y.2.1 t).take n))
theorem rw30 {rw : Nat → List Nat} (ho : rOK rw) {r : Nat} (hr : r < 9) : ∀ w ∈ cw r (rw r), w < 30 := fun w h => (ho r hr).2.1 w (cw_mem.mp h)
theorem rwl {rw : Nat → List Nat} (ho : rOK rw) {r : Nat} (hr : r < 9) : (cw r (rw r)).length ≤ 30 := by rw [cw_len]; exact (ho r hr).1
theorem k_lenR {j r : Nat} {y : yT} {μ : mT} (h : cY μ j y) (ho : rOK y.2.1) (hr : r < 9) : f_X5_lengthOfRow j (nI r) μ = some (ssum (y.1 4) (y.2.1 r), μ) := by
  rw [k_lengthOfRow hr (h.2.1 r hr) (rwl ho hr) (rw30 ho hr)]
  congr 2
  rw [ssum_cong (g := y.1 4) (fun w hw => h.1.w4 (rw30 ho hr w hw))]
  unfold cw
  split
  · rfl
  · exact ssum_rev _ _
theorem k_lenLt {j r n : Nat} {y : yT} {μ : mT} (h : cY μ j y) (ho : rOK y.2.1) (hr : r < 8) (hn : n ≤ (y.2.1 r).length) : f_X5_lengthOfLast j (nI r) (nI n) μ = some (ssum (y.1 4) ((y.2.1 r).take n), μ) := by
  rw [k_lengthOfLast (by omega) (h.2.1 r (by omega)) (rwl ho (by omega)) (rw30 ho (by omega)) (by rw [cw_len]; exact hn)]
  congr 2
  unfold cw
  rw [if_neg (by omega), List.reverse_reverse]
  exact ssum_cong (fun w hw => h.1.w4 ((ho r (by omega)).2.1 w (List.mem_of_mem_take hw)))
theorem k_lenL8 {j n : Nat} {y : yT} {μ : mT} (h : cY μ j y) (ho : rOK y.2.1) (hn : n ≤ (y.2.1 8).length) : f_X5_lengthOfLast j 8 (nI n) μ = some (ssum (y.1 4) ((y.2.1 8).drop ((y.2.1 8).length - n)), μ) := by
  rw [z_l8, k_lengthOfLast (by omega) (h.2.1 8 (by omega)) (rwl ho (by omega)) (rw30 ho (by omega)) (by rw [cw_len]; exact hn)]
  congr 2
  unfold cw
  rw [if_pos rfl, rev_take' hn, ssum_rev]
  exact ssum_cong (fun w hw => h.1.w4 ((ho 8 (by omega)).2.1 w (List.mem_of_mem_drop hw)))
theorem k_canTakeOut {j t n : Nat} {y : yT} {μ : mT} (h : cY μ j y) (ho : rOK y.2.1) (ht : t < 8) (hn : n < 2147483648) : f_X6_canTakeOut j (nI t) (nI n) μ = some (if canP y t n = true then 1 else 0, μ) := by
  unfold f_X6_canTakeOut canP
  have hl := (ho t (by omega)).1
  rw [k_manyIn (by omega), q_bd, cRow.nl h.2.1 (by omega)]
  by_cases hle : n ≤ (y.2.1 t).length
  · rw [if_neg (nI_nlt hle (by omega)), z_l8, k_lenR h ho (by omega), q_bd, k_lenLt h ho ht hle, q_bd]
    have e0 : μ 4 j (0 : Int32).toNatClampNeg = y.1 0 0 := h.1.set (k := 0) (by omega)
    rw [e0]
    by_cases hs : y.1 0 0 < ssum (y.1 4) (y.2.1 8) + ssum (y.1 4) ((y.2.1 t).take n)
    · simp [hs]
    · simp [hs, hle]
  · rw [if_pos (nI_lt (by omega) hn)]
    simp [hle]
def canQ (y : yT) (t n : Nat) : Bool := decide (n ≤ (y.2.1 8).length) && !decide (y.1 1 t < ssum (y.1 4) (y.2.1 t) + ssum (y.1 4) ((y.2.1 8).drop ((y.2.1 8).length - n)))
theorem k_canBringIn {j t n : Nat} {y : yT} {μ : mT} (h : cY μ j y) (ho : rOK y.2.1) (ht : t < 8) (hn : n < 2147483648) : f_X6_canBringIn j (nI t) (nI n) μ = some (if canQ y t n = true then 1 else 0, μ) := by
  unfold f_X6_canBringIn canQ
  have hl := (ho 8 (by omega)).1
  rw [z_l8, k_manyIn (by omega), q_bd, cRow.nl h.2.1 (by omega)]
  by_cases hle : n ≤ (y.2.1 8).length
  · rw [if_neg (nI_nlt hle (by omega)), k_lenR h ho (by omega), q_bd, ← z_l8, k_lenL8 h ho hle, q_bd, q_gdi ht (by omega), q_cl (by omega), h.1.t1 ht]
    by_cases hs : y.1 1 t < ssum (y.1 4) (y.2.1 t) + ssum (y.1 4) ((y.2.1 8).drop ((y.2.1 8).length - n))
    · simp [hs]
    · simp [hs, hle]
  · rw [if_pos (nI_lt (by omega) hn)]
    simp [hle]
def canR (y : yT) : Bool := !(y.2.1 8).isEmpty && !decide (y.1 0 1 < ssum (y.1 4) (y.2.1 8))
theorem k_canGoRound {j : Nat} {y : yT} {μ : mT} (h : cY μ j y) (ho : rOK y.2.1) : f_X6_canGoRound j μ = some (if canR y = true then 1 else 0, μ) := by
  unfold f_X6_canGoRound canR
  have hl := (ho 8 (by omega)).1
  rw [z_l8, k_manyIn (by omega), q_bd, cRow.nl h.2.1 (by omega)]
  by_cases hle : (y.2.1 8).length = 0
  · rw [if_pos (by rw [hle]; decide)]
    simp [List.length_eq_zero_iff.mp hle]
  · have e1 : μ 4 j (1 : Int32).toNatClampNeg = y.1 0 1 := h.1.set (k := 1) (by omega)
    rw [if_neg (by rw [z_l0]; exact nI_ge (by omega) (by omega)), k_lenR h ho (by omega), q_bd, e1]
    have hne : y.2.1 8 ≠ [] := fun e => hle (by rw [e]; rfl)
    by_cases hs : y.1 0 1 < ssum (y.1 4) (y.2.1 8)
    · simp [hs]
    · simp [hs, hne]
def rwD (rw : Nat → List Nat) (t n : Nat) : Nat → List Nat := fun r => if r = t then (rw t).drop n else if r = 8 then rw 8 ++ (rw t).take n else rw r
def rwB (rw : Nat → List Nat) (t n : Nat) : Nat → List Nat := fun r => if r = t then (rw 8).drop ((rw 8).length - n) ++ rw t else if r = 8 then (rw 8).take ((rw 8).length - n) else rw r
def rwR (rw : Nat → List Nat) : Nat → List Nat := fun r => if r = 8 then (rw 8).reverse else rw r
theorem k_shiftD {j t n : Nat} {rw : Nat → List Nat} {μ : mT} (h : cRows μ j rw) (ho : rOK rw) (hT : tot rw ≤ 30) (ht : t < 8) (hn : n ≤ (rw t).length) :
    ∃ μ', f_X5_shift j (nI t) 8 (nI n) μ = some (0, μ') ∧ cRows μ' j (rwD rw t n) ∧ only μ μ' (fun κ j' => (κ = 11 ∨ κ = 12) ∧ j' = j) := by
  have h2 := tot_two (rw := rw) ht
  obtain ⟨μ', g1, g2, g3, g4, g5⟩ := k_shift' (j := j) (r1 := t) (r2 := 8) (m := n) (by omega) (by omega) (by omega) (by rw [cw_len]; exact hn) (by rw [cw_len, cw_len]; omega) (h t (by omega)) (h 8 (by omega))
  refine ⟨μ', by rw [z_l8]; exact g1, fun r hr => ?_, g5⟩
  unfold rwD
  by_cases e : r = t
  · subst e
    rw [if_pos rfl]
    rw [cw_len] at g2
    unfold cw at g2 ⊢
    rw [if_neg (by omega), rev_take hn] at g2
    rw [if_neg (by omega)]
    exact g2
  · rw [if_neg e]
    by_cases e8 : r = 8
    · subst e8
      rw [if_pos rfl]
      rw [cw_len] at g3
      unfold cw at g3 ⊢
      rw [if_pos rfl, if_neg (by omega), rev_drop hn] at g3
      rw [if_pos rfl]
      exact g3
    · rw [if_neg e8]
      exact g4 r _ hr e e8 (rwl ho hr) (h r hr)
theorem k_shiftB {j t n : Nat} {rw : Nat → List Nat} {μ : mT} (h : cRows μ j rw) (ho : rOK rw) (hT : tot rw ≤ 30) (ht : t < 8) (hn : n ≤ (rw 8).length) :
    ∃ μ', f_X5_shift j 8 (nI t) (nI n) μ = some (0, μ') ∧ cRows μ' j (rwB rw t n) ∧ only μ μ' (fun κ j' => (κ = 11 ∨ κ = 12) ∧ j' = j) := by
  have h2 := tot_two (rw := rw) ht
  obtain ⟨μ', g1, g2, g3, g4, g5⟩ := k_shift' (j := j) (r1 := 8) (r2 := t) (m := n) (by omega) (by omega) (by omega) (by rw [cw_len]; exact hn) (by rw [cw_len, cw_len]; omega) (h 8 (by omega)) (h t (by omega))
  refine ⟨μ', by rw [z_l8]; exact g1, fun r hr => ?_, g5⟩
  unfold rwB
  by_cases e : r = t
  · subst e
    rw [if_pos rfl]
    rw [cw_len] at g3
    unfold cw at g3 ⊢
    rw [if_pos rfl, if_neg (by omega)] at g3
    rw [if_neg (by omega), List.reverse_append]
    exact g3
  · rw [if_neg e]
    by_cases e8 : r = 8
    · subst e8
      rw [if_pos rfl]
      rw [cw_len] at g2
      unfold cw at g2 ⊢
      rw [if_pos rfl] at g2
      rw [if_pos rfl]
      exact g2
    · rw [if_neg e8]
      exact g4 r _ hr e8 e (rwl ho hr) (h r hr)
def nP (s : sT) (l : List Nat) : sT := fun a k => if a = 6 ∧ k ∈ l then s a k + 1 else s a k
def dO (y : yT) (t n : Nat) : yT := (sU (nP y.1 ((y.2.1 t).take n)) 2 t (y.1 2 t + nI n), rwD y.2.1 t n, y.2.2)
def jD (y : yT) (t n : Nat) : Int32 := if (y.2.1 t).length ≤ n then 1 else 2
def sDraw (y : yT) (t n : Nat) : yT := mvm (dO y t n) (y.1 0 2) (jD y t n)
def sBk (y : yT) (t n : Nat) : yT := (sU y.1 3 t (y.1 3 t + nI n), rwB y.2.1 t n, y.2.2)
def jB (y : yT) (t : Nat) : Int32 := if (y.2.1 t).length = 0 then 1 else 2
def sBring (y : yT) (t n : Nat) : yT := mvm (sBk y t n) (y.1 0 2) (jB y t)
def sRnd (y : yT) : yT := mvm (y.1, rwR y.2.1, y.2.2) (y.1 0 4) 2
def rDis (rw : Nat → List Nat) : Prop := ∀ r r' w, r < 9 → r' < 9 → w ∈ rw r → w ∈ rw r' → r = r'
def gY (y : yT) : Prop := rOK y.2.1 ∧ rDis y.2.1 ∧ tot y.2.1 ≤ 30 ∧ y.2.2.1.length ≤ 10 ∧ tOK y.2.2.2
theorem iY.g {y : yT} {nt nw tm B : Nat} (h : iY y nt nw tm B) : gY y := ⟨h.rOK, h.2.2.2.1, h.tot, h.bl, h.tok⟩
theorem nd_take {rw : Nat → List Nat} (ho : rOK rw) (hd : rDis rw) {t n : Nat} (ht : t < 8) : (rw 8 ++ (rw t).take n).Nodup := by
  rw [List.nodup_append]
  refine ⟨(ho 8 (by omega)).2.2, List.Nodup.sublist (List.take_sublist _ _) (ho t (by omega)).2.2, fun a ha b hb e => ?_⟩
  subst e
  have := hd 8 t a (by omega) (by omega) ha (List.mem_of_mem_take hb)
  omega
theorem rwD_8 {rw : Nat → List Nat} {t n : Nat} (ht : t < 8) : rwD rw t n 8 = rw 8 ++ (rw t).take n := by
  unfold rwD
  rw [if_neg (by omega), if_pos rfl]
theorem rwD_t {rw : Nat → List Nat} {t n : Nat} : rwD rw t n t = (rw t).drop n := if_pos rfl
theorem rwB_8 {rw : Nat → List Nat} {t n : Nat} (ht : t < 8) : rwB rw t n 8 = (rw 8).take ((rw 8).length - n) := by
  unfold rwB
  rw [if_neg (by omega), if_pos rfl]
theorem k_drawOut {j t n : Nat} {y : yT} {μ : mT} (h : cY μ j y) (hg : gY y) (ht : t < 8) (hn : n ≤ (y.2.1 t).length) :
    ∃ μ', f_X6_drawOut j (nI t) (nI n) μ = some (nI ((y.2.1 8).length + n), μ') ∧ cY μ' j (sDraw y t n) ∧ only μ μ' (Yd j) := by
  obtain ⟨ho, hD, hT, hl, -⟩ := hg
  have hl30 := (ho t (by omega)).1
  have h82 := tot_two (rw := y.2.1) ht
  obtain ⟨μ1, a1, a2, a3⟩ := k_shiftD h.2.1 ho hT ht hn
  have c8 : cRow μ1 j 8 (y.2.1 8 ++ (y.2.1 t).take n) := by
    have := a2 8 (by omega)
    rw [rwD_8 ht] at this
    exact this
  have hlen : (y.2.1 8 ++ (y.2.1 t).take n).length = (y.2.1 8).length + n := by
    rw [List.length_append, List.length_take]
    omega
  have hnd := nd_take ho hD (n := n) ht
  obtain ⟨μ2, b1, b2, b3⟩ := k_notePulled (j := j) (m := n) (l := y.2.1 8 ++ (y.2.1 t).take n) (by omega) (fun w hw => by
    rcases List.mem_append.mp hw with q | q
    · exact (ho 8 (by omega)).2.1 w q
    · exact (ho t (by omega)).2.1 w (List.mem_of_mem_take q)) hnd (by omega) c8
  rw [hlen, Nat.add_sub_cancel, List.drop_append_of_le_length (Nat.le_refl _), List.drop_length, List.nil_append] at b2
  have hY2 : cY μ2 j (nP y.1 ((y.2.1 t).take n), rwD y.2.1 t n, y.2.2) := by
    refine ⟨fun a k hd hk => ?_, a2.cong (b3 _ j (by omega)) (b3 _ j (by omega)), h.2.2.1.cong ((b3 _ j (by omega)).trans (a3 _ j (by omega))) ((b3 _ j (by omega)).trans (a3 _ j (by omega))) ((b3 _ j (by omega)).trans (a3 _ j (by omega))), h.2.2.2.cong ((b3 _ j (by omega)).trans (a3 _ j (by omega))) ((b3 _ j (by omega)).trans (a3 _ j (by omega))) ((b3 _ j (by omega)).trans (a3 _ j (by omega))) ((b3 _ j (by omega)).trans (a3 _ j (by omega)))⟩
    by_cases e : a = 6
    · subst e
      show μ2 10 j k = _
      rw [b2 k, a3 10 j (by omega)]
      have hk30 : k < 30 := by unfold sdom at hd; omega
      rw [h.1.w6 hk30]
      show _ = nP y.1 ((y.2.1 t).take n) 6 k
      unfold nP
      by_cases q : k ∈ (y.2.1 t).take n
      · rw [if_pos q, if_pos ⟨rfl, q⟩]
      · rw [if_neg q, if_neg (fun z => q z.2)]
    · have hκ : cκ a k < 11 ∧ cκ a k ≠ 10 := by unfold cκ; unfold sdom at hd; grind
      rw [b3 _ j (by omega), a3 _ j (by omega)]
      show _ = nP y.1 ((y.2.1 t).take n) a k
      unfold nP
      rw [if_neg (fun z => e z.1)]
      refine h.1 a k hd (fun e5 => ?_)
      have := hk e5
      dsimp only at this
      unfold nP at this
      rwa [if_neg (by omega)] at this
  have hY3 := hY2.up (a0 := 2) (k0 := t) (κ := 6) (k' := t) (y.1 2 t + nI n) (sdt (by omega) ht) (by decide) rfl rfl (by omega)
  have e62 : μ2 6 j t = y.1 2 t := (b3 6 j (by omega)).symm ▸ (a3 6 j (by omega)).symm ▸ h.1.t2 ht
  obtain ⟨μ4, d1, d2, d3⟩ := k_makeMove (m := y.1 0 2) (jn := jD y t n) hY3 hl
  have o3 : only μ (upM μ2 6 j t (y.1 2 t + nI n)) (Yd j) := (a3.w (by unfold Yd; omega)).tr ((b3.w (by unfold Yd; omega)).tr ((q_uple rfl).w (by unfold Yd; omega)))
  have e11 : (upM μ2 6 j t (y.1 2 t + nI n)) 11 j t = nI ((y.2.1 t).length - n) := by
    rw [q_up, if_neg (by omega), cRow.nl hY2.2.1 (by omega)]
    show nI (rwD y.2.1 t n t).length = _
    rw [rwD_t, List.length_drop]
  have e42 : (upM μ2 6 j t (y.1 2 t + nI n)) 4 j (2 : Int32).toNatClampNeg = y.1 0 2 := by
    show (upM μ2 6 j t (y.1 2 t + nI n)) 4 j 2 = y.1 0 2
    rw [q_up, if_neg (by omega), b3 4 j (by omega), a3 4 j (by omega)]
    exact h.1.set (by omega)
  have e8 : μ4 11 j 8 = nI ((y.2.1 8).length + n) := by
    rw [cRow.nl d2.2.1 (by omega)]
    show nI (rwD y.2.1 t n 8).length = _
    rw [rwD_8 ht, hlen]
  refine ⟨μ4, ?_, d2, o3.tr d3⟩
  unfold f_X6_drawOut
  rw [a1, q_bd, b1, q_bd, q_gdi ht (by omega), q_gdi ht (by omega), q_cl (by omega), e62, q_lt, k_manyIn (by omega), q_bd, e11, q_lt, e42]
  have hj : jD y t n = if nI ((y.2.1 t).length - n) ≤ 0 then 1 else 2 := by
    unfold jD
    by_cases q : (y.2.1 t).length ≤ n
    · rw [if_pos q, if_pos]
      rw [show (y.2.1 t).length - n = 0 by omega]
      decide
    · rw [if_neg q, if_neg]
      rw [z_l0]
      exact nI_ge (by omega) (by omega)
  have hfin : bd (f_X6_makeMove j (y.1 0 2) (jD y t n) (upM μ2 6 j t (y.1 2 t + nI n))) (fun _ μ12 => bd (f_X5_manyIn j 8 μ12) (fun v13 μ14 => some (v13, μ14))) = some (nI ((y.2.1 8).length + n), μ4) := by
    rw [d1, q_bd, z_l8, k_manyIn (by omega), q_bd, e8]
  split
  · rename_i q
    rw [if_pos q] at hj
    rw [← hj]
    exact hfin
  · rename_i q
    rw [if_neg q] at hj
    rw [← hj]
    exact hfin
def sPull (y : yT) (a b : Int32) : Int32 × yT :=
  if isT y a = true then (if b < 1 ∨ 30 < b then (-2, y) else if canP y a.toNatClampNeg b.toNatClampNeg = true then (nI ((y.2.1 8).length + b.toNatClampNeg), sDraw y a.toNatClampNeg b.toNatClampNeg) else (-5, y)) else (-1, y)
def sPush (y : yT) (a b : Int32) : Int32 × yT :=
  if isT y a = true then (if b < 1 ∨ 30 < b then (-2, y) else if canQ y a.toNatClampNeg b.toNatClampNeg = true then (nI ((y.2.1 8).length - b.toNatClampNeg), sBring y a.toNatClampNeg b.toNatClampNeg) else (-5, y)) else (-1, y)
def sRound (y : yT) : Int32 × yT := if canR y = true then ((sRnd y).1 0 6, sRnd y) else (-5, y)
def sPass (y : yT) (a : Int32) : Int32 × yT := if a < 1 ∨ 999 < a then (-2, y) else (y.1 0 6 + a, ctm y (y.1 0 6 + a))
theorem b30 {b : Int32} (h : ¬ (b < 1 ∨ 30 < b)) : ∃ n, 1 ≤ n ∧ n ≤ 30 ∧ b = nI n := by
  have h0 : ¬ b < 0 := fun q => h (Or.inl (Int32.lt_of_lt_of_le q (by decide)))
  obtain ⟨n, hn, e⟩ := nI_of2 (M := 30) (n := 30) (by decide) h0 (Int32.not_lt.mp (fun q => h (Or.inr q)))
  refine ⟨n, ?_, hn, e⟩
  rcases Nat.eq_zero_or_pos n with rfl | q
  · exact absurd (Or.inl (by rw [e]; decide)) h
  · exact q
theorem k_takeOut {j nt nw tm B : Nat} {a b : Int32} {y : yT} {μ : mT} (h : cY μ j y) (hi : iY y nt nw tm B) :
    ∃ μ', f_X6_takeOut j a b μ = some ((sPull y a b).1, μ') ∧ cY μ' j (sPull y a b).2 ∧ only μ μ' (Yd j) := by
  unfold f_X6_takeOut sPull
  rw [k_hasTrack h.1, q_bd]
  by_cases ht : isT y a = true
  · obtain ⟨t, ht1, rfl⟩ := isT_in hi.hnt hi.nt8 ht
    have hn8 := hi.nt8
    rw [if_pos ht, if_neg (by decide), if_pos ht]
    by_cases hb : b < 1 ∨ 30 < b
    · rw [if_pos hb]
      refine ⟨μ, ?_, h, only.rf⟩
      by_cases h1 : b < 1
      · rw [if_pos h1]
      · rw [if_neg h1, if_neg (Int32.not_le.mpr (hb.resolve_left h1))]
    · rw [if_neg hb, if_neg (fun q => hb (Or.inl q)), if_pos (Int32.not_lt.mp (fun q => hb (Or.inr q)))]
      obtain ⟨n, n1, n2, rfl⟩ := b30 hb
      rw [k_canTakeOut h hi.rOK (by omega) (by omega), q_bd, q_cl (by omega), q_cl (by omega)]
      by_cases hc : canP y t n = true
      · rw [if_pos hc, if_pos hc, if_neg (by decide)]
        have hle : n ≤ (y.2.1 t).length := by
          unfold canP at hc
          rw [Bool.and_eq_true, decide_eq_true_eq] at hc
          exact hc.1
        obtain ⟨μ', g1, g2, g3⟩ := k_drawOut h hi.g (t := t) (by omega) hle
        refine ⟨μ', ?_, g2, g3⟩
        rw [g1]
        rfl
      · rw [if_neg hc, if_neg hc, if_pos rfl]
        exact ⟨μ, rfl, h, only.rf⟩
  · rw [if_neg ht, if_neg ht, if_pos rfl]
    exact ⟨μ, rfl, h, only.rf⟩
theorem k_bringIn {j nt nw tm B : Nat} {a b : Int32} {y : yT} {μ : mT} (h : cY μ j y) (hi : iY y nt nw tm B) :
    ∃ μ', f_X6_bringIn j a b μ = some ((sPush y a b).1, μ') ∧ cY μ' j (sPush y a b).2 ∧ only μ μ' (Yd j) := by
  unfold f_X6_bringIn sPush
  rw [k_hasTrack h.1, q_bd]
  by_cases ht : isT y a = true
  · obtain ⟨t, ht1, rfl⟩ := isT_in hi.hnt hi.nt8 ht
    have hn8 := hi.nt8
    have ht8 : t < 8 := by omega
    rw [if_pos ht, if_neg (by decide), if_pos ht]
    by_cases hb : b < 1 ∨ 30 < b
    · rw [if_pos hb]
      refine ⟨μ, ?_, h, only.rf⟩
      by_cases h1 : b < 1
      · rw [if_pos h1]
      · rw [if_neg h1, if_neg (Int32.not_le.mpr (hb.resolve_left h1))]
    · rw [if_neg hb, if_neg (fun q => hb (Or.inl q)), if_pos (Int32.not_lt.mp (fun q => hb (Or.inr q)))]
      obtain ⟨n, n1, n2, rfl⟩ := b30 hb
      rw [k_canBringIn h hi.rOK (by omega) (by omega), q_bd, q_cl (by omega), q_cl (by omega)]
      by_cases hc : canQ y t n = true
      · rw [if_pos hc, if_pos hc, if_neg (by decide)]
        have hle : n ≤ (y.2.1 8).length := by
          unfold canQ at hc
          rw [Bool.and_eq_true, decide_eq_true_eq] at hc
          exact hc.1
        have h30 := (hi.rOK t (by omega)).1
        have h308 := (hi.rOK 8 (by omega)).1
        obtain ⟨μ1, a1, a2, a3⟩ := k_shiftB h.2.1 hi.rOK hi.tot ht8 hle
        have hY2 : cY μ1 j (y.1, rwB y.2.1 t n, y.2.2) := ⟨h.1.cong (fun κ _ _ _ => a3 κ j (by omega)), a2, h.2.2.1.cong (a3 _ j (by omega)) (a3 _ j (by omega)) (a3 _ j (by omega)), h.2.2.2.cong (a3 _ j (by omega)) (a3 _ j (by omega)) (a3 _ j (by omega)) (a3 _ j (by omega))⟩
        have hY3 := hY2.up (a0 := 3) (k0 := t) (κ := 7) (k' := t) (y.1 3 t + nI n) (sdt (by omega) ht8) (by decide) rfl rfl (by omega)
        have e73 : μ1 7 j t = y.1 3 t := hY2.1.t3 ht8
        obtain ⟨μ4, d1, d2, d3⟩ := k_makeMove (m := y.1 0 2) (jn := jB y t) hY3 hi.bl
        have e42 : (upM μ1 7 j t (y.1 3 t + nI n)) 4 j (2 : Int32).toNatClampNeg = y.1 0 2 := by
          show (upM μ1 7 j t (y.1 3 t + nI n)) 4 j 2 = y.1 0 2
          rw [q_up, if_neg (by omega)]
          exact hY2.1.set (by omega)
        have e8 : μ4 11 j 8 = nI ((y.2.1 8).length - n) := by
          rw [cRow.nl d2.2.1 (by omega)]
          show nI (rwB y.2.1 t n 8).length = _
          rw [rwB_8 ht8, List.length_take]
          congr 1
          omega
        have hj : jB y t = if nI (y.2.1 t).length ≤ 0 then 1 else 2 := by
          unfold jB
          by_cases q : (y.2.1 t).length = 0
          · rw [if_pos q, if_pos]
            rw [q]
            decide
          · rw [if_neg q, if_neg]
            rw [z_l0]
            exact nI_ge (by omega) (by omega)
        have hfin : lt (fun (v8 : Int32) (μ9 : mT) => bd (f_X5_shift j 8 (nI t) (nI n) μ9) (fun _ μ11 => gd (inb (nI t) 8) (gd (inb (nI t) 8) (lt (upM μ11 7 j t ((μ11 7 j t) + nI n)) (fun μ12 => bd (f_X6_makeMove j (μ12 4 j (2 : Int32).toNatClampNeg) v8 μ12) (fun _ μ14 => bd (f_X5_manyIn j 8 μ14) (fun v15 μ16 => some (v15, μ16)))))))) (fun J7 => J7 (jB y t) μ) = some (nI ((y.2.1 8).length - n), μ4) := by
          rw [q_lt]
          dsimp only
          rw [a1, q_bd, q_gdi ht8 (by omega), q_gdi ht8 (by omega), e73, q_lt, e42, d1, q_bd, z_l8, k_manyIn (by omega), q_bd, e8]
        refine ⟨μ4, ?_, d2, (a3.w (by unfold Yd; omega)).tr (only.tr ((q_uple rfl).w (by unfold Yd; omega)) d3)⟩
        rw [k_manyIn (by omega), q_bd, cRow.nl h.2.1 (by omega)]
        rw [q_lt] at hfin ⊢
        dsimp only at hfin ⊢
        split
        · rename_i q
          rw [if_pos q] at hj
          rw [hj] at hfin
          exact hfin
        · rename_i q
          rw [if_neg q] at hj
          rw [hj] at hfin
          exact hfin
      · rw [if_neg hc, if_neg hc, if_pos rfl]
        exact ⟨μ, rfl, h, only.rf⟩
  · rw [if_neg ht, if_neg ht, if_pos rfl]
    exact ⟨μ, rfl, h, only.rf⟩
theorem k_goRound {j nt nw tm B : Nat} {y : yT} {μ : mT} (h : cY μ j y) (hi : iY y nt nw tm B) :
    ∃ μ', f_X6_goRound j μ = some ((sRound y).1, μ') ∧ cY μ' j (sRound y).2 ∧ only μ μ' (Yd j) := by
  unfold f_X6_goRound sRound
  rw [k_canGoRound h hi.rOK, q_bd]
  by_cases hc : canR y = true
  · rw [if_pos hc, if_pos hc, if_neg (by decide)]
    have c8 : cRow μ j 8 (y.2.1 8) := by
      have := h.2.1 8 (by omega)
      unfold cw at this
      rwa [if_pos rfl] at this
    obtain ⟨μ1, a1, a2, a3, a4⟩ := k_turnEngine (j := j) (hi.rOK 8 (by omega)).1 c8
    have hY2 : cY μ1 j (y.1, rwR y.2.1, y.2.2) := by
      refine ⟨h.1.cong (fun κ _ _ _ => a4 κ j (by omega)), fun r hr => ?_, h.2.2.1.cong (a4 _ j (by omega)) (a4 _ j (by omega)) (a4 _ j (by omega)), h.2.2.2.cong (a4 _ j (by omega)) (a4 _ j (by omega)) (a4 _ j (by omega)) (a4 _ j (by omega))⟩
      show cRow μ1 j r (cw r (rwR y.2.1 r))
      unfold rwR
      by_cases e : r = 8
      · subst e
        unfold cw
        rw [if_pos rfl, if_pos rfl]
        exact a2
      · rw [if_neg e]
        exact a3 r _ (by omega) (rwl hi.rOK hr) (h.2.1 r hr)
    have e44 : μ1 4 j (4 : Int32).toNatClampNeg = y.1 0 4 := hY2.1.set (k := 4) (by omega)
    obtain ⟨μ4, d1, d2, d3⟩ := k_makeMove (m := y.1 0 4) (jn := 2) hY2 hi.bl
    refine ⟨μ4, ?_, d2, (a4.w (by unfold Yd; omega)).tr d3⟩
    rw [a1, q_bd, e44, d1, q_bd, d2.1.minute]
    rfl
  · rw [if_neg hc, if_neg hc, if_pos rfl]
    exact ⟨μ, rfl, h, only.rf⟩
theorem k_letPass {j nt nw tm B : Nat} {a : Int32} {y : yT} {μ : mT} (h : cY μ j y) (hi : iY y nt nw tm B) :
    ∃ μ', f_X6_letPass j a μ = some ((sPass y a).1, μ') ∧ cY μ' j (sPass y a).2 ∧ only μ μ' (Yd j) := by
  unfold f_X6_letPass sPass
  by_cases hb : a < 1 ∨ 999 < a
  · rw [if_pos hb]
    refine ⟨μ, ?_, h, only.rf⟩
    by_cases h1 : a < 1
    · rw [if_pos h1]
    · rw [if_neg h1, if_neg (Int32.not_le.mpr (hb.resolve_left h1))]
  · rw [if_neg hb, if_neg (fun q => hb (Or.inl q)), if_pos (Int32.not_lt.mp (fun q => hb (Or.inr q)))]
    obtain ⟨μ', g1, g2, g3⟩ := k_comeTo (t := y.1 0 6 + a) h hi.bl
    refine ⟨μ', ?_, g2, g3⟩
    rw [h.1.minute, g1, q_bd, g2.1.minute]
    rfl
def sSet (y : yT) (a b : Int32) : Int32 × yT :=
  if a < 0 ∨ 6 ≤ a then (-2, y) else if b < cst 40 a.toNatClampNeg ∨ cst 41 a.toNatClampNeg < b then (-2, y) else (y.1 0 a.toNatClampNeg, (sU y.1 0 a.toNatClampNeg b, y.2))
theorem k_changeSetting {j nt nw tm B : Nat} {a b : Int32} {y : yT} {μ : mT} (h : cY μ j y) (hi : iY y nt nw tm B) :
    ∃ μ', f_X6_changeSetting j a b μ = some ((sSet y a b).1, μ') ∧ cY μ' j (sSet y a b).2 ∧ only μ μ' (Yd j) := by
  unfold f_X6_changeSetting sSet
  by_cases ha : a < 0 ∨ 6 ≤ a
  · rw [if_pos ha]
    refine ⟨μ, ?_, h, only.rf⟩
    by_cases h1 : a < 0
    · rw [if_pos h1]
    · rw [if_neg h1, if_neg (Int32.not_lt.mpr (ha.resolve_left h1))]
  · rw [if_neg ha, if_neg (fun q => ha (Or.inl q)), if_pos (Int32.not_le.mp (fun q => ha (Or.inr q)))]
    obtain ⟨k, hk, rfl⟩ := nI_of (fun q => ha (Or.inl q))
    have hk6 : k < 6 := by
      rcases Nat.lt_or_ge k 6 with q | q
      · exact q
      · exact absurd (Or.inr (nI_le q hk)) ha
    rw [q_gdi hk6 (by omega), q_cl hk]
    by_cases hb : b < cst 40 k ∨ cst 41 k < b
    · rw [if_pos hb]
      refine ⟨μ, ?_, h, only.rf⟩
      by_cases h1 : b < cst 40 k
      · rw [if_pos h1]
      · rw [if_neg h1, q_gdi hk6 (by omega), if_neg (Int32.not_le.mpr (hb.resolve_left h1))]
    · rw [if_neg hb, if_neg (fun q => hb (Or.inl q)), q_gdi hk6 (by omega), if_pos (Int32.not_lt.mp (fun q => hb (Or.inr q))), q_gdi hk6 (by omega), q_lt, q_gdi hk6 (by omega), q_lt, h.1.set hk6]
      exact ⟨_, rfl, h.up b (sd0 (by omega)) (by decide) (by unfold cκ; rw [if_pos rfl, if_pos hk6]) (by unfold ck; rw [if_pos rfl, if_pos hk6]) (by omega), (q_uple rfl).w (by unfold Yd; omega)⟩
def sTrack (y : yT) (a : Int32) : Int32 × yT :=
  if a < 4 ∨ 60 < a then (-2, y) else if 8 ≤ y.1 0 7 then (-4, y) else (y.1 0 7, (sU (sU y.1 1 (y.1 0 7).toNatClampNeg a) 0 7 (y.1 0 7 + 1), y.2))
theorem k_addTrack {j nt nw tm B : Nat} {a : Int32} {y : yT} {μ : mT} (h : cY μ j y) (hi : iY y nt nw tm B) :
    ∃ μ', f_X6_addTrack j a μ = some ((sTrack y a).1, μ') ∧ cY μ' j (sTrack y a).2 ∧ only μ μ' (Yd j) := by
  unfold f_X6_addTrack sTrack
  by_cases ha : a < 4 ∨ 60 < a
  · rw [if_pos ha]
    refine ⟨μ, ?_, h, only.rf⟩
    by_cases h1 : a < 4
    · rw [if_pos h1]
    · rw [if_neg h1, if_neg (Int32.not_le.mpr (ha.resolve_left h1))]
  · rw [if_neg ha, if_neg (fun q => ha (Or.inl q)), if_pos (Int32.not_lt.mp (fun q => ha (Or.inr q))), h.1.tracks]
    by_cases h8 : 8 ≤ y.1 0 7
    · rw [if_pos h8, if_neg (Int32.not_lt.mpr h8)]
      exact ⟨μ, rfl, h, only.rf⟩
    · rw [if_neg h8, if_pos (Int32.not_le.mp h8), hi.hnt]
      have hn8 := hi.nt8
      have hlt : nt < 8 := by
        rcases Nat.lt_or_ge nt 8 with q | q
        · exact q
        · rw [hi.hnt, z_l8] at h8
          exact absurd (nI_le q (by omega)) h8
      rw [q_gdi hlt (by omega), q_cl (by omega), q_lt]
      have h1 := h.up (a0 := 1) (k0 := nt) (κ := 5) (k' := nt) a (sdt (by omega) hlt) (by decide) rfl rfl (by omega)
      have h2 := h1.up (a0 := 0) (k0 := 7) (κ := 0) (k' := 7) (nI nt + 1) (sd0 (by omega)) (by decide) rfl rfl (by omega)
      refine ⟨_, ?_, h2, only.tr ((q_uple rfl).w (by unfold Yd; omega)) ((q_uple rfl).w (by unfold Yd; omega))⟩
      have e1 : (upM μ 5 j nt a) 0 j 7 = nI nt := by rw [q_up, if_neg (by omega), h.1.tracks, hi.hnt]
      rw [e1, q_lt, h2.1.tracks]
      dsimp only
      rw [sU_s, Int32.add_sub_cancel]
def sWagon (y : yT) (a b : Int32) : Int32 × yT :=
  if isT y a = true then (if b < 1 ∨ 4 < b then (-2, y) else if 30 ≤ y.1 0 8 then (-4, y) else if y.1 1 a.toNatClampNeg < ssum (y.1 4) (y.2.1 a.toNatClampNeg) + b then (-5, y)
    else (y.1 0 8, (sU (sU (sU y.1 0 8 (y.1 0 8 + 1)) 4 (y.1 0 8).toNatClampNeg b) 5 (y.1 0 8).toNatClampNeg (-6), fun r => if r = a.toNatClampNeg then (y.1 0 8).toNatClampNeg :: y.2.1 r else y.2.1 r, y.2.2))) else (-1, y)
theorem k_addWagon {j nt nw tm B : Nat} {a b : Int32} {y : yT} {μ : mT} (h : cY μ j y) (hi : iY y nt nw tm B) :
    ∃ μ', f_X6_addWagon j a b μ = some ((sWagon y a b).1, μ') ∧ cY μ' j (sWagon y a b).2 ∧ only μ μ' (Yd j) := by
  unfold f_X6_addWagon sWagon
  rw [k_hasTrack h.1, q_bd]
  by_cases ht : isT y a = true
  · obtain ⟨t, ht1, rfl⟩ := isT_in hi.hnt hi.nt8 ht
    have hn8 := hi.nt8
    have ht8 : t < 8 := by omega
    rw [if_pos ht, if_neg (by decide), if_pos ht]
    by_cases hb : b < 1 ∨ 4 < b
    · rw [if_pos hb]
      refine ⟨μ, ?_, h, only.rf⟩
      by_cases h1 : b < 1
      · rw [if_pos h1]
      · rw [if_neg h1, if_neg (Int32.not_le.mpr (hb.resolve_left h1))]
    · rw [if_neg hb, if_neg (fun q => hb (Or.inl q)), if_pos (Int32.not_lt.mp (fun q => hb (Or.inr q))), h.1.wagons]
      by_cases h30 : 30 ≤ y.1 0 8
      · rw [if_pos h30, if_neg (Int32.not_lt.mpr h30)]
        exact ⟨μ, rfl, h, only.rf⟩
      · rw [if_neg h30, if_pos (Int32.not_le.mp h30), k_lenR h hi.rOK (by omega), q_bd, q_gdi ht8 (by omega), q_cl (by omega), h.1.t1 ht8]
        by_cases hf : y.1 1 t < ssum (y.1 4) (y.2.1 t) + b
        · rw [if_pos hf, if_neg (Int32.not_le.mpr hf)]
          exact ⟨μ, rfl, h, only.rf⟩
        · rw [if_neg hf, if_pos (Int32.not_lt.mp hf)]
          have hw30 := hi.nw30
          have hlt : nw < 30 := by
            rcases Nat.lt_or_ge nw 30 with q | q
            · exact q
            · rw [hi.hnw, z_l30] at h30
              exact absurd (nI_le q (by omega)) h30
          have hlt30 : (y.2.1 t).length < 30 := by
            have := hi.totn
            have := tot_one (rw := y.2.1) (r := t) (by omega)
            omega
          have e10 : μ 1 j 0 = nI nw := by rw [h.1.wagons, hi.hnw]
          obtain ⟨μ1, a1, a2, a3, a4, a5, a6, a7⟩ := k_wadd (j := j) (r := t) (x := b) (by omega) e10 hlt (l := cw t (y.2.1 t)) (by rw [cw_len]; exact hlt30) (h.2.1 t (by omega))
          refine ⟨μ1, ?_, ⟨fun a k hd hk => ?_, fun r hr => ?_, h.2.2.1.cong (a7 _ j (by omega)) (a7 _ j (by omega)) (a7 _ j (by omega)), h.2.2.2.cong (a7 _ j (by omega)) (a7 _ j (by omega)) (a7 _ j (by omega)) (a7 _ j (by omega))⟩, a7.w (by unfold Yd; omega)⟩
          · rw [a1, q_bd, hi.hnw]
          · rw [hi.hnw, q_cl (by omega)] at hk ⊢
            dsimp only at hk ⊢
            by_cases c1 : a = 5 ∧ k = nw
            · obtain ⟨rfl, rfl⟩ := c1
              have := hk rfl
              rw [sU_s] at this
              exact absurd this (by decide)
            · rw [sU_n c1]
              by_cases c2 : a = 4 ∧ k = nw
              · obtain ⟨rfl, rfl⟩ := c2
                rw [sU_s]
                show μ1 8 j k = b
                rw [a6 k, if_pos rfl]
              · rw [sU_n c2]
                by_cases c3 : a = 0 ∧ k = 8
                · obtain ⟨rfl, rfl⟩ := c3
                  rw [sU_s]
                  show μ1 1 j 0 = _
                  rw [a4]
                  exact nI_succ nw
                · rw [sU_n c3]
                  have hh := h.1 a k hd (fun e5 => by
                    have := hk e5
                    rw [sU_n (by omega), sU_n (by omega), sU_n (by omega)] at this
                    exact this)
                  by_cases c4 : a = 4
                  · subst c4
                    show μ1 8 j k = _
                    rw [a6 k, if_neg (fun e => c2 ⟨rfl, e⟩)]
                    exact hh
                  · by_cases c5 : a = 0 ∧ k = 10
                    · obtain ⟨rfl, rfl⟩ := c5
                      show μ1 1 j 1 = _
                      rw [a5]
                      exact hh
                    · rw [a7 _ j (by unfold cκ; unfold sdom at hd; grind)]
                      exact hh
          · rw [hi.hnw, q_cl (by omega)]
            dsimp only
            by_cases e : r = t
            · subst e
              rw [if_pos rfl]
              unfold cw at a2 ⊢
              rw [if_neg (by omega)] at a2 ⊢
              rw [List.reverse_cons]
              exact a2
            · rw [if_neg e]
              exact a3 r _ hr e (rwl hi.rOK hr) (h.2.1 r hr)
  · rw [if_neg ht, if_neg ht, if_pos rfl]
    exact ⟨μ, rfl, h, only.rf⟩
def sBlock (y : yT) (a b : Int32) : Int32 × yT :=
  if a < y.1 0 6 ∨ y.1 0 6 + 2000 < a ∨ b < 1 ∨ 500 < b then (-2, y) else if 10 ≤ y.2.2.1.length then (-4, y) else (nI (y.2.2.1.length + 1), (y.1, y.2.1, y.2.2.1 ++ [(a, a + b)], y.2.2.2))
theorem k_addBlock {j nt nw tm B : Nat} {a b : Int32} {y : yT} {μ : mT} (h : cY μ j y) (hi : iY y nt nw tm B) :
    ∃ μ', f_X6_addBlock j a b μ = some ((sBlock y a b).1, μ') ∧ cY μ' j (sBlock y a b).2 ∧ only μ μ' (Yd j) := by
  unfold f_X6_addBlock sBlock
  rw [h.1.minute]
  by_cases h1 : a < y.1 0 6
  · rw [if_pos h1, if_pos (Or.inl h1)]
    exact ⟨μ, rfl, h, only.rf⟩
  rw [if_neg h1]
  by_cases h2 : y.1 0 6 + 2000 < a
  · rw [if_pos h2, if_pos (Or.inr (Or.inl h2))]
    exact ⟨μ, rfl, h, only.rf⟩
  rw [if_neg h2]
  by_cases h3 : b < 1
  · rw [if_pos h3, if_pos (Or.inr (Or.inr (Or.inl h3)))]
    exact ⟨μ, rfl, h, only.rf⟩
  rw [if_neg h3]
  by_cases h4 : 500 < b
  · rw [if_neg (Int32.not_le.mpr h4), if_pos (Or.inr (Or.inr (Or.inr h4)))]
    exact ⟨μ, rfl, h, only.rf⟩
  rw [if_pos (Int32.not_lt.mp h4), if_neg (not_or.mpr ⟨h1, not_or.mpr ⟨h2, not_or.mpr ⟨h3, h4⟩⟩⟩)]
  have hl := hi.bl
  by_cases h5 : 10 ≤ y.2.2.1.length
  · rw [if_pos h5, h.2.2.1.1, z_l10, if_neg (Int32.not_lt.mpr (nI_le (a := 10) h5 (by omega)))]
    exact ⟨μ, rfl, h, only.rf⟩
  · rw [if_neg h5, h.2.2.1.1, z_l10, if_pos (nI_lt (b := 10) (by omega) (by omega))]
    obtain ⟨μ', g1, g2, g3⟩ := k_badd (x := a) (y := a + b) h.2.2.1 (by omega)
    refine ⟨μ', ?_, ⟨h.1.cong (fun κ _ _ _ => g3 κ j (by omega)), h.2.1.cong (g3 _ j (by omega)) (g3 _ j (by omega)), g2, h.2.2.2.cong (g3 _ j (by omega)) (g3 _ j (by omega)) (g3 _ j (by omega)) (g3 _ j (by omega))⟩, g3.w (by unfold Yd; omega)⟩
    rw [g1]
    rfl
def lcp : List Nat → List Nat → Nat
  | a :: x, b :: z => if a = b then lcp x z + 1 else 0
  | _, _ => 0
theorem lcp_le : ∀ {a b : List Nat}, lcp a b ≤ a.length ∧ lcp a b ≤ b.length
  | [], b => by simp [lcp]
  | a :: x, [] => by simp [lcp]
  | a :: x, b :: z => by
    unfold lcp
    have := lcp_le (a := x) (b := z)
    split
    · simp only [List.length_cons]; omega
    · simp
theorem lcp_eq : ∀ {a b : List Nat}, a.length = b.length → (lcp a b = b.length ↔ a = b)
  | [], [], _ => by simp [lcp]
  | a :: x, b :: z, h => by
    have hh : x.length = z.length := by simpa using h
    have := lcp_eq hh
    unfold lcp
    split
    · rename_i e
      subst e
      simp only [List.length_cons, Nat.add_right_cancel_iff, this, List.cons.injEq, true_and]
    · rename_i e
      simp [e]
def tIx (n : Nat) (a : Int32) : Option Nat := if a < 0 then none else if a.toNatClampNeg < n then some a.toNatClampNeg else none
theorem tIx_some {n t : Nat} {a : Int32} (h : tIx n a = some t) : a = nI t ∧ t < n := by
  unfold tIx at h
  split at h
  · cases h
  · rename_i h0
    split at h
    · cases h
      obtain ⟨k, hk, rfl⟩ := nI_of h0
      rw [q_cl hk] at *
      exact ⟨rfl, by assumption⟩
    · cases h
theorem tIx_none {n : Nat} {a : Int32} (h : tIx n a = none) : ∀ t, t < n → t < 2147483648 → ¬ a = nI t := by
  intro t ht hb e
  subst e
  unfold tIx at h
  rw [if_neg (nI_pos hb), q_cl hb, if_pos ht] at h
  cases h
theorem k_has {j : Nat} {a : Int32} {tn : List (Int32 × List Nat)} {μ : mT} (c : cT μ j tn) (hl : tn.length ≤ 8) : f_X3_has j a μ = some (if (tIx tn.length a).isSome = true then 1 else 0, μ) := by
  cases e : tIx tn.length a with
  | none => rw [k_has_out c hl (fun t ht => tIx_none e t ht (by omega))]; rfl
  | some t =>
    obtain ⟨rfl, ht⟩ := tIx_some e
    rw [k_has_in c hl ht]; rfl
theorem min_nI {a b : Nat} (ha : a < 2147483648) (hb : b < 2147483648) : (if nI a < nI b then nI a else nI b) = nI (min a b) := by
  by_cases h : a < b
  · rw [if_pos (nI_lt h hb), Nat.min_eq_left (by omega)]
  · rw [if_neg (nI_nlt (by omega) ha), Nat.min_eq_right (by omega)]
theorem atN_at {d : List Nat} {p w : Nat} (h : d[p]? = some w) : atN d p = nI w := by
  unfold atN
  rw [h]
theorem k_alike {j t : Nat} {e : Int32 × List Nat} {y : yT} {μ : mT} (h : cY μ j y) (hg : gY y) (ht : y.2.2.2[t]? = some e) : ∀ (d n i : Nat), i + d = min e.2.length (y.2.1 8).length → d < n →
    f_X6_manyAlike_L23 j (nI t) (nI (min e.2.length (y.2.1 8).length)) n (nI i) μ = some (nI (i + lcp ((y.2.1 8).drop i) (e.2.drop i)), μ) := by
  obtain ⟨ho, hD, hT, hl, hk⟩ := hg
  have h30 := (ho 8 (by omega)).1
  obtain ⟨o1, o2, o3, o4⟩ := hk.2 t e ht
  intro d
  induction d with
  | zero =>
    intro n i hi hn
    obtain ⟨n, rfl⟩ : ∃ n', n = n' + 1 := ⟨n - 1, by omega⟩
    rw [f_X6_manyAlike_L23, if_pos (nI_le (by omega) (by omega))]
    have : lcp ((y.2.1 8).drop i) (e.2.drop i) = 0 := by
      have := lcp_le (a := (y.2.1 8).drop i) (b := e.2.drop i)
      simp only [List.length_drop] at this
      omega
    rw [this]
    congr 3
    omega
  | succ d ih =>
    intro n i hi hn
    obtain ⟨n, rfl⟩ : ∃ n', n = n' + 1 := ⟨n - 1, by omega⟩
    obtain ⟨v, hv⟩ : ∃ v, (y.2.1 8)[i]? = some v := ⟨_, List.getElem?_eq_getElem (by omega)⟩
    obtain ⟨w, hw⟩ : ∃ w, e.2[i]? = some w := ⟨_, List.getElem?_eq_getElem (by omega)⟩
    have hv30 := (ho 8 (by omega)).2.1 v (List.mem_of_getElem? hv)
    have hw30 := o4 w (List.mem_of_getElem? hw)
    rw [f_X6_manyAlike_L23, if_neg (nI_ge (by omega) (by omega)), z_l8, k_wagonAt (by omega) (h.2.1 8 (by omega)) h30 (by omega), q_bd, k_wagonOf h.2.2.2 hk.1 ht o2 (by omega), q_bd, atN_at hv, atN_at hw, drop_cons_of hv, drop_cons_of hw]
    unfold lcp
    by_cases q : v = w
    · rw [if_pos (by rw [q]), if_pos q, q_lt, z_l1, q_add, ih n (i + 1) (by omega) (by omega)]
      congr 3
      omega
    · rw [if_neg (by rw [nI_eq (by omega) (by omega)]; exact q), if_neg q]
      rfl
theorem k_manyAlike {j t : Nat} {e : Int32 × List Nat} {y : yT} {μ : mT} (h : cY μ j y) (hg : gY y) (ht : y.2.2.2[t]? = some e) : f_X6_manyAlike j (nI t) μ = some (nI (lcp (y.2.1 8) e.2), μ) := by
  have h30 := (hg.1 8 (by omega)).1
  obtain ⟨o1, o2, o3, o4⟩ := hg.2.2.2.2.2 t e ht
  unfold f_X6_manyAlike
  rw [z_l8, k_manyIn (by omega), q_bd, k_sizeOf h.2.2.2 hg.2.2.2.2.1 ht, q_bd, q_lt, cRow.nl h.2.1 (by omega), min_nI (by omega) (by omega)]
  have := k_alike h hg ht (min e.2.length (y.2.1 8).length) fu 0 (by omega) (by unfold fu; omega)
  rw [z_l0, this]
  simp
theorem k_couldLeave {j t : Nat} {e : Int32 × List Nat} {y : yT} {μ : mT} (h : cY μ j y) (hg : gY y) (ht : y.2.2.2[t]? = some e) : f_X6_couldLeave j (nI t) μ = some (if y.2.1 8 = e.2 then 1 else 0, μ) := by
  have h30 := (hg.1 8 (by omega)).1
  obtain ⟨o1, o2, o3, o4⟩ := hg.2.2.2.2.2 t e ht
  unfold f_X6_couldLeave
  rw [k_sizeOf h.2.2.2 hg.2.2.2.2.1 ht, q_bd, z_l8, k_manyIn (by omega), q_bd, cRow.nl h.2.1 (by omega)]
  by_cases q : (y.2.1 8).length = e.2.length
  · rw [if_pos (by rw [q]), k_manyAlike h hg ht, q_bd]
    have hle := lcp_le (a := y.2.1 8) (b := e.2)
    by_cases r : y.2.1 8 = e.2
    · rw [if_pos, if_pos r]
      rw [(lcp_eq q).mpr r]
    · rw [if_neg, if_neg r]
      rw [nI_eq (by omega) (by omega)]
      exact fun z => r ((lcp_eq q).mp z)
  · rw [if_neg (by rw [nI_eq (by omega) (by omega)]; exact q), if_neg (fun z => q (by rw [z]))]
def lateN (m d : Int32) : Int32 := if 0 < m - d then m - d else 0
def sGone (s : sT) (l : List Nat) : sT := fun a k => if a = 5 ∧ k ∈ l then s 0 6 else s a k
def sLv (y : yT) (t : Nat) (due : Int32) : yT :=
  (sU (sU (sU (sGone y.1 (y.2.1 8)) 0 17 (y.1 0 17 + lateN (y.1 0 6) due * y.1 0 5)) 0 10 (y.1 0 10 + nI (y.2.1 8).length)) 0 12 (y.1 0 12 + 1), fun r => if r = 8 then [] else y.2.1 r, y.2.2.1, y.2.2.2.eraseIdx t)
def sLeave (y : yT) (a : Int32) : Int32 × yT := match tIx y.2.2.2.length a with
  | none => (-1, y)
  | some t => match y.2.2.2[t]? with
    | none => (-1, y)
    | some e => if y.2.1 8 = e.2 then (lateN (y.1 0 6) e.1, sLv y t e.1) else (-5, y)
theorem k_letLeave {j nt nw tm B : Nat} {a : Int32} {y : yT} {μ : mT} (h : cY μ j y) (hi : iY y nt nw tm B) :
    ∃ μ', f_X6_letLeave j a μ = some ((sLeave y a).1, μ') ∧ cY μ' j (sLeave y a).2 ∧ only μ μ' (Yd j) := by
  unfold f_X6_letLeave sLeave
  have h8 := hi.tok.1
  rw [k_has h.2.2.2 h8, q_bd]
  cases et : tIx y.2.2.2.length a with
  | none => exact ⟨μ, rfl, h, only.rf⟩
  | some t =>
    obtain ⟨rfl, htl⟩ := tIx_some et
    obtain ⟨e, he⟩ : ∃ e, y.2.2.2[t]? = some e := ⟨_, List.getElem?_eq_getElem htl⟩
    dsimp only
    rw [show (if (some t).isSome = true then (1 : Int32) else 0) = 1 from rfl, if_neg (by decide), he, k_couldLeave h hi.g he, q_bd]
    dsimp only
    by_cases q : y.2.1 8 = e.2
    case neg =>
      rw [if_neg q, if_neg q, if_pos rfl]
      exact ⟨μ, rfl, h, only.rf⟩
    rw [if_pos q, if_pos q, if_neg (by decide), q_gdi (by omega) (by omega), q_cl (by omega), h.1.minute, (h.2.2.2.2 t e he).1]
    have e45 : μ 4 j (5 : Int32).toNatClampNeg = y.1 0 5 := h.1.set (k := 5) (by omega)
    have el : (if 0 < y.1 0 6 - e.1 then y.1 0 6 - e.1 else 0) = lateN (y.1 0 6) e.1 := rfl
    rw [el, q_lt, e45, h.1.fines, q_lt]
    have h1 := h.up (a0 := 0) (k0 := 17) (κ := 0) (k' := 4) (y.1 0 17 + lateN (y.1 0 6) e.1 * y.1 0 5) (sd0 (by omega)) (by decide) rfl rfl (by omega)
    have h0 : only μ (upM μ 0 j 4 (y.1 0 17 + lateN (y.1 0 6) e.1 * y.1 0 5)) (Yd j) := (q_uple rfl).w (by unfold Yd; omega)
    generalize upM μ 0 j 4 (y.1 0 17 + lateN (y.1 0 6) e.1 * y.1 0 5) = μ6 at h1 h0 ⊢
    have h8l := hi.rOK 8 (by omega)
    have c8 : cRow μ6 j 8 (y.2.1 8) := by
      have := h1.2.1 8 (by omega)
      unfold cw at this
      rwa [if_pos rfl] at this
    obtain ⟨μ8, a1, a2, a3, a4, a5, a6, a7⟩ := k_engineLeaves (j := j) (a := y.1 0 6) h8l.1 h8l.2.1 c8
    have e6 : μ6 0 j 0 = y.1 0 6 := h1.1.minute
    have hs : sGone (sU y.1 0 17 (y.1 0 17 + lateN (y.1 0 6) e.1 * y.1 0 5)) (y.2.1 8) = sU (sGone y.1 (y.2.1 8)) 0 17 (y.1 0 17 + lateN (y.1 0 6) e.1 * y.1 0 5) := by
      funext a k
      unfold sGone sU
      by_cases z : a = 5
      · subst z
        simp
      · simp [z]
    have h2 : cY μ8 j (sU (sU (sGone y.1 (y.2.1 8)) 0 17 (y.1 0 17 + lateN (y.1 0 6) e.1 * y.1 0 5)) 0 10 (y.1 0 10 + nI (y.2.1 8).length), fun r => if r = 8 then [] else y.2.1 r, y.2.2) := by
      rw [← hs]
      refine ⟨fun a k hd hk => ?_, fun r hr => ?_, h1.2.2.1.cong (a7 _ j (by omega)) (a7 _ j (by omega)) (a7 _ j (by omega)), h1.2.2.2.cong (a7 _ j (by omega)) (a7 _ j (by omega)) (a7 _ j (by omega)) (a7 _ j (by omega))⟩
      · dsimp only at hk ⊢
        by_cases c3 : a = 0 ∧ k = 10
        · obtain ⟨rfl, rfl⟩ := c3
          rw [sU_s]
          show μ8 1 j 1 = _
          rw [a6, h1.1.gone]
          rfl
        · rw [sU_n c3]
          by_cases c5 : a = 5
          · subst c5
            have hk30 : k < 30 := by unfold sdom at hd; omega
            have hk5 := hk rfl
            rw [sU_n (by omega)] at hk5
            show μ8 9 j k = _
            rw [a2 k]
            unfold sGone at hk5 ⊢
            by_cases hm : k ∈ y.2.1 8
            · rw [if_pos hm, if_pos ⟨rfl, hm⟩]
              rfl
            · rw [if_neg hm, if_neg (fun z => hm z.2)]
              rw [if_neg (fun z => hm z.2)] at hk5
              exact h1.1.w5 hk30 hk5
          · unfold sGone
            rw [if_neg (fun z => c5 z.1)]
            have hh := h1.1 a k hd (fun z => absurd z c5)
            by_cases c8' : a = 0 ∧ k = 8
            · obtain ⟨rfl, rfl⟩ := c8'
              show μ8 1 j 0 = _
              rw [a5]
              exact hh
            · rw [a7 _ j (by unfold cκ; unfold sdom at hd; grind)]
              exact hh
      · show cRow μ8 j r (cw r (if r = 8 then [] else y.2.1 r))
        by_cases e8 : r = 8
        · subst e8
          exact a3
        · rw [if_neg e8]
          exact a4 r _ (by omega) (h1.2.1 r hr)
    obtain ⟨μ9, b1, b2, b3⟩ := k_remove hi.tok h2.2.2.2 htl
    have h3 : cY μ9 j (sU (sU (sGone y.1 (y.2.1 8)) 0 17 (y.1 0 17 + lateN (y.1 0 6) e.1 * y.1 0 5)) 0 10 (y.1 0 10 + nI (y.2.1 8).length), fun r => if r = 8 then [] else y.2.1 r, y.2.2.1, y.2.2.2.eraseIdx t) :=
      ⟨h2.1.cong (fun κ _ _ _ => b3 κ j (by omega)), h2.2.1.cong (b3 _ j (by omega)) (b3 _ j (by omega)), h2.2.2.1.cong (b3 _ j (by omega)) (b3 _ j (by omega)) (b3 _ j (by omega)), b2⟩
    have h4 := h3.up (a0 := 0) (k0 := 12) (κ := 0) (k' := 5) (y.1 0 12 + 1) (sd0 (by omega)) (by decide) rfl rfl (by omega)
    refine ⟨_, ?_, h4, only.tr ?_ (only.tr (a7.w (by unfold Yd; omega)) (only.tr (b3.w (by unfold Yd; omega)) ((q_uple rfl).w (by unfold Yd; omega))))⟩
    · rw [e6, a1, q_bd, b1, q_bd, h3.1.left, q_lt]
      rfl
    · exact h0
def okAt (rw : Nat → List Nat) (ws : List Nat) (i : Nat) : Prop := (∃ w, ws[i]? = some w ∧ ¬ rOf rw w = -6) ∧ ∀ i', i' < i → ¬ ws[i']? = ws[i]?
def areT (rw : Nat → List Nat) (ws : List Nat) : Prop := ws ≠ [] ∧ ∀ i, i < ws.length → okAt rw ws i
theorem k_at1 {j i w : Nat} {ws : List Nat} {μ : mT} {a2 : Int32} (hl : ws.length ≤ 8) (hw : ∀ w ∈ ws, w < 30) (h26 : ∀ k w, ws[k]? = some w → μ 26 0 k = nI w) (hi : ws[i]? = some w) {K : mT → Option (Int32 × mT)} : ∀ (d n v : Nat), v + d = i → d < n →
    (f_X6_areThere_L27 j a2 (nI i) K n (nI v) μ = K μ ∧ ∀ v', v ≤ v' → v' < i → ¬ ws[v']? = ws[i]?) ∨ (f_X6_areThere_L27 j a2 (nI i) K n (nI v) μ = some (0, μ) ∧ ∃ v', v ≤ v' ∧ v' < i ∧ ws[v']? = ws[i]?) := by
  have hil := (List.getElem?_eq_some_iff.mp hi).1
  intro d
  induction d with
  | zero =>
    intro n v hv hn
    obtain ⟨n, rfl⟩ : ∃ n', n = n' + 1 := ⟨n - 1, by omega⟩
    left
    rw [f_X6_areThere_L27, if_pos (nI_le (by omega) (by omega))]
    exact ⟨rfl, fun v' h1 h2 => by omega⟩
  | succ d ih =>
    intro n v hv hn
    obtain ⟨n, rfl⟩ : ∃ n', n = n' + 1 := ⟨n - 1, by omega⟩
    obtain ⟨u, hu⟩ : ∃ u, ws[v]? = some u := ⟨_, List.getElem?_eq_getElem (by omega)⟩
    have hu30 := hw u (List.mem_of_getElem? hu)
    have hw30 := hw w (List.mem_of_getElem? hi)
    rw [f_X6_areThere_L27, if_neg (nI_ge (by omega) (by omega)), q_gdi (by omega) (by omega), q_gdi (by omega) (by omega), q_cl (by omega), q_cl (by omega), h26 i w hi, h26 v u hu]
    by_cases q : w = u
    · right
      rw [if_pos (by rw [q])]
      exact ⟨rfl, v, Nat.le_refl _, by omega, by rw [hu, hi, q]⟩
    · rw [if_neg (by rw [nI_eq (by omega) (by omega)]; exact q), q_lt, z_l1, q_add]
      rcases ih n (v + 1) (by omega) (by omega) with ⟨g1, g2⟩ | ⟨g1, v', g2, g3, g4⟩
      · left
        refine ⟨g1, fun v' h1 h2 => ?_⟩
        by_cases e : v' = v
        · subst e
          rw [hu, hi]
          exact fun z => q (Option.some.inj z).symm
        · exact g2 v' (by omega) h2
      · right
        exact ⟨g1, v', by omega, g3, g4⟩
theorem k_at2 {j : Nat} {ws : List Nat} {rw : Nat → List Nat} {μ : mT} (c : cRows μ j rw) (ho : rOK rw) (hl : ws.length ≤ 8) (hw : ∀ w ∈ ws, w < 30) (h26 : ∀ k w, ws[k]? = some w → μ 26 0 k = nI w) {K : mT → Option (Int32 × mT)} : ∀ (d n i : Nat), i + d = ws.length → d < n →
    (f_X6_areThere_L2 j (nI ws.length) K n (nI i) μ = K μ ∧ ∀ i', i ≤ i' → i' < ws.length → okAt rw ws i') ∨ (f_X6_areThere_L2 j (nI ws.length) K n (nI i) μ = some (0, μ) ∧ ∃ i', i ≤ i' ∧ i' < ws.length ∧ ¬ okAt rw ws i') := by
  intro d
  induction d with
  | zero =>
    intro n i hi hn
    obtain ⟨n, rfl⟩ : ∃ n', n = n' + 1 := ⟨n - 1, by omega⟩
    left
    rw [f_X6_areThere_L2, if_pos (nI_le (by omega) (by omega))]
    exact ⟨rfl, fun v' h1 h2 => by omega⟩
  | succ d ih =>
    intro n i hi hn
    obtain ⟨n, rfl⟩ : ∃ n', n = n' + 1 := ⟨n - 1, by omega⟩
    obtain ⟨w, hwi⟩ : ∃ w, ws[i]? = some w := ⟨_, List.getElem?_eq_getElem (by omega)⟩
    have hw30 := hw w (List.mem_of_getElem? hwi)
    rw [f_X6_areThere_L2, if_neg (nI_ge (by omega) (by omega)), q_gdi (by omega) (by omega), q_cl (by omega), h26 i w hwi, k_rowOf c ho (by omega), q_bd]
    by_cases q : rOf rw w = -6
    · right
      rw [if_pos q]
      refine ⟨rfl, i, Nat.le_refl _, by omega, fun z => ?_⟩
      obtain ⟨⟨w', h1, h2⟩, -⟩ := z
      rw [hwi] at h1
      cases h1
      exact h2 q
    · rw [if_neg q, q_lt]
      rcases k_at1 (j := j) (a2 := nI ws.length) hl hw h26 hwi (K := fun μ10 => lt (nI i + 1 : Int32) (fun v11 => f_X6_areThere_L2 j (nI ws.length) K n v11 μ10)) i fu 0 (Nat.zero_add _) (by unfold fu; omega) with ⟨g1, g2⟩ | ⟨g1, v', g2, g3, g4⟩
      · rw [z_l0, g1, q_lt, z_l1, q_add]
        have oki : okAt rw ws i := ⟨⟨w, hwi, q⟩, fun i' h => g2 i' (Nat.zero_le _) h⟩
        rcases ih n (i + 1) (by omega) (by omega) with ⟨b1, b2⟩ | ⟨b1, i', b2, b3, b4⟩
        · left
          refine ⟨b1, fun i' h1 h2 => ?_⟩
          by_cases e : i' = i
          · subst e; exact oki
          · exact b2 i' (by omega) h2
        · right
          exact ⟨b1, i', by omega, b3, b4⟩
      · right
        rw [z_l0, g1]
        exact ⟨rfl, i, Nat.le_refl _, by omega, fun z => z.2 v' g3 g4⟩
theorem k_areThere {j : Nat} {ws : List Nat} {rw : Nat → List Nat} {μ : mT} (c : cRows μ j rw) (ho : rOK rw) (hl : ws.length ≤ 8) (hw : ∀ w ∈ ws, w < 30) (h26 : ∀ k w, ws[k]? = some w → μ 26 0 k = nI w) :
    (f_X6_areThere j (nI ws.length) μ = some (1, μ) ∧ areT rw ws) ∨ (f_X6_areThere j (nI ws.length) μ = some (0, μ) ∧ ¬ areT rw ws) := by
  unfold f_X6_areThere areT
  rw [q_lt]
  rcases k_at2 c ho hl hw h26 (K := fun μ4 => if nI ws.length ≤ 0 then some (0, μ4) else some (1, μ4)) ws.length fu 0 (Nat.zero_add _) (by unfold fu; omega) with ⟨g1, g2⟩ | ⟨g1, i', g2, g3, g4⟩
  · rw [z_l0] at g1 ⊢
    rw [g1]
    by_cases e : ws = []
    · subst e
      right
      exact ⟨by rw [if_pos (show nI ([] : List Nat).length ≤ nI 0 from by decide)], fun z => z.1 rfl⟩
    · left
      have : ws.length ≠ 0 := fun z => e (List.length_eq_zero_iff.mp z)
      exact ⟨by rw [if_neg (nI_ge (by omega) (by omega))], e, fun i hi => g2 i (Nat.zero_le _) hi⟩
  · right
    rw [z_l0] at g1
    rw [z_l0]
    exact ⟨g1, fun z => g4 (z.2 i' g3)⟩
theorem k_atr {j : Nat} {ws : List Nat} {a3 : Int32} {tn : List (Int32 × List Nat)} {μ : mT} (c : cT μ j tn) (ho : tOK tn) (hl : ws.length ≤ 8) (hw : ∀ w ∈ ws, w < 30) (h26 : ∀ k w, ws[k]? = some w → μ 26 0 k = nI w) {K : mT → Option (Int32 × mT)} : ∀ (d n i : Nat), i + d = ws.length → d < n →
    (f_X6_addTrain_L50 j (nI ws.length) a3 K n (nI i) μ = K μ ∧ ∀ w ∈ ws.drop i, tOf tn w = -6) ∨ (f_X6_addTrain_L50 j (nI ws.length) a3 K n (nI i) μ = some (-5, μ) ∧ ∃ w ∈ ws.drop i, ¬ tOf tn w = -6) := by
  intro d
  induction d with
  | zero =>
    intro n i hi hn
    obtain ⟨n, rfl⟩ : ∃ n', n = n' + 1 := ⟨n - 1, by omega⟩
    left
    rw [f_X6_addTrain_L50, if_pos (nI_le (by omega) (by omega)), List.drop_eq_nil_of_le (by omega)]
    exact ⟨rfl, fun w h => by simp at h⟩
  | succ d ih =>
    intro n i hi hn
    obtain ⟨n, rfl⟩ : ∃ n', n = n' + 1 := ⟨n - 1, by omega⟩
    obtain ⟨w, hwi⟩ : ∃ w, ws[i]? = some w := ⟨_, List.getElem?_eq_getElem (by omega)⟩
    have hw30 := hw w (List.mem_of_getElem? hwi)
    rw [f_X6_addTrain_L50, if_neg (nI_ge (by omega) (by omega)), q_gdi (by omega) (by omega), q_cl (by omega), h26 i w hwi, k_trainOf c ho (by omega), q_bd, drop_cons_of hwi]
    by_cases q : tOf tn w = -6
    · rw [if_pos q, q_lt, z_l1, q_add]
      rcases ih n (i + 1) (by omega) (by omega) with ⟨b1, b2⟩ | ⟨b1, w', b2, b3⟩
      · left
        refine ⟨b1, fun w' h => ?_⟩
        rcases List.mem_cons.mp h with rfl | h
        · exact q
        · exact b2 w' h
      · right
        exact ⟨b1, w', List.mem_cons_of_mem _ b2, b3⟩
    · right
      rw [if_neg q]
      exact ⟨rfl, w, List.mem_cons_self, q⟩
noncomputable def cIf {α : Type} (p : Prop) (a b : α) : α := @ite α p (Classical.propDecidable p) a b
theorem cIf_t {α : Type} {p : Prop} {a b : α} (h : p) : cIf p a b = a := if_pos h
theorem cIf_f {α : Type} {p : Prop} {a b : α} (h : ¬ p) : cIf p a b = b := if_neg h
noncomputable def sTrain (y : yT) (ws : List Nat) (due : Int32) : Int32 × yT :=
  cIf (areT y.2.1 ws) (if due < y.1 0 6 ∨ y.1 0 6 + 5000 < due then (-2, y) else if 8 ≤ y.2.2.2.length then (-4, y) else cIf (∀ w ∈ ws, tOf y.2.2.2 w = -6) (nI y.2.2.2.length, (y.1, y.2.1, y.2.2.1, y.2.2.2 ++ [(due, ws)])) (-5, y)) (-2, y)
theorem k_addTrain {j nt nw tm B : Nat} {due : Int32} {ws : List Nat} {y : yT} {μ : mT} (h : cY μ j y) (hi : iY y nt nw tm B) (hl : ws.length ≤ 8) (hw : ∀ w ∈ ws, w < 30) (h26 : ∀ k w, ws[k]? = some w → μ 26 0 k = nI w) :
    ∃ μ', f_X6_addTrain j (nI ws.length) due μ = some ((sTrain y ws due).1, μ') ∧ cY μ' j (sTrain y ws due).2 ∧ only μ μ' (Yd j) := by
  have h8 := hi.tok.1
  unfold f_X6_addTrain sTrain
  rcases k_areThere h.2.1 hi.rOK hl hw h26 with ⟨g1, g2⟩ | ⟨g1, g2⟩
  case inr =>
    rw [g1, q_bd, if_pos rfl, cIf_f g2]
    exact ⟨μ, rfl, h, only.rf⟩
  rw [g1, q_bd, if_neg (by decide), cIf_t g2, h.1.minute]
  by_cases hb : due < y.1 0 6 ∨ y.1 0 6 + 5000 < due
  · rw [if_pos hb]
    refine ⟨μ, ?_, h, only.rf⟩
    by_cases h1 : due < y.1 0 6
    · rw [if_pos h1]
    · rw [if_neg h1, if_neg (Int32.not_le.mpr (hb.resolve_left h1))]
  rw [if_neg hb, if_neg (fun q => hb (Or.inl q)), if_pos (Int32.not_lt.mp (fun q => hb (Or.inr q))), h.2.2.2.1]
  by_cases hk : 8 ≤ y.2.2.2.length
  · rw [if_pos hk, z_l8, if_neg (nI_nlt hk (by omega))]
    exact ⟨μ, rfl, h, only.rf⟩
  rw [if_neg hk, z_l8, if_pos (nI_lt (by omega) (by omega)), q_lt, z_l0]
  rcases k_atr (j := j) (a3 := due) h.2.2.2 hi.tok hl hw h26 (K := fun μ6 => bd (f_X3_add j (nI ws.length) due μ6) (fun v7 μ8 => some (v7, μ8))) ws.length fu 0 (Nat.zero_add _) (by unfold fu; omega) with ⟨b1, b2⟩ | ⟨b1, w', b2, b3⟩
  · rw [b1, cIf_t (fun w hw' => b2 w (by simpa using hw'))]
    obtain ⟨μ', a1, a2, a3⟩ := k_tadd (x := due) h.2.2.2 (by omega) hi.tok hl h26
    refine ⟨μ', ?_, ⟨h.1.cong (fun κ _ _ _ => a3 κ j (by omega)), h.2.1.cong (a3 _ j (by omega)) (a3 _ j (by omega)), h.2.2.1.cong (a3 _ j (by omega)) (a3 _ j (by omega)) (a3 _ j (by omega)), a2⟩, a3.w (by unfold Yd; omega)⟩
    rw [a1]
    rfl
  · rw [b1, cIf_f (fun z => b3 (z w' (by simpa using b2)))]
    exact ⟨μ, rfl, h, only.rf⟩
