abbrev sT := Nat → Nat → Int32
abbrev yT := sT × (Nat → List Nat) × List (Int32 × Int32) × List (Int32 × List Nat)
def sU (s : sT) (a k : Nat) (x : Int32) : sT := fun a' k' => if a' = a ∧ k' = k then x else s a' k'
theorem sU_s {s : sT} {a k : Nat} {x : Int32} : sU s a k x a k = x := if_pos ⟨rfl, rfl⟩
theorem sU_n {s : sT} {a k a' k' : Nat} {x : Int32} (h : ¬ (a' = a ∧ k' = k)) : sU s a k x a' k' = s a' k' := if_neg h
def sdom (a k : Nat) : Prop := (a = 0 ∧ (k ≤ 8 ∨ k = 10 ∨ k = 12 ∨ (14 ≤ k ∧ k ≤ 17))) ∨ (1 ≤ a ∧ a ≤ 3 ∧ k < 8) ∨ (4 ≤ a ∧ a ≤ 6 ∧ k < 30)
def cκ (a k : Nat) : Nat := if a = 0 then (if k < 6 then 4 else if k = 8 ∨ k = 10 then 1 else 0) else a + 4
def ck (a k : Nat) : Nat := if a = 0 then (if k < 6 then k else if k = 6 then 0 else if k = 14 then 1 else if k = 15 then 2 else if k = 16 then 3 else if k = 17 then 4 else if k = 12 then 5 else if k = 7 then 7 else if k = 8 then 0 else 1) else k
theorem c_inj {a k a' k' : Nat} (h : sdom a k) (h' : sdom a' k') (e : cκ a k = cκ a' k') (e' : ck a k = ck a' k') : a = a' ∧ k = k' := by
  unfold sdom at h h'
  unfold cκ at e
  unfold ck at e'
  grind (splits := 60)
def cS (μ : mT) (j : Nat) (s : sT) : Prop := ∀ a k, sdom a k → (a = 5 → 0 ≤ s 5 k) → μ (cκ a k) j (ck a k) = s a k
theorem cS.up {μ : mT} {j : Nat} {s : sT} (h : cS μ j s) {a0 k0 : Nat} (hd : sdom a0 k0) (h5 : a0 ≠ 5) (x : Int32) : cS (upM μ (cκ a0 k0) j (ck a0 k0) x) j (sU s a0 k0 x) := by
  intro a k hd' hk
  by_cases e : a = a0 ∧ k = k0
  · obtain ⟨rfl, rfl⟩ := e
    rw [sU_s, q_up, if_pos ⟨rfl, rfl, rfl⟩]
  · rw [sU_n e, q_up, if_neg]
    · refine h a k hd' (fun e5 => ?_)
      have := hk e5
      rwa [sU_n (fun z => h5 z.1.symm)] at this
    · rintro ⟨e1, -, e2⟩
      exact e (c_inj hd' hd e1 e2)
theorem cS.cong {μ μ' : mT} {j : Nat} {s : sT} (h : cS μ j s) (h' : ∀ κ, κ < 11 → κ ≠ 2 → κ ≠ 3 → μ' κ j = μ κ j) : cS μ' j s := by
  intro a k hd hk
  have h1 := h a k hd hk
  rw [h' (cκ a k) (by unfold cκ sdom at *; grind) (by unfold cκ sdom at *; grind) (by unfold cκ sdom at *; grind)]
  exact h1
theorem cS.g {μ : mT} {j : Nat} {s : sT} (h : cS μ j s) {κ k' : Nat} (a k : Nat) (hd : sdom a k) (h5 : a ≠ 5) (e : cκ a k = κ) (e' : ck a k = k') : μ κ j k' = s a k := by
  subst e; subst e'
  exact h a k hd (fun z => absurd z h5)
theorem sd0 {k : Nat} (h : k ≤ 8 ∨ k = 10 ∨ k = 12 ∨ (14 ≤ k ∧ k ≤ 17)) : sdom 0 k := Or.inl ⟨rfl, h⟩
theorem sdt {a k : Nat} (h : 1 ≤ a ∧ a ≤ 3) (hk : k < 8) : sdom a k := Or.inr (Or.inl ⟨h.1, h.2, hk⟩)
theorem sdw {a k : Nat} (h : 4 ≤ a ∧ a ≤ 6) (hk : k < 30) : sdom a k := Or.inr (Or.inr ⟨h.1, h.2, hk⟩)
theorem cS.minute {μ : mT} {j : Nat} {s : sT} (h : cS μ j s) : μ 0 j 0 = s 0 6 := h.g 0 6 (sd0 (by omega)) (by decide) rfl rfl
theorem cS.coup {μ : mT} {j : Nat} {s : sT} (h : cS μ j s) : μ 0 j 1 = s 0 14 := h.g 0 14 (sd0 (by omega)) (by decide) rfl rfl
theorem cS.moves {μ : mT} {j : Nat} {s : sT} (h : cS μ j s) : μ 0 j 2 = s 0 15 := h.g 0 15 (sd0 (by omega)) (by decide) rfl rfl
theorem cS.wait {μ : mT} {j : Nat} {s : sT} (h : cS μ j s) : μ 0 j 3 = s 0 16 := h.g 0 16 (sd0 (by omega)) (by decide) rfl rfl
theorem cS.fines {μ : mT} {j : Nat} {s : sT} (h : cS μ j s) : μ 0 j 4 = s 0 17 := h.g 0 17 (sd0 (by omega)) (by decide) rfl rfl
theorem cS.left {μ : mT} {j : Nat} {s : sT} (h : cS μ j s) : μ 0 j 5 = s 0 12 := h.g 0 12 (sd0 (by omega)) (by decide) rfl rfl
theorem cS.tracks {μ : mT} {j : Nat} {s : sT} (h : cS μ j s) : μ 0 j 7 = s 0 7 := h.g 0 7 (sd0 (by omega)) (by decide) rfl rfl
theorem cS.wagons {μ : mT} {j : Nat} {s : sT} (h : cS μ j s) : μ 1 j 0 = s 0 8 := h.g 0 8 (sd0 (by omega)) (by decide) rfl rfl
theorem cS.gone {μ : mT} {j : Nat} {s : sT} (h : cS μ j s) : μ 1 j 1 = s 0 10 := h.g 0 10 (sd0 (by omega)) (by decide) rfl rfl
theorem cS.set {μ : mT} {j : Nat} {s : sT} (h : cS μ j s) {k : Nat} (hk : k < 6) : μ 4 j k = s 0 k := h.g 0 k (sd0 (by omega)) (by decide) (by unfold cκ; rw [if_pos rfl, if_pos hk]) (by unfold ck; rw [if_pos rfl, if_pos hk])
theorem cS.t1 {μ : mT} {j : Nat} {s : sT} (h : cS μ j s) {t : Nat} (ht : t < 8) : μ 5 j t = s 1 t := h.g 1 t (sdt (by omega) ht) (by decide) rfl rfl
theorem cS.t2 {μ : mT} {j : Nat} {s : sT} (h : cS μ j s) {t : Nat} (ht : t < 8) : μ 6 j t = s 2 t := h.g 2 t (sdt (by omega) ht) (by decide) rfl rfl
theorem cS.t3 {μ : mT} {j : Nat} {s : sT} (h : cS μ j s) {t : Nat} (ht : t < 8) : μ 7 j t = s 3 t := h.g 3 t (sdt (by omega) ht) (by decide) rfl rfl
theorem cS.w4 {μ : mT} {j : Nat} {s : sT} (h : cS μ j s) {w : Nat} (hw : w < 30) : μ 8 j w = s 4 w := h.g 4 w (sdw (by omega) hw) (by decide) rfl rfl
theorem cS.w6 {μ : mT} {j : Nat} {s : sT} (h : cS μ j s) {w : Nat} (hw : w < 30) : μ 10 j w = s 6 w := h.g 6 w (sdw (by omega) hw) (by decide) rfl rfl
theorem cS.w5 {μ : mT} {j : Nat} {s : sT} (h : cS μ j s) {w : Nat} (hw : w < 30) (h5 : 0 ≤ s 5 w) : μ 9 j w = s 5 w := h 5 w (sdw (by omega) hw) (fun _ => h5)
def cY (μ : mT) (j : Nat) (y : yT) : Prop := cS μ j y.1 ∧ cRows μ j y.2.1 ∧ cB μ j y.2.2.1 ∧ cT μ j y.2.2.2
def Yd (j : Nat) : Nat → Nat → Prop := fun κ j' => κ < 18 ∧ j' = j
def tot (rw : Nat → List Nat) : Nat := (rw 0).length + (rw 1).length + (rw 2).length + (rw 3).length + (rw 4).length + (rw 5).length + (rw 6).length + (rw 7).length + (rw 8).length
theorem tot_one {rw : Nat → List Nat} {r : Nat} (hr : r < 9) : (rw r).length ≤ tot rw := by
  unfold tot
  rcases (show r = 0 ∨ r = 1 ∨ r = 2 ∨ r = 3 ∨ r = 4 ∨ r = 5 ∨ r = 6 ∨ r = 7 ∨ r = 8 by omega) with rfl | rfl | rfl | rfl | rfl | rfl | rfl | rfl | rfl <;> omega
theorem tot_two {rw : Nat → List Nat} {r : Nat} (hr : r < 8) : (rw r).length + (rw 8).length ≤ tot rw := by
  unfold tot
  rcases (show r = 0 ∨ r = 1 ∨ r = 2 ∨ r = 3 ∨ r = 4 ∨ r = 5 ∨ r = 6 ∨ r = 7 by omega) with rfl | rfl | rfl | rfl | rfl | rfl | rfl | rfl <;> omega
/-- what always holds of a state, with a bound on its minutes -/
def iY (y : yT) (nt nw tm B : Nat) : Prop :=
  (y.1 0 7 = nI nt ∧ nt ≤ 8 ∧ y.1 0 8 = nI nw ∧ nw ≤ 30 ∧ y.1 0 6 = nI tm ∧ tm ≤ B) ∧
  (∀ k, k < 6 → ∃ a, a ≤ 1000 ∧ y.1 0 k = nI a) ∧
  (∀ r, r < 9 → (∀ w ∈ y.2.1 r, w < nw) ∧ (y.2.1 r).Nodup) ∧
  (∀ r r' w, r < 9 → r' < 9 → w ∈ y.2.1 r → w ∈ y.2.1 r' → r = r') ∧
  tot y.2.1 ≤ nw ∧
  (∀ t, nt ≤ t → t < 8 → y.2.1 t = []) ∧
  (∀ w, w < nw → ∀ r, r < 9 → w ∈ y.2.1 r → y.1 5 w = -6) ∧
  (∀ w, w < nw → (∀ r, r < 9 → w ∉ y.2.1 r) → 0 ≤ y.1 5 w) ∧
  (y.2.2.1.length ≤ 10 ∧ ∀ b ∈ y.2.2.1, ∃ x e : Nat, x ≤ B ∧ e ≤ B ∧ b = (nI x, nI e)) ∧
  tOK y.2.2.2 ∧ (∀ e ∈ y.2.2.2, (∃ d, d ≤ B + 5000 ∧ e.1 = nI d) ∧ ∀ w ∈ e.2, w < nw)
section IY
variable {y : yT} {nt nw tm B : Nat}
theorem iY.hnt (h : iY y nt nw tm B) : y.1 0 7 = nI nt := h.1.1
theorem iY.nt8 (h : iY y nt nw tm B) : nt ≤ 8 := h.1.2.1
theorem iY.hnw (h : iY y nt nw tm B) : y.1 0 8 = nI nw := h.1.2.2.1
theorem iY.nw30 (h : iY y nt nw tm B) : nw ≤ 30 := h.1.2.2.2.1
theorem iY.htm (h : iY y nt nw tm B) : y.1 0 6 = nI tm := h.1.2.2.2.2.1
theorem iY.tmB (h : iY y nt nw tm B) : tm ≤ B := h.1.2.2.2.2.2
theorem iY.rOK (h : iY y nt nw tm B) : rOK y.2.1 := fun r hr => ⟨Nat.le_trans (tot_one hr) (Nat.le_trans h.2.2.2.2.1 h.nw30), fun w hw => Nat.lt_of_lt_of_le ((h.2.2.1 r hr).1 w hw) h.nw30, (h.2.2.1 r hr).2⟩
theorem iY.totn (h : iY y nt nw tm B) : tot y.2.1 ≤ nw := h.2.2.2.2.1
theorem iY.tot (h : iY y nt nw tm B) : tot y.2.1 ≤ 30 := Nat.le_trans h.2.2.2.2.1 h.nw30
theorem iY.bl (h : iY y nt nw tm B) : y.2.2.1.length ≤ 10 := h.2.2.2.2.2.2.2.2.1.1
theorem iY.tok (h : iY y nt nw tm B) : tOK y.2.2.2 := h.2.2.2.2.2.2.2.2.2.1
end IY
