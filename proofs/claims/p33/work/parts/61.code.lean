def CN : List Nat → Nat
  | [] => 0
  | w :: l => 31 * CN l + w + 1
theorem CN_lt : ∀ (l : List Nat), (∀ w ∈ l, w < 30) → CN l < 31 ^ l.length
  | [], _ => by show 0 < 31 ^ 0; omega
  | w :: l, h => by
    have h1 := CN_lt l (fun x hx => h x (List.mem_cons_of_mem _ hx))
    have h2 := h w List.mem_cons_self
    show 31 * CN l + w + 1 < 31 ^ (l.length + 1)
    rw [Nat.pow_succ]
    omega
theorem CN_b {l : List Nat} (hw : ∀ w ∈ l, w < 30) (hl : l.length ≤ 8) : CN l < 852891037441 := by
  have h1 := CN_lt l hw
  have h2 : 31 ^ l.length ≤ 31 ^ 8 := Nat.pow_le_pow_right (by omega) hl
  have h3 : 31 ^ 8 = 852891037441 := by decide
  omega
theorem rd_CN : ∀ (F : Nat) (l : List Nat), l.length ≤ F → (∀ w ∈ l, w < 30) → rd F (CN l) = some l
  | 0, [], _, _ => rfl
  | 0, w :: l, h, _ => by simp at h
  | F + 1, [], _, _ => rfl
  | F + 1, w :: l, h, hw => by
    have h2 := hw w List.mem_cons_self
    have ih := rd_CN F l (by rw [List.length_cons] at h; omega) (fun x hx => hw x (List.mem_cons_of_mem _ hx))
    have e1 : (31 * CN l + w + 1) % 31 = w + 1 := by omega
    have e2 : (31 * CN l + w + 1) / 31 = CN l := by omega
    show (if 31 * CN l + w + 1 = 0 then some [] else if (31 * CN l + w + 1) % 31 = 0 then none else (rd F ((31 * CN l + w + 1) / 31)).map (fun l' => ((31 * CN l + w + 1) % 31 - 1) :: l')) = _
    rw [if_neg (by omega), if_neg (by omega), e1, e2, ih]
    rfl
theorem tLs_CN {l : List Nat} (hl : l.length ≤ 8) (hw : ∀ w ∈ l, w < 30) : tLs (lN (CN l)) = l := by
  have hb := CN_b hw hl
  have e : (lN (CN l)).toInt = (CN l : Int) := lg_ofNat_toInt (by omega)
  unfold tLs
  rw [if_neg (by rw [Int64.lt_iff_toInt_lt, e]; show ¬ (_ < (0 : Int)); omega), e, Int.toNat_natCast, rd_CN 8 l hl hw]
  rfl
theorem CN_step {l : List Nat} {w : Nat} (hw : w < 30) : 31 * lN (CN l) + (nI w).toInt64 + 1 = lN (CN (w :: l)) := by
  rw [nI_l (by omega), show (31 : Int64) = lN 31 from rfl, lN_mul, lN_add, lN_1]
  rfl
theorem tFind_lt {w : Nat} : ∀ {tn : List (Int32 × List Nat)} {k i : Nat}, tFind w k tn = some i → k ≤ i ∧ i < k + tn.length
  | [], k, i, h => by simp [tFind] at h
  | e :: tn, k, i, h => by
    unfold tFind at h
    split at h
    · cases h
      rw [List.length_cons]
      omega
    · have := tFind_lt h
      rw [List.length_cons]
      omega
theorem tFind_app {w : Nat} {e : Int32 × List Nat} : ∀ {tn : List (Int32 × List Nat)} {k : Nat}, tFind w k tn = none → w ∈ e.2 → tFind w k (tn ++ [e]) = some (k + tn.length)
  | [], k, _, hw => by
    show (if w ∈ e.2 then some k else tFind w (k + 1) []) = _
    rw [if_pos hw]
    rfl
  | e' :: tn, k, h, hw => by
    unfold tFind at h
    split at h
    · cases h
    · rename_i hn
      show (if w ∈ e'.2 then some k else tFind w (k + 1) (tn ++ [e])) = _
      rw [if_neg hn, tFind_app h hw, List.length_cons]
      congr 1
      omega
theorem tOf_c {tn : List (Int32 × List Nat)} (hl : tn.length ≤ 8) (w : Nat) : (tOf tn w = -6 ∧ tFind w 0 tn = none) ∨ ∃ k, k < 8 ∧ tOf tn w = nI k := by
  unfold tOf
  cases e : tFind w 0 tn with
  | none => exact Or.inl ⟨rfl, rfl⟩
  | some k => exact Or.inr ⟨k, by have := tFind_lt e; omega, rfl⟩
theorem tOf_neg {tn : List (Int32 × List Nat)} (hl : tn.length ≤ 8) (w : Nat) : (0 : Int32) ≤ tOf tn w ↔ ¬ tOf tn w = -6 := by
  rcases tOf_c hl w with ⟨h, -⟩ | ⟨k, hk, h⟩
  · rw [h]
    decide
  · rw [h]
    exact ⟨fun _ => q_n6 (by omega), fun _ => nI_pos' (by omega)⟩
section V4
variable {μ : mT} {y : yT} {nt nw tm B w : Nat}
/-- whether a wagon is gone: by its answer 4 -/
theorem v4s (h : PR μ y) (hi : iY y nt nw tm B) (hw : w < nw) : ∃ v, f_X7_ofWagon (nI w) 4 μ = some (v, μ) ∧ ((0 : Int32) ≤ v ↔ ¬ (w < nw ∧ y.1 5 w < 0)) ∧ (v < 0 ↔ (w < nw ∧ y.1 5 w < 0)) := by
  by_cases c : ∃ r, r < 9 ∧ w ∈ y.2.1 r
  · obtain ⟨r, hr, hm⟩ := c
    have h5 : y.1 5 w = -6 := hi.2.2.2.2.2.2.1 w hw r hr hm
    refine ⟨-6, v4i h hi hr hm, ?_, ?_⟩
    · rw [h5]
      exact ⟨fun z => absurd z (by decide), fun z => absurd ⟨hw, by decide⟩ z⟩
    · rw [h5]
      exact ⟨fun _ => ⟨hw, by decide⟩, fun _ => by decide⟩
  · have hn : ∀ r, r < 9 → w ∉ y.2.1 r := fun r hr hm => c ⟨r, hr, hm⟩
    have h5 : 0 ≤ y.1 5 w := hi.2.2.2.2.2.2.2.1 w hw hn
    refine ⟨y.1 5 w, v4g h hi hw hn, ⟨fun _ z => Int32.not_lt.mpr h5 z.2, fun _ => h5⟩, ⟨fun z => absurd z (Int32.not_lt.mpr h5), fun z => z.2⟩⟩
end V4
theorem areT_g {y : yT} {nt nw tm B : Nat} {ws : List Nat} (hi : iY y nt nw tm B) (hne : ws ≠ []) (hnd : ws.Nodup) : areT y.2.1 ws ↔ ∀ w ∈ ws, w < nw ∧ y.1 5 w < 0 := by
  rw [areT_iff hi, okL_iff]
  exact ⟨fun z => z.2.1, fun z => ⟨hne, z, fun w _ => List.not_mem_nil, hnd⟩⟩
