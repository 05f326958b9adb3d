def fv (k : Nat) : Int32 := if k = 0 then 16 else if k = 1 then 12 else if k = 2 then 4 else if k = 3 then 1 else if k = 4 then 9 else if k = 5 then 20 else 0
def mem0 : mT := fun κ _ k => if κ = 4 then fv k else if κ = 22 then nI (k + 2) else if κ = 23 then nI (9 + k) else 0
def y0 : yT := (fun a k => fv (mi a k), fun _ => [], [], [])
theorem fv_0 {k : Nat} (h : 6 ≤ k) : fv k = 0 := by
  unfold fv
  rw [if_neg (by omega), if_neg (by omega), if_neg (by omega), if_neg (by omega), if_neg (by omega), if_neg (by omega)]
theorem mem0_0 {κ j k : Nat} (h : κ ≠ 4 ∧ κ ≠ 22 ∧ κ ≠ 23) : mem0 κ j k = 0 := by
  unfold mem0
  rw [if_neg (by omega), if_neg (by omega), if_neg (by omega)]
theorem cY0 : cY mem0 0 y0 := by
  refine ⟨fun a k hd _ => ?_, fun r hr => ?_, ?_, ?_⟩
  · show mem0 (cκ a k) 0 (ck a k) = fv (mi a k)
    by_cases c : a = 0 ∧ k < 6
    · obtain ⟨rfl, hk⟩ := c
      have e1 : cκ 0 k = 4 := by unfold cκ; rw [if_pos rfl, if_pos hk]
      have e2 : ck 0 k = k := by unfold ck; rw [if_pos rfl, if_pos hk]
      rw [e1, e2]
      rfl
    · have h4 : cκ a k ≠ 4 ∧ cκ a k < 18 := by unfold cκ; unfold sdom at hd; grind (splits := 60)
      have h6 : 6 ≤ mi a k := by unfold mi; unfold sdom at hd; grind (splits := 60)
      rw [mem0_0 (by omega), fv_0 h6]
  · have e : cw r (y0.2.1 r) = [] := by
      show cw r [] = []
      unfold cw
      split <;> rfl
    rw [e]
    exact ⟨mem0_0 (by omega), fun i w q => by simp at q⟩
  · exact ⟨mem0_0 (by omega), fun i w q => by simp [y0] at q⟩
  · exact ⟨mem0_0 (by omega), fun i w q => by simp [y0] at q⟩
theorem kY0 : kY y0 0 := by
  have hf : ∀ k, k < 6 → ∃ a, a ≤ 1000 ∧ fv k = nI a := fun k hk => by
    rcases (show k = 0 ∨ k = 1 ∨ k = 2 ∨ k = 3 ∨ k = 4 ∨ k = 5 by omega) with rfl | rfl | rfl | rfl | rfl | rfl
    · exact ⟨16, by omega, rfl⟩
    · exact ⟨12, by omega, rfl⟩
    · exact ⟨4, by omega, rfl⟩
    · exact ⟨1, by omega, rfl⟩
    · exact ⟨9, by omega, rfl⟩
    · exact ⟨20, by omega, rfl⟩
  refine ⟨0, 0, 0, ⟨rfl, by omega, rfl, by omega, rfl, Nat.le_refl _⟩, fun k hk => hf k hk, fun r hr => ⟨fun w q => (List.not_mem_nil q).elim, List.nodup_nil⟩, fun r r' w _ _ q => (List.not_mem_nil q).elim, Nat.le_refl 0, fun t _ _ => rfl, fun w hw => absurd hw (by omega), fun w hw => absurd hw (by omega), ⟨Nat.zero_le _, fun b q => (List.not_mem_nil q).elim⟩, ⟨Nat.zero_le _, fun t e q => by simp [y0] at q⟩, fun e q => (List.not_mem_nil q).elim⟩
