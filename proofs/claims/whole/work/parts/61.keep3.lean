theorem kp_wagon {y : yT} {B : Nat} {a b : Int32} (h : kY y B) : kY (sWagon y a b).2 (B + 5000) := by
  obtain ⟨nt, nw, tm, hi⟩ := h
  have h0 : kY y (B + 5000) := ⟨nt, nw, tm, hi.up (by omega)⟩
  unfold sWagon
  by_cases ht : isT y a = true
  case neg => rw [if_neg ht]; exact h0
  obtain ⟨t, ht1, rfl⟩ := isT_in hi.hnt hi.nt8 ht
  have hn8 := hi.nt8
  have ht8 : t < 8 := by omega
  rw [if_pos ht]
  by_cases hb : b < 1 ∨ 4 < b
  · rw [if_pos hb]; exact h0
  rw [if_neg hb, hi.hnw, z_l30]
  have hw30 := hi.nw30
  by_cases h30 : 30 ≤ nw
  · rw [if_pos (nI_le h30 (by omega))]; exact h0
  rw [if_neg (nI_ge (by omega) (by omega)), q_cl (by omega), q_cl (by omega)]
  by_cases hf : y.1 1 t < ssum (y.1 4) (y.2.1 t) + b
  · rw [if_pos hf]; exact h0
  rw [if_neg hf]
  obtain ⟨⟨a1, a2, a3, a4, a5, a6⟩, b', c, d, e', f, g, k', l, m, n'⟩ := hi.up (show B ≤ B + 5000 by omega)
  have hs : ∀ a0 k0, ¬ (a0 = 0 ∧ k0 = 8) → a0 ≠ 4 → ¬ (a0 = 5 ∧ k0 = nw) → sU (sU (sU y.1 0 8 (nI nw + 1)) 4 nw b) 5 nw (-6) a0 k0 = y.1 a0 k0 := fun a0 k0 q1 q2 q3 => by
    rw [sU_n q3, sU_n (by omega), sU_n q1]
  have h8 : sU (sU (sU y.1 0 8 (nI nw + 1)) 4 nw b) 5 nw (-6) 0 8 = nI (nw + 1) := by
    rw [sU_n (by omega), sU_n (by omega), sU_s]
    exact nI_1 nw
  have h5 : sU (sU (sU y.1 0 8 (nI nw + 1)) 4 nw b) 5 nw (-6) 5 nw = -6 := sU_s
  have hr : ∀ r w, r < 9 → w ∈ (if r = t then nw :: y.2.1 r else y.2.1 r) → (w = nw ∧ r = t) ∨ (w ∈ y.2.1 r ∧ w < nw) := fun r w hr hm => by
    by_cases cr : r = t
    · rw [if_pos cr] at hm
      rcases List.mem_cons.mp hm with z | z
      · exact Or.inl ⟨z, cr⟩
      · exact Or.inr ⟨z, (c r hr).1 w z⟩
    · rw [if_neg cr] at hm
      exact Or.inr ⟨hm, (c r hr).1 w hm⟩
  refine ⟨nt, nw + 1, tm, ⟨(hs 0 7 (by omega) (by omega) (by omega)).trans a1, a2, h8, by omega, (hs 0 6 (by omega) (by omega) (by omega)).trans a5, a6⟩, fun k0 hk0 => ?_, fun r hr9 => ⟨fun w hm => ?_, ?_⟩, fun r r' w hr9 hr9' hm hm' => ?_, ?_, fun t' h1 h2 => ?_, fun w hw r hr9 hm => ?_, fun w hw hm => ?_, l, m, fun e he => ⟨(n' e he).1, fun w hw => Nat.lt_succ_of_lt ((n' e he).2 w hw)⟩⟩
  · obtain ⟨v', q1, q2⟩ := b' k0 hk0
    exact ⟨v', q1, (hs 0 k0 (by omega) (by omega) (by omega)).trans q2⟩
  · rcases hr r w hr9 hm with ⟨z, -⟩ | ⟨-, z⟩ <;> omega
  · dsimp only
    by_cases cr : r = t
    · rw [if_pos cr]
      exact List.nodup_cons.mpr ⟨fun z => by have := (c r hr9).1 nw z; omega, (c r hr9).2⟩
    · rw [if_neg cr]
      exact (c r hr9).2
  · rcases hr r w hr9 hm with ⟨z, z2⟩ | ⟨z, z2⟩
    · rcases hr r' w hr9' hm' with ⟨z', z2'⟩ | ⟨z', z2'⟩
      · omega
      · omega
    · rcases hr r' w hr9' hm' with ⟨z', z2'⟩ | ⟨z', z2'⟩
      · omega
      · exact d r r' w hr9 hr9' z z'
  · dsimp only
    unfold tot at e' ⊢
    rcases (show t = 0 ∨ t = 1 ∨ t = 2 ∨ t = 3 ∨ t = 4 ∨ t = 5 ∨ t = 6 ∨ t = 7 by omega) with rfl | rfl | rfl | rfl | rfl | rfl | rfl | rfl <;> simp only [Nat.reduceEqDiff, ↓reduceIte, List.length_cons] <;> omega
  · dsimp only
    rw [if_neg (by omega)]
    exact f t' h1 h2
  · rcases hr r w hr9 hm with ⟨z, -⟩ | ⟨z, z2⟩
    · rw [z]; exact h5
    · exact (hs 5 w (by omega) (by omega) (by omega)).trans (g w z2 r hr9 z)
  · show 0 ≤ sU (sU (sU y.1 0 8 (nI nw + 1)) 4 nw b) 5 nw (-6) 5 w
    have hwn : w ≠ nw := fun z => hm t (by omega) (by dsimp only; rw [if_pos rfl, z]; exact List.mem_cons_self)
    rw [hs 5 w (by omega) (by omega) (by omega)]
    refine k' w (by omega) (fun r hr9 z => hm r hr9 ?_)
    dsimp only
    by_cases cr : r = t
    · rw [if_pos cr]; exact List.mem_cons_of_mem _ z
    · rw [if_neg cr]; exact z
theorem kp_leave {y : yT} {B : Nat} {a : Int32} (h : kY y B) (hB : B < 1000000000) : kY (sLeave y a).2 (B + 5000) := by
  obtain ⟨nt, nw, tm, hi⟩ := h
  have h0 : kY y (B + 5000) := ⟨nt, nw, tm, hi.up (by omega)⟩
  unfold sLeave
  cases tIx y.2.2.2.length a with
  | none => exact h0
  | some t =>
    dsimp only
    cases y.2.2.2[t]? with
    | none => exact h0
    | some e =>
      dsimp only
      by_cases q : y.2.1 8 = e.2
      case neg => rw [if_neg q]; exact h0
      rw [if_pos q]
      have htm := hi.tmB
      obtain ⟨⟨a1, a2, a3, a4, a5, a6⟩, b', c, d, e', f, g, k', l, m, n'⟩ := hi.up (show B ≤ B + 5000 by omega)
      have hs : ∀ a0 k0, ¬ (a0 = 0 ∧ (k0 = 10 ∨ k0 = 12 ∨ k0 = 17)) → (sLv y t e.1).1 a0 k0 = sGone y.1 (y.2.1 8) a0 k0 := fun a0 k0 q1 => by
        unfold sLv
        dsimp only
        rw [sU_n (by omega), sU_n (by omega), sU_n (by omega)]
      have hs' : ∀ k0, k0 ≤ 8 → (sLv y t e.1).1 0 k0 = y.1 0 k0 := fun k0 hk => (hs 0 k0 (by omega)).trans (sGone_n (by decide))
      have hr : ∀ r w, w ∈ (if r = 8 then [] else y.2.1 r) → r ≠ 8 ∧ w ∈ y.2.1 r := fun r w hm => by
        by_cases cr : r = 8
        · rw [if_pos cr] at hm; cases hm
        · rw [if_neg cr] at hm; exact ⟨cr, hm⟩
      have hg := gClear hi.g
      refine ⟨nt, nw, tm, ⟨(hs' 7 (by omega)).trans a1, a2, (hs' 8 (by omega)).trans a3, a4, (hs' 6 (by omega)).trans a5, a6⟩, fun k0 hk0 => ?_, fun r hr9 => ⟨fun w hm => (c r hr9).1 w (hr r w hm).2, (hg.1 r hr9).2.2⟩, hg.2.1, ?_, fun t' h1 h2 => ?_, fun w hw r hr9 hm => ?_, fun w hw hm => ?_, l, tOK_erase m, fun e he => n' e (mem_erase he)⟩
      · obtain ⟨v', q1, q2⟩ := b' k0 hk0
        exact ⟨v', q1, (hs' k0 (by omega)).trans q2⟩
      · unfold sLv
        dsimp only
        unfold tot at e' ⊢
        simp only [Nat.reduceEqDiff, ↓reduceIte, List.length_nil]
        omega
      · show (if t' = 8 then [] else y.2.1 t') = []
        rw [if_neg (by omega)]
        exact f t' h1 h2
      · obtain ⟨z1, z2⟩ := hr r w hm
        refine (hs 5 w (by omega)).trans ?_
        unfold sGone
        rw [if_neg (fun z => z1 (d r 8 w hr9 (by omega) z2 z.2))]
        exact g w hw r hr9 z2
      · rw [hs 5 w (by omega)]
        unfold sGone
        by_cases c8 : w ∈ y.2.1 8
        · rw [if_pos ⟨rfl, c8⟩, hi.htm]
          exact nI_pos' (by omega)
        · rw [if_neg (fun z => c8 z.2)]
          refine k' w hw (fun r hr9 z => ?_)
          by_cases cr : r = 8
          · rw [cr] at z; exact c8 z
          · exact hm r hr9 (by
              show w ∈ (if r = 8 then [] else y.2.1 r)
              rw [if_neg cr]
              exact z)
