theorem cst_b {k : Nat} (hk : k < 6) : (0 : Int32) ≤ cst 40 k ∧ cst 41 k ≤ 1000 := by
  rcases (show k = 0 ∨ k = 1 ∨ k = 2 ∨ k = 3 ∨ k = 4 ∨ k = 5 by omega) with rfl | rfl | rfl | rfl | rfl | rfl <;> decide
theorem kp_set {y : yT} {B : Nat} {a b : Int32} (h : kY y B) : kY (sSet y a b).2 (B + 5000) ∧ ((sSet y a b).1 < 0 → (sSet y a b).2 = y) := by
  obtain ⟨nt, nw, tm, hi⟩ := h
  have h0 : kY y (B + 5000) := ⟨nt, nw, tm, hi.up (by omega)⟩
  unfold sSet
  by_cases ha : a < 0 ∨ 6 ≤ a
  · rw [if_pos ha]; exact ⟨h0, fun _ => rfl⟩
  rw [if_neg ha]
  obtain ⟨k, hk, rfl⟩ := nI_of (fun q => ha (Or.inl q))
  have hk6 : k < 6 := by
    rcases Nat.lt_or_ge k 6 with q | q
    · exact q
    · exact absurd (Or.inr (nI_le q hk)) ha
  rw [q_cl hk]
  by_cases hb : b < cst 40 k ∨ cst 41 k < b
  · rw [if_pos hb]; exact ⟨h0, fun _ => rfl⟩
  rw [if_neg hb]
  obtain ⟨c1, c2⟩ := cst_b hk6
  have b0 : ¬ b < 0 := fun q => hb (Or.inl (Int32.lt_of_lt_of_le q c1))
  obtain ⟨n, hn, e⟩ := nI_of2 (M := 1000) (n := 1000) (by decide) b0 (Int32.le_trans (Int32.not_lt.mp (fun q => hb (Or.inr q))) c2)
  obtain ⟨v, v1, v2⟩ := hi.2.1 k hk6
  refine ⟨?_, fun q => absurd q (by dsimp only; rw [v2]; exact nI_pos (by omega))⟩
  obtain ⟨⟨a1, a2, a3, a4, a5, a6⟩, b', c, d, e', f, g, k', l, m, n'⟩ := hi.up (show B ≤ B + 5000 by omega)
  have hs : ∀ a0 k0, ¬ (a0 = 0 ∧ k0 = k) → sU y.1 0 k b a0 k0 = y.1 a0 k0 := fun a0 k0 q => sU_n q
  refine ⟨nt, nw, tm, ⟨(hs 0 7 (by omega)).trans a1, a2, (hs 0 8 (by omega)).trans a3, a4, (hs 0 6 (by omega)).trans a5, a6⟩, fun k0 hk0 => ?_, c, d, e', f, fun w hw r hr hm => (hs 5 w (by omega)).trans (g w hw r hr hm), fun w hw hm => ?_, l, m, n'⟩
  · by_cases ck : k0 = k
    · subst ck
      exact ⟨n, hn, sU_s.trans e⟩
    · obtain ⟨v', q1, q2⟩ := b' k0 hk0
      exact ⟨v', q1, (hs 0 k0 (by omega)).trans q2⟩
  · show 0 ≤ sU y.1 0 k b 5 w
    rw [hs 5 w (by omega)]
    exact k' w hw hm
theorem kp_track {y : yT} {B : Nat} {a : Int32} (h : kY y B) : kY (sTrack y a).2 (B + 5000) := by
  obtain ⟨nt, nw, tm, hi⟩ := h
  have h0 : kY y (B + 5000) := ⟨nt, nw, tm, hi.up (by omega)⟩
  unfold sTrack
  by_cases ha : a < 4 ∨ 60 < a
  · rw [if_pos ha]; exact h0
  rw [if_neg ha, hi.hnt, z_l8]
  have hn8 := hi.nt8
  by_cases c8 : 8 ≤ nt
  · rw [if_pos (nI_le c8 (by omega))]; exact h0
  rw [if_neg (nI_ge (by omega) (by omega)), q_cl (by omega)]
  obtain ⟨⟨a1, a2, a3, a4, a5, a6⟩, b', c, d, e', f, g, k', l, m, n'⟩ := hi.up (show B ≤ B + 5000 by omega)
  have hs : ∀ a0 k0, ¬ (a0 = 0 ∧ k0 = 7) → a0 ≠ 1 → sU (sU y.1 1 nt a) 0 7 (nI nt + 1) a0 k0 = y.1 a0 k0 := fun a0 k0 q q' => by rw [sU_n q, sU_n (by omega)]
  refine ⟨nt + 1, nw, tm, ⟨(sU_s (s := sU y.1 1 nt a) (a := 0) (k := 7) (x := nI nt + 1)).trans (nI_1 nt), by omega, (hs 0 8 (by omega) (by omega)).trans a3, a4, (hs 0 6 (by omega) (by omega)).trans a5, a6⟩, fun k0 hk0 => ?_, c, d, e', fun t h1 h2 => f t (by omega) h2, fun w hw r hr hm => (hs 5 w (by omega) (by omega)).trans (g w hw r hr hm), fun w hw hm => ?_, l, m, n'⟩
  · obtain ⟨v', q1, q2⟩ := b' k0 hk0
    exact ⟨v', q1, (hs 0 k0 (by omega) (by omega)).trans q2⟩
  · show 0 ≤ sU (sU y.1 1 nt a) 0 7 (nI nt + 1) 5 w
    rw [hs 5 w (by omega) (by omega)]
    exact k' w hw hm
theorem kp_block {y : yT} {B : Nat} {a b : Int32} (h : kY y B) (hB : B < 1000000000) : kY (sBlock y a b).2 (B + 5000) := by
  obtain ⟨nt, nw, tm, hi⟩ := h
  have h0 : kY y (B + 5000) := ⟨nt, nw, tm, hi.up (by omega)⟩
  unfold sBlock
  by_cases ha : a < y.1 0 6 ∨ y.1 0 6 + 2000 < a ∨ b < 1 ∨ 500 < b
  · rw [if_pos ha]; exact h0
  rw [if_neg ha]
  by_cases c10 : 10 ≤ y.2.2.1.length
  · rw [if_pos c10]; exact h0
  rw [if_neg c10]
  have htm := hi.tmB
  have e6 := hi.htm
  rw [e6, show (2000 : Int32) = nI 2000 from rfl, q_add] at ha
  have a0 : ¬ a < 0 := fun q => ha (Or.inl (Int32.lt_of_lt_of_le q (nI_pos' (by omega))))
  obtain ⟨x, hx, e1⟩ := nI_of2 (M := nI (tm + 2000)) (n := tm + 2000) (nI_toInt (by omega)) a0 (Int32.not_lt.mp (fun q => ha (Or.inr (Or.inl q))))
  have b0 : ¬ b < 0 := fun q => ha (Or.inr (Or.inr (Or.inl (Int32.lt_of_lt_of_le q (by decide)))))
  obtain ⟨n, hn, e2⟩ := nI_of2 (M := 500) (n := 500) (by decide) b0 (Int32.not_lt.mp (fun q => ha (Or.inr (Or.inr (Or.inr q)))))
  obtain ⟨⟨a1, a2, a3, a4, a5, a6⟩, b', c, d, e', f, g, k', ⟨l1, l2⟩, m, n'⟩ := hi.up (show B ≤ B + 5000 by omega)
  refine ⟨nt, nw, tm, ⟨a1, a2, a3, a4, a5, a6⟩, b', c, d, e', f, g, k', ⟨by dsimp only; rw [List.length_append]; simp; omega, fun q hq => ?_⟩, m, n'⟩
  rcases List.mem_append.mp hq with z | z
  · exact l2 q z
  · simp at z
    exact ⟨x, x + n, by omega, by omega, by rw [z, e1, e2, q_add]⟩
theorem mem_erase {α : Type} {l : List α} {t : Nat} {e : α} (h : e ∈ l.eraseIdx t) : e ∈ l := List.mem_of_mem_eraseIdx h
theorem tOK_erase {tn : List (Int32 × List Nat)} {t : Nat} (h : tOK tn) : tOK (tn.eraseIdx t) := by
  refine ⟨Nat.le_trans (List.length_eraseIdx_le _ _) h.1, fun t' e he => ?_⟩
  obtain ⟨i, hi, e'⟩ := List.getElem_of_mem (mem_erase (List.mem_of_getElem? he))
  exact h.2 i e (by rw [List.getElem?_eq_getElem hi, e'])
theorem kp_strike {y : yT} {B : Nat} {a : Int32} (h : kY y B) : kY (sStrike y a).2 (B + 5000) := by
  obtain ⟨nt, nw, tm, hi⟩ := h
  have h0 : kY y (B + 5000) := ⟨nt, nw, tm, hi.up (by omega)⟩
  unfold sStrike
  cases tIx y.2.2.2.length a with
  | none => exact h0
  | some t =>
    obtain ⟨a', b', c, d, e', f, g, k', l, m, n'⟩ := hi.up (show B ≤ B + 5000 by omega)
    exact ⟨nt, nw, tm, a', b', c, d, e', f, g, k', l, tOK_erase m, fun e he => n' e (mem_erase he)⟩
theorem kp_train {y : yT} {B : Nat} {x : Int64} {due : Int32} (h : kY y B) (hB : B < 1000000000) : kY (sTrain y (tLs x) due).2 (B + 5000) := by
  obtain ⟨nt, nw, tm, hi⟩ := h
  have h0 : kY y (B + 5000) := ⟨nt, nw, tm, hi.up (by omega)⟩
  unfold sTrain
  by_cases c1 : areT y.2.1 (tLs x)
  case neg => rw [cIf_f c1]; exact h0
  rw [cIf_t c1]
  by_cases c2 : due < y.1 0 6 ∨ y.1 0 6 + 5000 < due
  · rw [if_pos c2]; exact h0
  rw [if_neg c2]
  by_cases c3 : 8 ≤ y.2.2.2.length
  · rw [if_pos c3]; exact h0
  rw [if_neg c3]
  by_cases c4 : ∀ w ∈ tLs x, tOf y.2.2.2 w = -6
  case neg => rw [cIf_f c4]; exact h0
  rw [cIf_t c4]
  obtain ⟨q1, q2⟩ := (areT_iff hi _).mp c1
  obtain ⟨q3, -, q4⟩ := (okL_iff _ _).mp q2
  obtain ⟨l8, l30⟩ := tLs_len x
  have htm := hi.tmB
  rw [hi.htm, show (5000 : Int32) = nI 5000 from rfl, q_add] at c2
  have d0 : ¬ due < 0 := fun q => c2 (Or.inl (Int32.lt_of_lt_of_le q (nI_pos' (by omega))))
  obtain ⟨dd, hd, e1⟩ := nI_of2 (M := nI (tm + 5000)) (n := tm + 5000) (nI_toInt (by omega)) d0 (Int32.not_lt.mp (fun q => c2 (Or.inr q)))
  obtain ⟨a', b', c, d, e', f, g, k', l, m, n'⟩ := hi.up (show B ≤ B + 5000 by omega)
  have hne : (tLs x).length ≠ 0 := fun z => q1 (List.length_eq_zero_iff.mp z)
  refine ⟨nt, nw, tm, a', b', c, d, e', f, g, k', l, ⟨by dsimp only; rw [List.length_append]; simp; omega, fun t e he => ?_⟩, fun e he => ?_⟩
  · rcases List.mem_append.mp (List.mem_of_getElem? he) with z | z
    · obtain ⟨i, hi', e''⟩ := List.getElem_of_mem z
      exact m.2 i e (by rw [List.getElem?_eq_getElem hi', e''])
    · simp at z
      rw [z]
      exact ⟨by dsimp only; omega, l8, q4, l30⟩
  · rcases List.mem_append.mp he with z | z
    · exact n' e z
    · simp at z
      rw [z]
      exact ⟨⟨dd, by omega, e1⟩, fun w hw => (q3 w hw).1⟩
