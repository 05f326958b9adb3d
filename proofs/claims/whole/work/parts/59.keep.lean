def kY (y : yT) (B : Nat) : Prop := ∃ nt nw tm, iY y nt nw tm B
theorem kY.up {y : yT} {B B' : Nat} (h : kY y B) (hb : B ≤ B') : kY y B' := by
  obtain ⟨nt, nw, tm, h⟩ := h
  exact ⟨nt, nw, tm, h.up hb⟩
theorem iY_rows {y : yT} {nt nw tm B : Nat} (h : iY y nt nw tm B) {s : sT} {rw' : Nat → List Nat} (h0 : ∀ k, k ≤ 8 → s 0 k = y.1 0 k) (h5 : s 5 = y.1 5) (hg : gN (s, rw', y.2.2) nt) (hT : tot rw' = tot y.2.1) (hs : ∀ r w, r < 9 → w ∈ rw' r → ∃ r', r' < 9 ∧ w ∈ y.2.1 r') (hs' : ∀ r w, r < 9 → w ∈ y.2.1 r → ∃ r', r' < 9 ∧ w ∈ rw' r') : iY (s, rw', y.2.2) nt nw tm B := by
  obtain ⟨⟨a1, a2, a3, a4, a5, a6⟩, b, c, d, e, f, g, k, l, m, n⟩ := h
  refine ⟨⟨(h0 7 (by omega)).trans a1, a2, (h0 8 (by omega)).trans a3, a4, (h0 6 (by omega)).trans a5, a6⟩, fun k hk => by
    obtain ⟨v, v1, v2⟩ := b k hk
    exact ⟨v, v1, (h0 k (by omega)).trans v2⟩, fun r hr => ⟨fun w hw => ?_, (hg.1.1 r hr).2.2⟩, hg.1.2.1, ?_, hg.2.2.2, fun w hw r hr hm => ?_, fun w hw hm => ?_, l, m, n⟩
  · obtain ⟨r', r1, r2⟩ := hs r w hr hw
    exact (c r' r1).1 w r2
  · show tot rw' ≤ nw
    rw [hT]
    exact e
  · obtain ⟨r', r1, r2⟩ := hs r w hr hm
    show s 5 w = -6
    rw [h5]
    exact g w hw r' r1 r2
  · show 0 ≤ s 5 w
    rw [h5]
    refine k w hw (fun r hr hm' => ?_)
    obtain ⟨r', r1, r2⟩ := hs' r w hr hm'
    exact hm r' r1 r2
theorem iY_mvm {y : yT} {nt nw tm B a j : Nat} {m jn : Int32} (h : iY y nt nw tm B) (hB : B < 1000000000) (ha : a ≤ 1000) (hm : m = nI a) (hj : j ≤ 2) (hjn : jn = nI j) : ∃ tm', iY (mvm y m jn) nt nw tm' (B + 3000) ∧ (mvm y m jn).1 0 6 = nI tm' := by
  obtain ⟨s3, s3a, s3b⟩ := h.2.1 3 (by omega)
  have hM : mvw y m jn = nI (a + j * s3) := by
    unfold mvw
    rw [hm, hjn, s3b, q_mul, q_add]
  have hM3 : a + j * s3 ≤ 3000 := by
    have : j * s3 ≤ 2 * 1000 := Nat.mul_le_mul hj s3a
    omega
  obtain ⟨T2, t1, t2, t3⟩ := free_bd (m := nI (a + j * s3)) (B := B) (by omega) h.bends h.tmB
  have hf : mvf y m jn = nI T2 := by
    unfold mvf
    rw [hM, h.htm, t3]
  refine ⟨T2 + (a + j * s3), ?_, ?_⟩
  · unfold mvm
    rw [hf, hM, q_add]
    refine iY_ctm (h.up (by omega) |>.sc (fun k hk => ?_) ?_) (by omega)
    · rw [sU_n (by omega), sU_n (by omega), sU_n (by omega)]
    · funext k
      rw [sU_n (by omega), sU_n (by omega), sU_n (by omega)]
  · unfold mvm ctm
    dsimp only
    rw [sU_s, hf, hM, q_add]
theorem jD_n {y : yT} {t n : Nat} : ∃ j, j ≤ 2 ∧ jD y t n = nI j := by
  unfold jD
  split
  · exact ⟨1, by omega, rfl⟩
  · exact ⟨2, by omega, rfl⟩
theorem jB_n {y : yT} {t : Nat} : ∃ j, j ≤ 2 ∧ jB y t = nI j := by
  unfold jB
  split
  · exact ⟨1, by omega, rfl⟩
  · exact ⟨2, by omega, rfl⟩
theorem iY_D {y : yT} {nt nw tm B t n : Nat} (h : iY y nt nw tm B) (ht : t < nt) (hn : n ≤ (y.2.1 t).length) : iY (dO y t n) nt nw tm B := by
  have hn8 := h.nt8
  refine iY_rows h (s := (dO y t n).1) (rw' := rwD y.2.1 t n) (fun k hk => ?_) ?_ (gD' h.gn ht hn) (rwD_tot (by omega) hn) (fun r w hr hm => ?_) (fun r w hr hm => ?_)
  · unfold dO nP
    dsimp only
    rw [sU_n (by omega), if_neg (by omega)]
  · funext k
    unfold dO nP
    dsimp only
    rw [sU_n (by omega), if_neg (by omega)]
  · rcases rwD_mem (by omega) hm with ⟨-, z⟩ | ⟨-, z | z⟩ | ⟨-, -, z⟩
    · exact ⟨t, by omega, List.mem_of_mem_drop z⟩
    · exact ⟨8, by omega, z⟩
    · exact ⟨t, by omega, List.mem_of_mem_take z⟩
    · exact ⟨r, hr, z⟩
  · by_cases c : r = t
    · rw [c, ← List.take_append_drop n (y.2.1 t)] at hm
      rcases List.mem_append.mp hm with z | z
      · exact ⟨8, by omega, by rw [rwD_8 (by omega)]; exact List.mem_append_right _ z⟩
      · exact ⟨t, by omega, by rw [rwD_t]; exact z⟩
    · by_cases c8 : r = 8
      · rw [c8] at hm
        exact ⟨8, by omega, by rw [rwD_8 (by omega)]; exact List.mem_append_left _ hm⟩
      · exact ⟨r, hr, by unfold rwD; rw [if_neg c, if_neg c8]; exact hm⟩
theorem iY_B {y : yT} {nt nw tm B t n : Nat} (h : iY y nt nw tm B) (ht : t < nt) (hn : n ≤ (y.2.1 8).length) : iY (sBk y t n) nt nw tm B := by
  have hn8 := h.nt8
  refine iY_rows h (s := (sBk y t n).1) (rw' := rwB y.2.1 t n) (fun k hk => ?_) ?_ (gB' h.gn ht hn) (rwB_tot (by omega) hn) (fun r w hr hm => ?_) (fun r w hr hm => ?_)
  · unfold sBk
    dsimp only
    rw [sU_n (by omega)]
  · funext k
    unfold sBk
    dsimp only
    rw [sU_n (by omega)]
  · rcases rwB_mem (by omega) hm with ⟨-, z | z⟩ | ⟨-, z⟩ | ⟨-, -, z⟩
    · exact ⟨t, by omega, z⟩
    · exact ⟨8, by omega, List.mem_of_mem_drop z⟩
    · exact ⟨8, by omega, List.mem_of_mem_take z⟩
    · exact ⟨r, hr, z⟩
  · by_cases c8 : r = 8
    · rw [c8, ← List.take_append_drop ((y.2.1 8).length - n) (y.2.1 8)] at hm
      rcases List.mem_append.mp hm with z | z
      · exact ⟨8, by omega, by rw [rwB_8 (by omega)]; exact z⟩
      · exact ⟨t, by omega, by rw [rwB_t]; exact List.mem_append_left _ z⟩
    · by_cases c : r = t
      · rw [c] at hm
        exact ⟨t, by omega, by rw [rwB_t]; exact List.mem_append_right _ hm⟩
      · exact ⟨r, hr, by unfold rwB; rw [if_neg c, if_neg c8]; exact hm⟩
theorem iY_R {y : yT} {nt nw tm B : Nat} (h : iY y nt nw tm B) : iY (y.1, rwR y.2.1, y.2.2) nt nw tm B :=
  iY_rows h (s := y.1) (rw' := rwR y.2.1) (fun _ _ => rfl) rfl (gN_R h.gn rfl h.bl) rwR_tot (fun r w hr hm => ⟨r, hr, rwR_mem.mp hm⟩) (fun r w hr hm => ⟨r, hr, rwR_mem.mpr hm⟩)
theorem kp_pull {y : yT} {B : Nat} {a b : Int32} (h : kY y B) (hB : B < 1000000000) : kY (sPull y a b).2 (B + 5000) := by
  obtain ⟨nt, nw, tm, hi⟩ := h
  have h0 : kY y (B + 5000) := ⟨nt, nw, tm, hi.up (by omega)⟩
  unfold sPull
  by_cases ht : isT y a = true
  · obtain ⟨t, ht1, rfl⟩ := isT_in hi.hnt hi.nt8 ht
    have hn8 := hi.nt8
    rw [if_pos ht]
    by_cases hb : b < 1 ∨ 30 < b
    · rw [if_pos hb]; exact h0
    · rw [if_neg hb]
      obtain ⟨n, n1, n2, rfl⟩ := b30 hb
      rw [q_cl (by omega), q_cl (by omega)]
      by_cases hc : canP y t n = true
      · rw [if_pos hc]
        obtain ⟨s2, s2a, s2b⟩ := hi.2.1 2 (by omega)
        obtain ⟨j, j1, j2⟩ := jD_n (y := y) (t := t) (n := n)
        obtain ⟨tm', q, -⟩ := iY_mvm (iY_D hi ht1 (canP_le hc)) hB s2a s2b j1 j2
        exact ⟨nt, nw, tm', q.up (by omega)⟩
      · rw [if_neg hc]; exact h0
  · rw [if_neg ht]; exact h0
theorem kp_push {y : yT} {B : Nat} {a b : Int32} (h : kY y B) (hB : B < 1000000000) : kY (sPush y a b).2 (B + 5000) := by
  obtain ⟨nt, nw, tm, hi⟩ := h
  have h0 : kY y (B + 5000) := ⟨nt, nw, tm, hi.up (by omega)⟩
  unfold sPush
  by_cases ht : isT y a = true
  · obtain ⟨t, ht1, rfl⟩ := isT_in hi.hnt hi.nt8 ht
    have hn8 := hi.nt8
    rw [if_pos ht]
    by_cases hb : b < 1 ∨ 30 < b
    · rw [if_pos hb]; exact h0
    · rw [if_neg hb]
      obtain ⟨n, n1, n2, rfl⟩ := b30 hb
      rw [q_cl (by omega), q_cl (by omega)]
      by_cases hc : canQ y t n = true
      · rw [if_pos hc]
        obtain ⟨s2, s2a, s2b⟩ := hi.2.1 2 (by omega)
        obtain ⟨j, j1, j2⟩ := jB_n (y := y) (t := t)
        obtain ⟨tm', q, -⟩ := iY_mvm (iY_B hi ht1 (canQ_le hc)) hB s2a s2b j1 j2
        exact ⟨nt, nw, tm', q.up (by omega)⟩
      · rw [if_neg hc]; exact h0
  · rw [if_neg ht]; exact h0
theorem kp_round {y : yT} {B : Nat} (h : kY y B) (hB : B < 1000000000) : kY (sRound y).2 (B + 5000) ∧ ¬ (sRnd y).1 0 6 < 0 := by
  obtain ⟨nt, nw, tm, hi⟩ := h
  obtain ⟨s2, s2a, s2b⟩ := hi.2.1 4 (by omega)
  obtain ⟨tm', q, q2⟩ := iY_mvm (iY_R hi) hB s2a (m := y.1 0 4) (jn := 2) (j := 2) s2b (by omega) rfl
  have hq := q.tmB
  have q2' : (sRnd y).1 0 6 = nI tm' := q2
  refine ⟨?_, by rw [q2']; exact nI_pos (by omega)⟩
  unfold sRound
  split
  · exact ⟨nt, nw, tm', q.up (by omega)⟩
  · exact ⟨nt, nw, tm, hi.up (by omega)⟩
theorem kp_pass {y : yT} {B : Nat} {a : Int32} (h : kY y B) (hB : B < 1000000000) : kY (sPass y a).2 (B + 5000) := by
  obtain ⟨nt, nw, tm, hi⟩ := h
  unfold sPass
  by_cases hb : a < 1 ∨ 999 < a
  · rw [if_pos hb]
    exact ⟨nt, nw, tm, hi.up (by omega)⟩
  · rw [if_neg hb]
    have h0 : ¬ a < 0 := fun q => hb (Or.inl (Int32.lt_of_lt_of_le q (by decide)))
    obtain ⟨n, hn, e⟩ := nI_of2 (M := 999) (n := 999) (by decide) h0 (Int32.not_lt.mp (fun q => hb (Or.inr q)))
    have := hi.tmB
    dsimp only
    rw [hi.htm, e, q_add]
    exact ⟨nt, nw, tm + n, iY_ctm (hi.up (by omega)) (by omega)⟩
