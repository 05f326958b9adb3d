theorem kY_id {y : yT} {nt nw tm B : Nat} (h : kY y B) (hB : B < 2000000000) (h7 : y.1 0 7 = nI nt) (h7' : nt ≤ 8) (h8 : y.1 0 8 = nI nw) (h8' : nw ≤ 30) (h6 : y.1 0 6 = nI tm) (h6' : tm < 2147483648) : iY y nt nw tm B := by
  obtain ⟨nt', nw', tm', hi⟩ := h
  have e1 : nt' = nt := nI_inj (by have := hi.nt8; omega) (by omega) (hi.hnt.symm.trans h7)
  have e2 : nw' = nw := nI_inj (by have := hi.nw30; omega) (by omega) (hi.hnw.symm.trans h8)
  have e3 : tm' = tm := nI_inj (by have := hi.tmB; omega) (by omega) (hi.htm.symm.trans h6)
  subst e1
  subst e2
  subst e3
  exact hi
theorem ssum_nat {f : Nat → Int32} : ∀ {l : List Nat}, (∀ w ∈ l, ∃ a, 1 ≤ a ∧ a ≤ 4 ∧ f w = nI a) → ∃ S, S ≤ 4 * l.length ∧ ssum f l = nI S
  | [], _ => ⟨0, Nat.zero_le _, rfl⟩
  | w :: l, h => by
    obtain ⟨S, h1, h2⟩ := ssum_nat (l := l) (fun x hx => h x (List.mem_cons_of_mem _ hx))
    obtain ⟨a, -, h3, h4⟩ := h w List.mem_cons_self
    refine ⟨a + S, by rw [List.length_cons]; omega, ?_⟩
    show f w + ssum f l = _
    rw [h2, h4, nI_add]
theorem ssum_drop {y : yT} {nt nw tm B t n : Nat} (hi : iY y nt nw tm B) (he : pE y nw tm) (ht : t < 8) : ¬ y.1 1 t < ssum (y.1 4) ((y.2.1 t).drop n) := by
  have hl := (hi.rOK t (by omega)).1
  have hw : ∀ w ∈ y.2.1 t, ∃ a, 1 ≤ a ∧ a ≤ 4 ∧ y.1 4 w = nI a := fun w hw => he.2.1 w (w30 hi (by omega) hw)
  obtain ⟨S1, a1, a2⟩ := ssum_nat (f := y.1 4) (l := (y.2.1 t).take n) (fun w h => hw w (List.mem_of_mem_take h))
  obtain ⟨S2, b1, b2⟩ := ssum_nat (f := y.1 4) (l := (y.2.1 t).drop n) (fun w h => hw w (List.mem_of_mem_drop h))
  rw [List.length_take] at a1
  rw [List.length_drop] at b1
  have h := he.2.2.1 t ht
  rw [← List.take_append_drop n (y.2.1 t), ssum_app, a2, b2, nI_add] at h
  rw [b2]
  intro z
  exact h (Int32.lt_of_lt_of_le z (nI_le (by omega) (by omega)))
/-- only what pE does not speak of is changed, wagons stay on the whole where they are -/
theorem pE_of {y y' : yT} {nw tm tm' : Nat} (he : pE y nw tm) (h0 : ∀ k, k = 2 ∨ k = 3 ∨ k = 4 ∨ k = 10 → y'.1 0 k = y.1 0 k) (h1 : y'.1 1 = y.1 1) (h4 : y'.1 4 = y.1 4) (h5 : y'.1 5 = y.1 5) (hT : tot y'.2.1 = tot y.2.1) (hr : ∀ r w, r < 9 → w ∈ y.2.1 r → ∃ r', r' < 9 ∧ w ∈ y'.2.1 r') (hs : ∀ t, t < 8 → ¬ y.1 1 t < ssum (y.1 4) (y'.2.1 t)) (hm : tm ≤ tm') : pE y' nw tm' := by
  obtain ⟨⟨⟨c, c1, c2⟩, a2, a3⟩, b, d, e, f⟩ := he
  refine ⟨⟨⟨c, c1, (h0 3 (by omega)).trans c2⟩, (h0 2 (by omega)).trans a2, (h0 4 (by omega)).trans a3⟩, fun w hw => ?_, fun t ht => ?_, ?_, fun w hw hn => ?_⟩
  · rw [h4]; exact b w hw
  · rw [h1, h4]; exact hs t ht
  · rw [h0 10 (by omega), hT]; exact e
  · obtain ⟨a, x1, x2⟩ := f w hw (fun r hr' hm' => by
      obtain ⟨r', z1, z2⟩ := hr r w hr' hm'
      exact hn r' z1 z2)
    exact ⟨a, by omega, by rw [h5]; exact x2⟩
/-- how long a move takes, and when it begins -/
theorem mv_nat {y : yT} {nt nw tm B a j : Nat} {m jn : Int32} (hi : iY y nt nw tm B) (hB : B < 1000000000) (ha : a ≤ 1000) (hm : m = nI a) (hj : j ≤ 2) (hjn : jn = nI j) : ∃ T W, tm ≤ T ∧ T ≤ B ∧ W ≤ 3000 ∧ a ≤ W ∧ mvf y m jn = nI T ∧ mvw y m jn = nI W ∧ (mvm y m jn).1 0 6 = nI (T + W) := by
  obtain ⟨c, c1, c2⟩ := hi.2.1 3 (by omega)
  have hW : mvw y m jn = nI (a + j * c) := by
    unfold mvw
    rw [hm, hjn, c2, q_mul, q_add]
  have hjc : j * c ≤ 2 * 1000 := Nat.mul_le_mul hj c1
  obtain ⟨T, t1, t2, t3⟩ := free_bd (m := mvw y m jn) (B := B) (by omega) hi.bends hi.tmB
  have hT : mvf y m jn = nI T := by
    unfold mvf
    rw [hi.htm, t3]
  refine ⟨T, a + j * c, t1, t2, by omega, by omega, hT, hW, ?_⟩
  unfold mvm ctm
  dsimp only
  rw [sU_s, hT, hW, q_add]
theorem mvm_s {y : yT} {m jn : Int32} {a k : Nat} (h : ¬ (a = 0 ∧ (k = 6 ∨ k = 14 ∨ k = 15 ∨ k = 16))) : (mvm y m jn).1 a k = y.1 a k := by
  unfold mvm ctm
  dsimp only
  rw [sU_n (by omega), sU_n (by omega), sU_n (by omega), sU_n (by omega)]
theorem mvm_f {y : yT} {m jn : Int32} {a : Nat} (h : a ≠ 0) : (mvm y m jn).1 a = y.1 a := funext fun k => mvm_s (fun z => h z.1)
theorem mvm_r {y : yT} {m jn : Int32} : (mvm y m jn).2.1 = y.2.1 := rfl
theorem mvm_14 {y : yT} {m jn : Int32} : (mvm y m jn).1 0 14 = y.1 0 14 + jn := by
  unfold mvm ctm
  dsimp only
  rw [sU_n (by omega), sU_n (by omega), sU_s]
theorem mvm_15 {y : yT} {m jn : Int32} : (mvm y m jn).1 0 15 = y.1 0 15 + 1 := by
  unfold mvm ctm
  dsimp only
  rw [sU_n (by omega), sU_s]
theorem mvm_16 {y : yT} {m jn : Int32} : (mvm y m jn).1 0 16 = y.1 0 16 + (mvf y m jn - y.1 0 6) := by
  unfold mvm ctm
  dsimp only
  rw [sU_n (by omega), sU_n (by omega), sU_n (by omega), sU_s]
theorem mvm_6 {y : yT} {m jn : Int32} : (mvm y m jn).1 0 6 = mvf y m jn + mvw y m jn := by
  unfold mvm ctm
  dsimp only
  rw [sU_s]
theorem tot_cons {rw : Nat → List Nat} {t w : Nat} (ht : t < 8) : tot (fun r => if r = t then w :: rw r else rw r) = tot rw + 1 := by
  unfold tot
  rcases (show t = 0 ∨ t = 1 ∨ t = 2 ∨ t = 3 ∨ t = 4 ∨ t = 5 ∨ t = 6 ∨ t = 7 by omega) with rfl | rfl | rfl | rfl | rfl | rfl | rfl | rfl <;> simp <;> omega
/-- a wagon more -/
theorem pE_wagon {y : yT} {nt nw tm B t b : Nat} (hi : iY y nt nw tm B) (he : pE y nw tm) (ht : t < 8) (hb : 1 ≤ b ∧ b ≤ 4) (hf : ¬ y.1 1 t < ssum (y.1 4) (y.2.1 t) + nI b) :
    pE (sU (sU (sU y.1 0 8 (y.1 0 8 + 1)) 4 nw (nI b)) 5 nw (-6), fun r => if r = t then nw :: y.2.1 r else y.2.1 r, y.2.2) (nw + 1) tm := by
  obtain ⟨⟨⟨c, c1, c2⟩, a2, a3⟩, b1, d, e, f⟩ := he
  have s0 : ∀ k, k ≠ 8 → sU (sU (sU y.1 0 8 (y.1 0 8 + 1)) 4 nw (nI b)) 5 nw (-6) 0 k = y.1 0 k := fun k hk => by
    rw [sU_n (by omega), sU_n (by omega), sU_n (by omega)]
  have s4 : ∀ w, w ≠ nw → sU (sU (sU y.1 0 8 (y.1 0 8 + 1)) 4 nw (nI b)) 5 nw (-6) 4 w = y.1 4 w := fun w hw => by
    rw [sU_n (by omega), sU_n (by omega), sU_n (by omega)]
  have s4n : sU (sU (sU y.1 0 8 (y.1 0 8 + 1)) 4 nw (nI b)) 5 nw (-6) 4 nw = nI b := by
    rw [sU_n (by omega), sU_s]
  have hss : ∀ r, r < 9 → ssum (sU (sU (sU y.1 0 8 (y.1 0 8 + 1)) 4 nw (nI b)) 5 nw (-6) 4) (y.2.1 r) = ssum (y.1 4) (y.2.1 r) := fun r hr => ssum_cong (fun w hw => s4 w (by
    have := w30 hi hr hw
    omega))
  have hT := hi.totn
  refine ⟨⟨⟨c, c1, (s0 3 (by omega)).trans c2⟩, (s0 2 (by omega)).trans a2, (s0 4 (by omega)).trans a3⟩, fun w hw => ?_, fun r hr => ?_, ?_, fun w hw hn => ?_⟩
  · dsimp only
    by_cases q : w = nw
    · rw [q, s4n]
      exact ⟨b, hb.1, hb.2, rfl⟩
    · rw [s4 w q]
      exact b1 w (by omega)
  · dsimp only
    rw [show sU (sU (sU y.1 0 8 (y.1 0 8 + 1)) 4 nw (nI b)) 5 nw (-6) 1 r = y.1 1 r by rw [sU_n (by omega), sU_n (by omega), sU_n (by omega)]]
    by_cases q : r = t
    · subst q
      rw [if_pos rfl]
      show ¬ _ < _ + ssum _ _
      rw [s4n, hss r (by omega), Int32.add_comm]
      exact hf
    · rw [if_neg q, hss r (by omega)]
      exact d r hr
  · dsimp only
    rw [s0 10 (by omega), tot_cons ht, e]
    congr 1
    omega
  · dsimp only at hn ⊢
    have hne : w ≠ nw := fun q => hn t (by omega) (by rw [if_pos rfl, q]; exact List.mem_cons_self)
    rw [sU_n (by omega), sU_n (by omega), sU_n (by omega)]
    refine f w (by omega) (fun r hr hm => hn r hr ?_)
    by_cases q : r = t
    · rw [if_pos q]; exact List.mem_cons_of_mem _ hm
    · rw [if_neg q]; exact hm
