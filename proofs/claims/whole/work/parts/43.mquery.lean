def atI (d : List Nat) (b : Int32) : Int32 := if b < 0 then -6 else atN d b.toNatClampNeg
def qAt (y : yT) (a b : Int32) : Int32 := if a = -6 then atI (y.2.1 8) b else if isT y a = true then atI (y.2.1 a.toNatClampNeg) b else -1
theorem k_at {nt nw tm B : Nat} {a b : Int32} {y : yT} {μ : mT} (h : cY μ 0 y) (hi : iY y nt nw tm B) : f_X7_at a b μ = some (qAt y a b, μ) := by
  have key : ∀ r, r < 9 → f_X5_wagonAt 0 (nI r) b μ = some (atI (y.2.1 r) b, μ) := fun r hr => by
    unfold atI
    by_cases hb : b < 0
    · rw [if_pos hb, k_wagonAt_neg hb]
    · obtain ⟨p, hp, rfl⟩ := nI_of hb
      rw [if_neg hb, q_cl hp, k_wagonAt hr (h.2.1 r hr) (hi.rOK r hr).1 hp]
  unfold f_X7_at qAt
  by_cases c : a = -6
  · rw [if_pos c, if_pos c, z_l8, key 8 (by omega), q_bd]
  · rw [if_neg c, if_neg c, k_hasTrack h.1, q_bd]
    by_cases ht : isT y a = true
    · obtain ⟨t, ht1, rfl⟩ := isT_in hi.hnt hi.nt8 ht
      have hn8 := hi.nt8
      rw [if_pos ht, if_pos ht, if_neg n10, key t (by omega), q_bd, q_cl (by omega)]
    · rw [if_neg ht, if_neg ht, if_pos p00]
theorem m_at {nt nw tm B : Nat} {a b : Int32} {y : yT} {μ : mT} (h : mY (μ 28 0) y) (hi : iY y nt nw tm B) : f_X8_at a b μ = some (qAt y a b, μ) := by
  have hn8 := hi.nt8
  have hrng : ∀ (r : Nat), r < 9 → (if b < 0 ∨ nI (y.2.1 r).length - 1 < b then (0 : Int32) else 1) = if b < 0 ∨ (y.2.1 r)[b.toNatClampNeg]? = none then 0 else 1 := fun r hr => by
    have hl := (hi.rOK r hr).1
    have := m_isIx (a := b) (n := (y.2.1 r).length) (by omega)
    have e2 : (b < 0 ∨ (y.2.1 r)[b.toNatClampNeg]? = none) ↔ tIx (y.2.1 r).length b = none := by
      unfold tIx
      by_cases hb : b < 0
      · rw [if_pos hb]; exact ⟨fun _ => rfl, fun _ => Or.inl hb⟩
      · rw [if_neg hb, List.getElem?_eq_none_iff]
        by_cases q : b.toNatClampNeg < (y.2.1 r).length
        · rw [if_pos q]; exact ⟨fun z => z.elim (fun z => absurd z hb) (fun z => by omega), fun z => by cases z⟩
        · rw [if_neg q]; exact ⟨fun _ => rfl, fun _ => Or.inr (by omega)⟩
    by_cases c : b < 0 ∨ nI (y.2.1 r).length - 1 < b
    · rw [if_pos c, if_pos (e2.mpr (this.mp c))]
    · rw [if_neg c, if_neg (fun z => c (this.mpr (e2.mp z)))]
  have cell : ∀ (r : Nat) (i : Int32), r < 9 → ¬ (b < 0 ∨ (y.2.1 r)[b.toNatClampNeg]? = none) → i = nI (60 + 30 * r) → gd (inb (i + b) 560) (some (μ 28 0 (i + b).toNatClampNeg, μ)) = some (atI (y.2.1 r) b, μ) := fun r i hr hb e => by
    subst e
    obtain ⟨p, hp, rfl⟩ := nI_of (fun q => hb (Or.inl q))
    have hl := (hi.rOK r hr).1
    rw [q_cl hp] at hb
    have hpl : p < (y.2.1 r).length := by
      rcases Nat.lt_or_ge p (y.2.1 r).length with q | q
      · exact q
      · exact absurd (Or.inr (List.getElem?_eq_none q)) hb
    unfold atI atN
    rw [if_neg (nI_pos hp), q_cl hp, q_add, q_gdi (by omega) (by omega), q_cl (by omega), List.getElem?_eq_getElem hpl, (h.2.1 r hr).2 p _ (List.getElem?_eq_getElem hpl)]
  have out : ∀ (r : Nat), (b < 0 ∨ (y.2.1 r)[b.toNatClampNeg]? = none) → atI (y.2.1 r) b = -6 := fun r hb => by
    unfold atI atN
    by_cases c : b < 0
    · rw [if_pos c]
    · rw [if_neg c, hb.resolve_left c]
  unfold f_X8_at qAt
  rw [q_lt]
  by_cases c : a = -6
  · rw [if_pos c, if_pos c]
    dsimp only
    rw [if_neg (show ¬ (0 : Int32) ≤ a from by rw [c]; decide)]
    have e9 : μ 28 0 (9 : Int32).toNatClampNeg = nI (y.2.1 8).length := h.2.1.n8
    rw [e9, m_in, q_bd, hrng 8 (by omega)]
    by_cases hb : b < 0 ∨ (y.2.1 8)[b.toNatClampNeg]? = none
    · rw [if_pos hb, if_pos p00, out 8 hb]
    · rw [if_neg hb, if_neg n10, cell 8 300 (by omega) hb rfl]
  · rw [if_neg c, if_neg c, m_isTrack h hi.hnt hi.nt8, q_bd]
    by_cases ht : isT y a = true
    · obtain ⟨t, ht1, rfl⟩ := isT_in hi.hnt hi.nt8 ht
      rw [if_pos ht, if_pos ht, if_neg n10]
      dsimp only
      rw [if_pos (nI_pos' (by omega)), m_manyOn h (by omega), q_bd, m_in, q_bd, hrng t (by omega), q_cl (by omega)]
      by_cases hb : b < 0 ∨ (y.2.1 t)[b.toNatClampNeg]? = none
      · rw [if_pos hb, if_pos p00, out t hb]
      · rw [if_neg hb, if_neg n10, cell t (60 + 30 * nI t) (by omega) hb (by rw [z_l60, z_l30, q_mul, q_add])]
    · rw [if_neg ht, if_neg ht, if_pos p00]
theorem m_ofTrack {nt nw tm B : Nat} {a b : Int32} {y : yT} {μ : mT} (h : mY (μ 28 0) y) (hi : iY y nt nw tm B) : f_X8_ofTrack a b μ = some (qTrack y a b, μ) := by
  unfold f_X8_ofTrack qTrack
  rw [m_isTrack h hi.hnt hi.nt8, q_bd]
  by_cases ht : isT y a = true
  · obtain ⟨t, ht1, rfl⟩ := isT_in hi.hnt hi.nt8 ht
    have hn8 := hi.nt8
    rw [if_pos ht, if_pos ht, if_neg n10, q_cl (by omega), m_lengthOn h hi.rOK (by omega), q_bd]
    have e20 : (20 : Int32) + 4 * nI t = nI (20 + 4 * t) := by rw [z_l20, z_l4, q_mul, q_add]
    rw [e20]
    by_cases c0 : b = 0
    · rw [if_pos c0, if_pos c0, c0, Int32.add_zero, q_gdi (by omega) (by omega), q_cl (by omega), h.1.t1 (by omega)]
    rw [if_neg c0, if_neg c0]
    by_cases c1 : b = 1
    · rw [if_pos c1, if_pos c1, c1, show nI (20 + 4 * t) + 1 = nI (20 + 4 * t + 1) from nI_1 _, q_gdi (by omega) (by omega), q_cl (by omega), h.2.1.n (by omega)]
    rw [if_neg c1, if_neg c1]
    by_cases c2 : b = 2
    · rw [if_pos c2, if_pos c2]
    rw [if_neg c2, if_neg c2]
    by_cases c3 : b = 3
    · rw [if_pos c3, if_pos c3, c3, show nI (20 + 4 * t) + 3 - 1 = nI (20 + 4 * t + 2) from by rw [z_l3, z_l1, q_add, q_sub (by omega)]; rfl, q_gdi (by omega) (by omega), q_cl (by omega), h.1.t2 (by omega)]
    rw [if_neg c3, if_neg c3]
    by_cases c4 : b = 4
    · rw [if_pos c4, if_pos c4, c4, show nI (20 + 4 * t) + 4 - 1 = nI (20 + 4 * t + 3) from by rw [z_l4, z_l1, q_add, q_sub (by omega)]; rfl, q_gdi (by omega) (by omega), q_cl (by omega), h.1.t3 (by omega)]
    rw [if_neg c4, if_neg c4]
  · rw [if_neg ht, if_neg ht, if_pos p00]
theorem m_freeFrom {nt nw tm B : Nat} {a : Int32} {y : yT} {μ : mT} (h : mY (μ 28 0) y) (hi : iY y nt nw tm B) : f_X8_freeFrom a μ = some (if a < 1 ∨ 500 < a then -2 else free a y.2.2.1 (y.1 0 6), μ) := by
  unfold f_X8_freeFrom
  rw [m_in, q_bd]
  have e6 : μ 28 0 (6 : Int32).toNatClampNeg = y.1 0 6 := h.1.z (k := 6) (by omega)
  by_cases c : a < 1 ∨ 500 < a
  · rw [if_pos c, if_pos c, if_pos p00]
  · rw [if_neg c, if_neg c, if_neg n10, e6, m_freeAt h hi.bl, q_bd]
theorem k_freeFrom {nt nw tm B : Nat} {a : Int32} {y : yT} {μ : mT} (h : cY μ 0 y) (hi : iY y nt nw tm B) : f_X7_freeFrom a μ = some (if a < 1 ∨ 500 < a then -2 else free a y.2.2.1 (y.1 0 6), μ) := by
  unfold f_X7_freeFrom
  by_cases c1 : a < 1
  · rw [if_pos c1, if_pos (Or.inl c1)]
  · rw [if_neg c1]
    by_cases c2 : a ≤ 500
    · rw [if_pos c2, if_neg (fun z => z.elim c1 (fun z => absurd c2 (Int32.not_le.mpr z))), h.1.minute, k_firstFree h.2.2.1 hi.bl, q_bd]
    · rw [if_neg c2, if_pos (Or.inr (Int32.not_le.mp c2))]
theorem m_ofTrain {nt nw tm B : Nat} {a b : Int32} {y : yT} {μ : mT} (h : mY (μ 28 0) y) (hi : iY y nt nw tm B) : f_X8_ofTrain a b μ = some (qTrain y a b, μ) := by
  have h8 := hi.tok.1
  unfold f_X8_ofTrain qTrain
  rw [m_isTrain h h8, q_bd]
  cases et : tIx y.2.2.2.length a with
  | none => rfl
  | some t =>
    obtain ⟨rfl, htl⟩ := tIx_some et
    obtain ⟨e, he⟩ : ∃ e, y.2.2.2[t]? = some e := ⟨_, List.getElem?_eq_getElem htl⟩
    obtain ⟨o1, o2, o3, o4⟩ := hi.tok.2 t e he
    obtain ⟨f1, f2, f3⟩ := h.2.2.2.2 t e he
    dsimp only
    rw [if_pos (show (some t).isSome = true from rfl), if_neg n10, he]
    dsimp only
    rw [z_l450]
    have e10 : nI 450 + 10 * nI t = nI (450 + 10 * t) := by rw [z_l10, q_mul, q_add]
    have e1 : nI (450 + 10 * t) + 1 = nI (450 + 10 * t + 1) := nI_1 _
    have e2 : nI (450 + 10 * t) + 2 = nI (450 + 10 * t + 2) := by rw [z_l2, q_add]
    rw [e10, q_lt, m_in, q_bd, e1, q_gdi (by omega) (by omega), q_gdi (by omega) (by omega), q_gdi (by omega) (by omega), q_gdi (by omega) (by omega), q_cl (by omega), q_cl (by omega), f1, f2, e2, m_lengths h (450 + 10 * t + 2) e.2 (by omega) f3 o4, q_bd]
    by_cases hb : b < 2 ∨ 9 < b
    · rw [if_pos hb, if_pos p00]
      by_cases c0 : b = 0
      · subst c0
        rfl
      rw [if_neg c0]
      by_cases c1 : b = 1
      · subst c1
        rfl
      rw [if_neg c1]
      by_cases c2 : b = 10
      · subst c2
        rfl
      rw [if_neg c2]
      by_cases hb0 : b < 0
      · rw [if_pos hb0]
      · obtain ⟨k, hk, rfl⟩ := nI_of hb0
        rw [z_l2, z_l9, nI_ltI hk (by omega), nI_ltI (by omega) hk] at hb
        rw [z_l0, nI_eq hk (by omega)] at c0
        rw [z_l1, nI_eq hk (by omega)] at c1
        rw [z_l10, nI_eq hk (by omega)] at c2
        rw [if_neg hb0, z_l10, if_neg (nI_ge (by omega) hk)]
    · rw [if_neg hb, if_neg n10]
      have hb0 : ¬ b < 0 := fun q => hb (Or.inl (Int32.lt_of_lt_of_le q (by decide)))
      obtain ⟨k, hk, rfl⟩ := nI_of hb0
      rw [z_l2, z_l9, nI_ltI hk (by omega), nI_ltI (by omega) hk] at hb
      rw [if_neg hb0, z_l2, q_sub (by omega), q_add, q_gdi (by omega) (by omega), q_cl (by omega), q_cl (by omega), z_l0, z_l1, z_l10, if_pos (show nI k ≤ nI 10 from nI_le (by omega) (by omega)), if_neg (show ¬ nI k = nI 0 from by rw [nI_eq hk (by omega)]; omega), if_neg (show ¬ nI k = nI 1 from by rw [nI_eq hk (by omega)]; omega), if_neg (show ¬ nI k = nI 10 from by rw [nI_eq hk (by omega)]; omega)]
      unfold atN
      by_cases q : k - 2 < e.2.length
      · rw [if_neg (nI_ge q (by omega)), List.getElem?_eq_getElem q]
        have := f3 (k - 2) _ (List.getElem?_eq_getElem q)
        rw [show 450 + 10 * t + 2 + (k - 2) = 450 + 10 * t + k by omega] at this
        rw [this]
      · rw [if_pos (nI_le (by omega) (by omega)), List.getElem?_eq_none (by omega)]
theorem m_count {nt nw tm B : Nat} {a : Int32} {y : yT} {μ : mT} (h : mY (μ 28 0) y) (hi : iY y nt nw tm B) : f_X8_count a μ = some (if a = 13 then μ 27 0 8 else if a = 14 then μ 27 0 4 else qYard y a, μ) := by
  unfold f_X8_count
  rw [m_in, q_bd]
  have e6 : μ 28 0 (6 : Int32).toNatClampNeg = y.1 0 6 := h.1.z (k := 6) (by omega)
  have e7 : μ 28 0 (7 : Int32).toNatClampNeg = y.1 0 7 := h.1.z (k := 7) (by omega)
  have e8 : μ 28 0 (8 : Int32).toNatClampNeg = y.1 0 8 := h.1.z (k := 8) (by omega)
  have e9 : μ 28 0 (9 : Int32).toNatClampNeg = nI (y.2.1 8).length := h.2.1.n8
  have e10 : μ 28 0 (10 : Int32).toNatClampNeg = y.1 0 10 := h.1.z (k := 10) (by omega)
  have e11 : μ 28 0 (11 : Int32).toNatClampNeg = nI y.2.2.2.length := h.2.2.2.1
  have e12 : μ 28 0 (12 : Int32).toNatClampNeg = y.1 0 12 := h.1.z (k := 12) (by omega)
  have e13 : μ 28 0 (13 : Int32).toNatClampNeg = nI y.2.2.1.length := h.2.2.1.1
  have e14 : μ 28 0 14 = y.1 0 14 := h.1.z (k := 14) (by omega)
  have e15 : μ 28 0 15 = y.1 0 15 := h.1.z (k := 15) (by omega)
  have e16 : μ 28 0 16 = y.1 0 16 := h.1.z (k := 16) (by omega)
  have e17 : μ 28 0 17 = y.1 0 17 := h.1.z (k := 17) (by omega)
  by_cases hb : a < 15 ∨ 20 < a
  · rw [if_pos hb, if_pos p00, e6, e7, e8, e9, e10, e11, e12, e13, m_lengthAtEngine h hi.rOK, q_bd]
    unfold qYard
    by_cases c0 : a = 0
    · subst c0; rfl
    rw [if_neg c0, if_neg c0]
    by_cases c1 : a = 1
    · subst c1; rfl
    rw [if_neg c1, if_neg c1]
    by_cases c2 : a = 2
    · subst c2; rfl
    rw [if_neg c2, if_neg c2]
    by_cases c3 : a = 3
    · subst c3; rfl
    rw [if_neg c3, if_neg c3]
    by_cases c4 : a = 4
    · subst c4; rfl
    rw [if_neg c4, if_neg c4]
    by_cases c5 : a = 5
    · subst c5; rfl
    rw [if_neg c5, if_neg c5]
    by_cases c6 : a = 6
    · subst c6; rfl
    rw [if_neg c6, if_neg c6]
    by_cases c7 : a = 7
    · subst c7; rfl
    rw [if_neg c7, if_neg c7]
    by_cases c8 : a = 8
    · subst c8; rfl
    rw [if_neg c8, if_neg c8]
    by_cases c9 : a = 9
    · subst c9
      show gd (inb (14 + 9 - 9) 560) (some (μ 28 0 14, μ)) = some (y.1 0 14, μ)
      rw [q_gd (by decide), e14]
    rw [if_neg c9, if_neg c9]
    by_cases c10 : a = 10
    · subst c10
      show gd (inb (14 + 10 - 9) 560) (some (μ 28 0 15, μ)) = some (y.1 0 15, μ)
      rw [q_gd (by decide), e15]
    rw [if_neg c10, if_neg c10]
    by_cases c11 : a = 11
    · subst c11
      show gd (inb (14 + 11 - 9) 560) (some (μ 28 0 16, μ)) = some (y.1 0 16, μ)
      rw [q_gd (by decide), e16]
    rw [if_neg c11, if_neg c11]
    by_cases c12 : a = 12
    · subst c12
      show gd (inb (14 + 12 - 9) 560) (some (μ 28 0 17, μ)) = some (y.1 0 17, μ)
      rw [q_gd (by decide), e17]
    rw [if_neg c12, if_neg c12]
    by_cases c13 : a = 13
    · rw [if_pos c13, if_pos c13]
    rw [if_neg c13, if_neg c13]
    by_cases c14 : a = 14
    · rw [if_pos c14, if_pos c14]
    rw [if_neg c14, if_neg c14]
    by_cases q : a < 15
    · rw [if_pos q]
    · rw [if_neg q, if_pos (show (21 : Int32) ≤ a from (lt_le1 (a := 20) (b := 21) rfl (by omega)).mp (hb.resolve_left q))]
  · rw [if_neg hb, if_neg n10]
    have h0 : ¬ a < 0 := fun q => hb (Or.inl (Int32.lt_of_lt_of_le q (by decide)))
    obtain ⟨k, hk, rfl⟩ := nI_of h0
    have hb' : ¬ (nI k < nI 15 ∨ nI 20 < nI k) := hb
    rw [nI_ltI hk (by omega), nI_ltI (by omega) hk] at hb'
    rw [z_l15, q_sub (by omega), q_gdi (by omega) (by omega), q_cl (by omega), h.1.z (k := k - 15) (by omega)]
    rcases (show k = 15 ∨ k = 16 ∨ k = 17 ∨ k = 18 ∨ k = 19 ∨ k = 20 by omega) with rfl | rfl | rfl | rfl | rfl | rfl <;> rfl
