theorem m_least {k : Nat} (hk : k < 6) {μ : mT} : f_X8_least (nI k) μ = some (cst 40 k, μ) := by
  rcases (show k = 0 ∨ k = 1 ∨ k = 2 ∨ k = 3 ∨ k = 4 ∨ k = 5 by omega) with rfl | rfl | rfl | rfl | rfl | rfl <;> rfl
theorem m_most {k : Nat} (hk : k < 6) {μ : mT} : f_X8_most (nI k) μ = some (cst 41 k, μ) := by
  rcases (show k = 0 ∨ k = 1 ∨ k = 2 ∨ k = 3 ∨ k = 4 ∨ k = 5 by omega) with rfl | rfl | rfl | rfl | rfl | rfl <;> rfl
theorem lt_le1 {a b : Nat} {x : Int32} (hab : b = a + 1) (hb : b < 2147483648) : nI a < x ↔ nI b ≤ x := by
  subst hab
  rw [Int32.lt_iff_toInt_lt, Int32.le_iff_toInt_le, nI_toInt (by omega), nI_toInt (by omega)]
  omega
theorem m_set {nt nw tm B : Nat} {a b : Int32} {y : yT} {hp : hT} {tx : Bool} {μ : mT} (h : hM μ y hp tx) (hi : iY y nt nw tm B) (hf : hF hp) :
    MR μ y hp tx (sSet y a b) (f_X8_set a b μ) := by
  unfold f_X8_set sSet
  rw [m_in, q_bd]
  have H : (a < 0 ∨ (5 : Int32) < a) ↔ (a < 0 ∨ 6 ≤ a) := or_congr Iff.rfl (lt_le1 (a := 5) (b := 6) rfl (by omega))
  by_cases ha : a < 0 ∨ 6 ≤ a
  · rw [if_pos ha, if_pos (H.mpr ha), if_pos p00]
    exact MR.no h _ (by decide)
  · rw [if_neg ha, if_neg (mt H.mp ha), if_neg n10]
    obtain ⟨k, hk, rfl⟩ := nI_of (fun q => ha (Or.inl q))
    have hk6 : k < 6 := by
      rcases Nat.lt_or_ge k 6 with q | q
      · exact q
      · exact absurd (Or.inr (nI_le q hk)) ha
    rw [m_least hk6, q_bd, m_most hk6, q_bd, m_in, q_bd, q_cl hk]
    by_cases hb : b < cst 40 k ∨ cst 41 k < b
    · rw [if_pos hb, if_pos hb, if_pos p00]
      exact MR.no h _ (by decide)
    · rw [if_neg hb, if_neg hb, if_neg n10]
      obtain ⟨μ1, b1, b2, b3, b4⟩ := m_record h hi.g hf
      rw [b1, q_bd, q_gdi (by omega) (by omega), q_lt, q_gdi (by omega) (by omega), q_lt, b2.1.1.z (k := k) (by omega)]
      obtain ⟨v, hv, e⟩ := hi.2.1 k hk6
      refine MR.yes b2 b3 b4 ?_ (only28 rfl) (by rw [e]; exact nI_pos (by omega))
      rw [r28]
      exact b2.1.up hi.g b (sd0 (by omega)) rfl
theorem m_addtrack {nt nw tm B : Nat} {a : Int32} {y : yT} {hp : hT} {tx : Bool} {μ : mT} (h : hM μ y hp tx) (hi : iY y nt nw tm B) (hf : hF hp) :
    MR μ y hp tx (sTrack y a) (f_X8_track a μ) := by
  unfold f_X8_track sTrack
  rw [m_in, q_bd]
  by_cases ha : a < 4 ∨ 60 < a
  · rw [if_pos ha, if_pos ha, if_pos p00]
    exact MR.no h _ (by decide)
  · rw [if_neg ha, if_neg ha, if_neg n10]
    have e7 : μ 28 0 (7 : Int32).toNatClampNeg = nI nt := (h.1.1.z (k := 7) (by omega)).trans hi.hnt
    rw [e7, hi.hnt, z_l8]
    have hn8 := hi.nt8
    by_cases h8 : 8 ≤ nt
    · rw [if_pos (nI_le h8 (by omega)), if_pos (by rw [show nt = 8 by omega])]
      exact MR.no h _ (by decide)
    · rw [if_neg (nI_ge (by omega) (by omega)), if_neg (by rw [nI_eq (by omega) (by omega)]; omega)]
      obtain ⟨μ1, b1, b2, b3, b4⟩ := m_record h hi.g hf
      have f7 : μ1 28 0 (7 : Int32).toNatClampNeg = nI nt := (b2.1.1.z (k := 7) (by omega)).trans hi.hnt
      have h1 := b2.1.up hi.g (a0 := 1) (k0 := nt) (i := 20 + 4 * nt) a (sdt (by omega) (by omega)) rfl
      have g7 : upM μ1 28 0 (20 + 4 * nt) a 28 0 (7 : Int32).toNatClampNeg = nI nt := by
        rw [r28, upd_e, if_neg (by
          show ¬ 7 = _
          omega)]
        exact f7
      have h2 := h1.up (i := 7) hi.g (a0 := 0) (k0 := 7) (nI nt + 1) (sd0 (by omega)) rfl
      rw [q_cl (by omega), b1, q_bd, f7, z_l20, z_l4, q_mul, q_add, q_gdi (by omega) (by omega), q_cl (by omega), q_lt, q_lt, g7]
      have e9 : upM (upM μ1 28 0 (20 + 4 * nt) a) 28 0 (7 : Int32).toNatClampNeg (nI nt + 1) 28 0 (7 : Int32).toNatClampNeg - 1 = nI nt := by
        rw [r28]
        show (if (7 : Nat) = 7 then nI nt + 1 else _) - 1 = _
        rw [if_pos rfl, Int32.add_sub_cancel]
      rw [e9]
      refine MR.yes b2 b3 b4 ?_ ((only28 rfl).tr (only28 rfl)) (nI_pos (by omega))
      rw [r28, r28]
      exact h2
theorem m_block {nt nw tm B : Nat} {a b : Int32} {y : yT} {hp : hT} {tx : Bool} {μ : mT} (h : hM μ y hp tx) (hi : iY y nt nw tm B) (hf : hF hp) :
    MR μ y hp tx (sBlock y a b) (f_X8_block a b μ) := by
  unfold f_X8_block sBlock
  have e6 : μ 28 0 (6 : Int32).toNatClampNeg = y.1 0 6 := h.1.1.z (k := 6) (by omega)
  rw [e6, m_in, q_bd]
  by_cases h1 : a < y.1 0 6 ∨ y.1 0 6 + 2000 < a
  · rw [if_pos (h1.elim Or.inl (fun z => Or.inr (Or.inl z))), if_pos h1, if_pos p00]
    exact MR.no h _ (by decide)
  · rw [if_neg h1, if_neg n10, m_in, q_bd]
    by_cases h2 : b < 1 ∨ 500 < b
    · rw [if_pos (Or.inr (Or.inr h2)), if_pos h2, if_pos p00]
      exact MR.no h _ (by decide)
    · rw [if_neg (fun z => z.elim (fun z => h1 (Or.inl z)) (fun z => z.elim (fun z => h1 (Or.inr z)) h2)), if_neg h2, if_neg n10]
      have hl := hi.bl
      have f13 : μ 28 0 (13 : Int32).toNatClampNeg = nI y.2.2.1.length := h.1.2.2.1.1
      rw [f13, z_l10]
      by_cases h3 : 10 ≤ y.2.2.1.length
      · rw [if_pos h3, if_pos (by rw [show y.2.2.1.length = 10 by omega])]
        exact MR.no h _ (by decide)
      · rw [if_neg h3, if_neg (by rw [nI_eq (by omega) (by omega)]; omega)]
        obtain ⟨μ1, b1, b2, b3, b4⟩ := m_record h hi.g hf
        have g13 : μ1 28 0 (13 : Int32).toNatClampNeg = nI y.2.2.1.length := b2.1.2.2.1.1
        generalize hL : y.2.2.1.length = L at *
        have i13 : (upM μ1 28 0 (530 + 2 * L) a) 28 0 (13 : Int32).toNatClampNeg = nI L := by
          rw [r28, upd_e, if_neg (by show ¬ 13 = _; omega)]; exact g13
        have j13 : (upM (upM μ1 28 0 (530 + 2 * L) a) 28 0 (530 + 2 * L + 1) (a + b)) 28 0 (13 : Int32).toNatClampNeg = nI L := by
          rw [r28, upd_e, if_neg (by show ¬ 13 = _; omega)]; exact i13
        rw [b1, q_bd, g13, z_l530, z_l2, q_mul, q_add, q_gdi (by omega) (by omega), q_cl (by omega), q_lt, i13, q_mul, q_add, z_l1, q_add, q_gdi (by omega) (by omega), q_cl (by omega), q_lt, j13, q_add, q_lt]
        have e9 : (upM (upM (upM μ1 28 0 (530 + 2 * L) a) 28 0 (530 + 2 * L + 1) (a + b)) 28 0 (13 : Int32).toNatClampNeg (nI (L + 1))) 28 0 (13 : Int32).toNatClampNeg = nI (L + 1) := by
          rw [r28]
          exact if_pos rfl
        rw [e9]
        refine MR.yes b2 b3 b4 ?_ ((only28 rfl).tr ((only28 rfl).tr (only28 rfl))) (nI_pos (by omega))
        rw [r28, r28, r28]
        have hx : ∀ x, x < 530 → x ≠ 13 → upd (upd (upd (μ1 28 0) (530 + 2 * L) a) (530 + 2 * L + 1) (a + b)) (13 : Int32).toNatClampNeg (nI (L + 1)) x = μ1 28 0 x := fun x q1 q2 => by
          rw [upd_e, upd_e, upd_e, if_neg (by show ¬ x = 13; exact q2), if_neg (by omega), if_neg (by omega)]
        refine ⟨b2.1.1.cong (fun x q => hx x (by omega) (by omega)), b2.1.2.1.cong hi.rOK (fun x q => hx x (by omega) (by omega)), ⟨?_, fun i c hc => ?_⟩, b2.1.2.2.2.cong hi.tok (fun x q => hx x (by omega) (by omega))⟩
        · rw [upd_e]
          dsimp only
          rw [List.length_append, hL]
          exact if_pos rfl
        · dsimp only at hc
          have hu : ∀ x, x ≠ 13 → upd (upd (upd (μ1 28 0) (530 + 2 * L) a) (530 + 2 * L + 1) (a + b)) (13 : Int32).toNatClampNeg (nI (L + 1)) x = if x = 530 + 2 * L + 1 then a + b else if x = 530 + 2 * L then a else μ1 28 0 x := fun x q => by
            rw [upd_e, if_neg (by show ¬ x = 13; exact q), upd_e, upd_e]
          rw [hu _ (by omega), hu _ (by omega)]
          rcases Nat.lt_trichotomy i L with q | q | q
          · rw [List.getElem?_append_left (by omega)] at hc
            have := b2.1.2.2.1.2 i c hc
            rw [if_neg (by omega), if_neg (by omega), if_neg (by omega), if_neg (by omega)]
            exact this
          · subst q
            rw [List.getElem?_append_right (by omega), show i - y.2.2.1.length = 0 by omega] at hc
            simp at hc
            subst hc
            rw [if_neg (by omega), if_pos rfl, if_pos rfl]
            exact ⟨rfl, rfl⟩
          · rw [List.getElem?_eq_none (by rw [List.length_append]; simp; omega)] at hc
            cases hc
theorem m_strike {nt nw tm B : Nat} {a : Int32} {y : yT} {hp : hT} {tx : Bool} {μ : mT} (h : hM μ y hp tx) (hi : iY y nt nw tm B) (hf : hF hp) :
    MR μ y hp tx (sStrike y a) (f_X8_strike a μ) := by
  unfold f_X8_strike sStrike
  have h8 := hi.tok.1
  rw [m_isTrain h.1 h8, q_bd]
  cases et : tIx y.2.2.2.length a with
  | none => exact MR.no h _ (by decide)
  | some t =>
    obtain ⟨rfl, ht⟩ := tIx_some et
    dsimp only
    rw [if_pos (show (some t).isSome = true from rfl), if_neg n10]
    obtain ⟨μ1, b1, b2, b3, b4⟩ := m_record h hi.g hf
    rw [b1, q_bd]
    obtain ⟨μ2, c1, c2, c3⟩ := m_dropTrain b2.1 hi.g ht
    rw [c1, q_bd]
    have e11 : μ2 28 0 (11 : Int32).toNatClampNeg = nI (y.2.2.2.length - 1) := by
      have := c2.2.2.2.1
      dsimp only at this
      rw [List.length_eraseIdx, if_pos ht] at this
      exact this
    rw [e11]
    exact MR.yes b2 b3 b4 c2 c3 (nI_pos (by omega))
