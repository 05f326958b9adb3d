theorem q_m1 {a : Nat} (h : 1 ≤ a) : nI a + -1 = nI (a - 1) := by
  rw [← q_sub h, Int32.sub_eq_add_neg]
  rfl
theorem m_sb1 {t m were : Nat} {ρ : Nat → Int32} (ht : t < 8) (hst : were + m ≤ 30) : ∀ (d f : Nat) (μ : mT), d ≤ were → d < f → (∀ x, μ 28 0 x = if 60 + 30 * t + m + d ≤ x ∧ x < 60 + 30 * t + m + were then ρ (x - m) else ρ x) →
    ∃ μ', (∀ v2 K, f_X8_setBack_L21 (nI t) (nI m) (nI (60 + 30 * t)) v2 K f (nI d - 1) μ = K μ') ∧ (∀ x, μ' 28 0 x = if 60 + 30 * t + m ≤ x ∧ x < 60 + 30 * t + m + were then ρ (x - m) else ρ x) ∧ only μ μ' Mo := by
  intro d
  induction d with
  | zero =>
    intro f μ hi hf hx
    obtain ⟨f, rfl⟩ : ∃ n', f = n' + 1 := ⟨f - 1, by omega⟩
    refine ⟨μ, ?_, hx, only.rf⟩
    intro v2 K
    rw [f_X8_setBack_L21, if_pos (by decide)]
  | succ d ih =>
    intro f μ hi hf hx
    obtain ⟨f, rfl⟩ : ∃ n', f = n' + 1 := ⟨f - 1, by omega⟩
    have ed : nI (d + 1) - 1 = nI d := by rw [z_l1, q_sub (by omega)]; rfl
    have er : μ 28 0 (60 + 30 * t + d) = ρ (60 + 30 * t + d) := by rw [hx, if_neg (by omega)]
    have hstep : ∀ v2 K, f_X8_setBack_L21 (nI t) (nI m) (nI (60 + 30 * t)) v2 K (f + 1) (nI (d + 1) - 1) μ = f_X8_setBack_L21 (nI t) (nI m) (nI (60 + 30 * t)) v2 K f (nI d - 1) (upM μ 28 0 (60 + 30 * t + d + m) (ρ (60 + 30 * t + d))) := by
      intro v2 K
      rw [show nI d - 1 = nI d + -1 from Int32.sub_eq_add_neg (nI d) 1, ed, f_X8_setBack_L21, if_neg (nI_pos (by omega))]
      simp (disch := omega) only [q_add, q_gdi, q_cl, q_lt, er]
    simp only [hstep]
    obtain ⟨μ', g1, g2, g3⟩ := ih f (upM μ 28 0 (60 + 30 * t + d + m) (ρ (60 + 30 * t + d))) (by omega) (by omega) (fun x => by
      rw [r28, upd_e, hx]
      by_cases c : x = 60 + 30 * t + d + m
      · subst c
        rw [if_pos rfl, if_pos (by omega), show 60 + 30 * t + d + m - m = 60 + 30 * t + d by omega]
      · rw [if_neg c]
        by_cases c2 : 60 + 30 * t + m + (d + 1) ≤ x ∧ x < 60 + 30 * t + m + were
        · rw [if_pos c2, if_pos (by omega)]
        · rw [if_neg c2, if_neg (by omega)])
    exact ⟨μ', g1, g2, (only28 rfl).tr g3⟩
theorem m_sb2 {t m ae : Nat} {ρ : Nat → Int32} (ht : t < 8) (hae : ae + m ≤ 30) (hm : m ≤ 30) (h9 : ρ 9 = nI ae) : ∀ (d f i : Nat) (μ : mT), i + d = m → d < f → (∀ x, μ 28 0 x = if 60 + 30 * t ≤ x ∧ x < 60 + 30 * t + i then ρ (300 + ae + (x - (60 + 30 * t))) else ρ x) →
    ∃ μ', (∀ v2 K, f_X8_setBack_L66 (nI t) (nI m) (nI (60 + 30 * t)) v2 K f (nI i) μ = K μ') ∧ (∀ x, μ' 28 0 x = if 60 + 30 * t ≤ x ∧ x < 60 + 30 * t + m then ρ (300 + ae + (x - (60 + 30 * t))) else ρ x) ∧ only μ μ' Mo := by
  intro d
  induction d with
  | zero =>
    intro f i μ hi hf hx
    obtain ⟨f, rfl⟩ : ∃ n', f = n' + 1 := ⟨f - 1, by omega⟩
    refine ⟨μ, ?_, ?_, only.rf⟩
    · intro v2 K
      rw [f_X8_setBack_L66, if_pos (nI_le (by omega) (by omega))]
    · rw [show m = i by omega]
      exact hx
  | succ d ih =>
    intro f i μ hi hf hx
    obtain ⟨f, rfl⟩ : ∃ n', f = n' + 1 := ⟨f - 1, by omega⟩
    have e9 : μ 28 0 (9 : Int32).toNatClampNeg = nI ae := by
      show μ 28 0 9 = _
      rw [hx, if_neg (by omega), h9]
    have er : μ 28 0 (300 + ae + i) = ρ (300 + ae + i) := by rw [hx, if_neg (by omega)]
    have hstep : ∀ v2 K, f_X8_setBack_L66 (nI t) (nI m) (nI (60 + 30 * t)) v2 K (f + 1) (nI i) μ = f_X8_setBack_L66 (nI t) (nI m) (nI (60 + 30 * t)) v2 K f (nI (i + 1)) (upM μ 28 0 (60 + 30 * t + i) (ρ (300 + ae + i))) := by
      intro v2 K
      rw [f_X8_setBack_L66, if_neg (nI_ge (by omega) (by omega)), e9]
      simp (disch := omega) only [z_l300, z_l1, q_add, q_gdi, q_cl, q_lt, er]
    simp only [hstep]
    obtain ⟨μ', g1, g2, g3⟩ := ih f (i + 1) (upM μ 28 0 (60 + 30 * t + i) (ρ (300 + ae + i))) (by omega) (by omega) (fun x => by
      rw [r28, upd_e, hx]
      by_cases c : x = 60 + 30 * t + i
      · subst c
        rw [if_pos rfl, if_pos (by omega), show 60 + 30 * t + i - (60 + 30 * t) = i by omega]
      · rw [if_neg c]
        by_cases c2 : 60 + 30 * t ≤ x ∧ x < 60 + 30 * t + i
        · rw [if_pos c2, if_pos (by omega)]
        · rw [if_neg c2, if_neg (by omega)])
    exact ⟨μ', g1, g2, (only28 rfl).tr g3⟩
theorem m_setBack {t n : Nat} {y : yT} {μ : mT} (h : mY (μ 28 0) y) (hg : gY y) (ht : t < 8) (hn : n ≤ (y.2.1 8).length) :
    ∃ μ', f_X8_setBack (nI t) (nI n) μ = some (jB y t, μ') ∧ mY (μ' 28 0) (sBk y t n) ∧ only μ μ' Mo := by
  obtain ⟨ho, hD, hT, hl10, hk⟩ := hg
  have h30 := ho t (by omega)
  have h308 := ho 8 (by omega)
  have h82 := tot_two (rw := y.2.1) ht
  obtain ⟨μ1, a1, a2, a3⟩ := m_sb1 (t := t) (m := n) (were := (y.2.1 t).length) (ρ := μ 28 0) ht (by omega) (y.2.1 t).length fu μ (Nat.le_refl _) (by unfold fu; omega) (fun x => by rw [if_neg (by omega)])
  have e9 : μ1 28 0 9 = nI (y.2.1 8).length := by rw [a2, if_neg (by omega)]; exact h.2.1.n8
  obtain ⟨μ2, b1, b2, b3⟩ := m_sb2 (t := t) (m := n) (ae := (y.2.1 8).length - n) (ρ := (upM μ1 28 0 9 (nI ((y.2.1 8).length - n))) 28 0) ht (by omega) (by omega) (by rw [r28]; exact if_pos rfl) n fu 0 (upM μ1 28 0 9 (nI ((y.2.1 8).length - n))) (Nat.zero_add _) (by unfold fu; omega) (fun x => by rw [if_neg (by omega)])
  have hx2 : ∀ x, μ2 28 0 x = if 60 + 30 * t ≤ x ∧ x < 60 + 30 * t + n then μ 28 0 (300 + ((y.2.1 8).length - n) + (x - (60 + 30 * t))) else if x = 9 then nI ((y.2.1 8).length - n) else if 60 + 30 * t + n ≤ x ∧ x < 60 + 30 * t + n + (y.2.1 t).length then μ 28 0 (x - n) else μ 28 0 x := by
    intro x
    rw [b2, r28]
    by_cases c1 : 60 + 30 * t ≤ x ∧ x < 60 + 30 * t + n
    · rw [if_pos c1, if_pos c1, upd_e, if_neg (by omega), a2, if_neg (by omega)]
    · rw [if_neg c1, if_neg c1, upd_e]
      by_cases c2 : x = 9
      · rw [if_pos c2, if_pos c2]
      · rw [if_neg c2, if_neg c2, a2]
  have e3 : μ2 28 0 (20 + 4 * t + 3) = y.1 3 t := by rw [hx2, if_neg (by omega), if_neg (by omega), if_neg (by omega)]; exact h.1.t3 ht
  have e33 : (upM μ2 28 0 (20 + 4 * t + 1) (nI ((y.2.1 t).length + n))) 28 0 (20 + 4 * t + 3) = y.1 3 t := by
    rw [q_up, if_neg (by omega), e3]
  generalize hμ : upM (upM μ2 28 0 (20 + 4 * t + 1) (nI ((y.2.1 t).length + n))) 28 0 (20 + 4 * t + 3) (y.1 3 t + nI n) = μ3
  have hx : ∀ x, μ3 28 0 x = if x = 20 + 4 * t + 3 then y.1 3 t + nI n else if x = 20 + 4 * t + 1 then nI ((y.2.1 t).length + n) else μ2 28 0 x := by
    intro x
    rw [← hμ, r28, upd_e, r28, upd_e]
  have z9 : (9 : Int32).toNatClampNeg = 9 := rfl
  refine ⟨μ3, ?_, ⟨fun a k hd => ?_, fun r hr => ?_, h.2.2.1.cong (fun x hx' => ?_), h.2.2.2.cong hk (fun x hx' => ?_)⟩, ?_⟩
  · rw [z_l1] at a1
    unfold f_X8_setBack
    simp (disch := omega) only [z_l60, z_l30, z_l20, z_l4, z_l3, q_mul, q_add, q_lt, m_manyOn h ht, q_bd, a1, z9, e9, q_sub, z_l0, b1, z_l1, q_gdi, q_cl, e33, hμ]
    unfold jB
    by_cases q : (y.2.1 t).length = 0
    · rw [if_pos q, if_pos (by rw [q]; decide)]
      rfl
    · rw [if_neg q, if_neg (nI_ge (by omega) (by omega))]
  · show _ = sU y.1 3 t (y.1 3 t + nI n) a k
    rw [hx]
    by_cases c : a = 3 ∧ k = t
    · obtain ⟨rfl, rfl⟩ := c
      rw [sU_s, if_pos (show mi 3 k = 20 + 4 * k + 3 from rfl)]
    · rw [sU_n c]
      have hne : ¬ mi a k = 20 + 4 * t + 3 := fun z => c (mi_inj hd (sdt (a := 3) (by omega) ht) z)
      have hm : mi a k < 60 ∨ 330 ≤ mi a k := by unfold mi; unfold sdom at hd; grind (splits := 40)
      have hm1 : ¬ mi a k = 20 + 4 * t + 1 ∧ ¬ mi a k = 9 := by unfold mi; unfold sdom at hd; grind (splits := 40)
      rw [if_neg hne, if_neg hm1.1, hx2, if_neg (by omega), if_neg hm1.2, if_neg (by omega)]
      exact h.1 a k hd
  · show μ3 28 0 (rc r) = nI (rwB y.2.1 t n r).length ∧ ∀ p w, (rwB y.2.1 t n r)[p]? = some w → μ3 28 0 (60 + 30 * r + p) = nI w
    by_cases c : r = t
    · subst c
      rw [rc_t ht, hx, if_neg (by omega), if_pos rfl, rwB_t, List.length_append, List.length_drop]
      refine ⟨?_, fun p w hp => ?_⟩
      · congr 1
        omega
      · have hpl := (List.getElem?_eq_some_iff.mp hp).1
        rw [List.length_append, List.length_drop] at hpl
        rw [hx, if_neg (by omega), if_neg (by omega), hx2]
        by_cases q : p < n
        · rw [List.getElem?_append_left (by rw [List.length_drop]; omega), List.getElem?_drop] at hp
          rw [if_pos (by omega)]
          have := h.2.1.e8 hp
          rw [show 300 + ((y.2.1 8).length - n) + (60 + 30 * r + p - (60 + 30 * r)) = 300 + ((y.2.1 8).length - n + p) by omega]
          exact this
        · rw [List.getElem?_append_right (by rw [List.length_drop]; omega), List.length_drop] at hp
          rw [if_neg (by omega), if_neg (by omega), if_pos (by omega)]
          rw [show 60 + 30 * r + p - n = 60 + 30 * r + (p - ((y.2.1 8).length - ((y.2.1 8).length - n))) by omega]
          exact (h.2.1 r hr).2 _ w hp
    · by_cases c8 : r = 8
      · subst c8
        rw [rwB_8 ht]
        refine ⟨?_, fun p w hp => ?_⟩
        · rw [show rc 8 = 9 from rfl, hx, if_neg (by omega), if_neg (by omega), hx2, if_neg (by omega), if_pos rfl, List.length_take]
          congr 1
          omega
        · have hpl := (List.getElem?_eq_some_iff.mp hp).1
          rw [List.length_take] at hpl
          rw [List.getElem?_take_of_lt (by omega)] at hp
          rw [hx, if_neg (by omega), if_neg (by omega), hx2, if_neg (by omega), if_neg (by omega), if_neg (by omega)]
          exact (h.2.1 8 hr).2 p w hp
      · have e : rwB y.2.1 t n r = y.2.1 r := by
          unfold rwB
          rw [if_neg c, if_neg c8]
        have hl := (ho r hr).1
        rw [e]
        refine ⟨?_, fun p w hp => ?_⟩
        · rw [rc_t (by omega), hx, if_neg (by omega), if_neg (by omega), hx2, if_neg (by omega), if_neg (by omega), if_neg (by omega)]
          exact h.2.1.n (by omega)
        · have hpl := (List.getElem?_eq_some_iff.mp hp).1
          rw [hx, if_neg (by omega), if_neg (by omega), hx2, if_neg (by omega), if_neg (by omega), if_neg (by omega)]
          exact (h.2.1 r hr).2 p w hp
  · rw [hx, if_neg (by omega), if_neg (by omega), hx2, if_neg (by omega), if_neg (by omega), if_neg (by omega)]
  · rw [hx, if_neg (by omega), if_neg (by omega), hx2, if_neg (by omega), if_neg (by omega), if_neg (by omega)]
  · rw [← hμ]
    exact a3.tr (only.tr (only28 rfl) (b3.tr (only.tr (only28 rfl) (only28 rfl))))
theorem m_turn {l : List Nat} (hl : l.length ≤ 30) : ∀ (d n i : Nat) (μ : mT), i + d = l.length / 2 → d < n → (∀ k, k < l.length → μ 28 0 (300 + k) = nI (turnF l i k)) →
    ∃ μ', f_X8_turnRound_L10 (nI l.length) n (nI i) μ = some (0, μ') ∧ (∀ k, k < l.length → μ' 28 0 (300 + k) = nI (turnF l (l.length / 2) k)) ∧ (∀ x, x < 300 ∨ 300 + l.length ≤ x → μ' 28 0 x = μ 28 0 x) ∧ only μ μ' Mo := by
  intro d
  induction d with
  | zero =>
    intro n i μ hi hd c
    obtain ⟨n, rfl⟩ : ∃ n', n = n' + 1 := ⟨n - 1, by omega⟩
    refine ⟨μ, ?_, fun k hk => ?_, fun _ _ => rfl, only.rf⟩
    · rw [f_X8_turnRound_L10, if_pos]
      rcases Nat.eq_zero_or_pos l.length with e | e
      · rw [e, show i = 0 by omega]
        decide
      · rw [z_l1, z_l2, q_mul, q_sub e]
        exact nI_le (by omega) (by omega)
    · rw [c k hk, show i = l.length / 2 by omega]
  | succ d ih =>
    intro n i μ hi hd c
    obtain ⟨n, rfl⟩ : ∃ n', n = n' + 1 := ⟨n - 1, by omega⟩
    have e1 : nI 300 + nI l.length - nI 1 - nI i = nI (300 + (l.length - 1 - i)) := by
      rw [q_add, q_sub (by omega), q_sub (by omega)]
      congr 1
      omega
    have ca := c i (by omega)
    have cb := c (l.length - 1 - i) (by omega)
    rw [f_X8_turnRound_L10, if_neg (by rw [z_l1, z_l2, q_mul, q_sub (by omega)]; exact nI_ge (by omega) (by omega))]
    simp (disch := omega) only [z_l300, z_l1, e1, q_add, q_gdi, q_cl, q_lt, ca, cb]
    have e1' : nI (300 + l.length) - nI 1 - nI i = nI (300 + (l.length - 1 - i)) := by rw [← q_add]; exact e1
    simp (disch := omega) only [e1', q_gdi, q_cl, cb]
    generalize hμ : upM (upM μ 28 0 (300 + i) (nI (turnF l i (l.length - 1 - i)))) 28 0 (300 + (l.length - 1 - i)) (nI (turnF l i i)) = μ1
    have ho : only μ μ1 Mo := (only28 rfl).tr (only28 hμ.symm)
    have k0 : ∀ x, μ1 28 0 x = if x = 300 + (l.length - 1 - i) then nI (turnF l i i) else if x = 300 + i then nI (turnF l i (l.length - 1 - i)) else μ 28 0 x := by
      intro x
      rw [← hμ, r28, upd_e, r28, upd_e]
    obtain ⟨μ', g1, g2, g3, g4⟩ := ih n (i + 1) μ1 (by omega) (by omega) (fun k hk => by
      rw [k0]
      by_cases e : k = l.length - 1 - i
      · subst e
        rw [if_pos rfl]
        unfold turnF
        rw [if_neg (by omega), if_pos (by omega)]
        congr 2
        omega
      · rw [if_neg (by omega)]
        by_cases e' : k = i
        · subst e'
          rw [if_pos rfl]
          unfold turnF
          rw [if_neg (by omega), if_pos (by omega)]
        · rw [if_neg (by omega), c k hk]
          unfold turnF
          by_cases hh : k < i ∨ l.length ≤ k + i
          · rw [if_pos hh, if_pos (by omega)]
          · rw [if_neg hh, if_neg (by omega)])
    refine ⟨μ', g1, g2, fun x hx => ?_, ho.tr g4⟩
    rw [g3 x hx, k0, if_neg (by omega), if_neg (by omega)]
theorem m_turnRound {y : yT} {μ : mT} (h : mY (μ 28 0) y) (hg : gY y) :
    ∃ μ', f_X8_turnRound μ = some (0, μ') ∧ mY (μ' 28 0) (y.1, rwR y.2.1, y.2.2) ∧ only μ μ' Mo := by
  obtain ⟨ho, hD, hT, hl10, hk⟩ := hg
  have h308 := ho 8 (by omega)
  obtain ⟨μ', g1, g2, g3, g4⟩ := m_turn (l := y.2.1 8) h308.1 ((y.2.1 8).length / 2) fu 0 μ (by omega) (by unfold fu; omega) (fun k hk => by
    rw [h.2.1.e8 (List.getElem?_eq_getElem hk)]
    unfold turnF
    rw [if_neg (by omega), List.getD_eq_getElem?_getD, List.getElem?_eq_getElem hk]
    rfl)
  refine ⟨μ', ?_, ⟨h.1.cong (fun x hx => g3 x (by omega)), fun r hr => ?_, h.2.2.1.cong (fun x hx => g3 x (by omega)), h.2.2.2.cong hk (fun x hx => g3 x (by omega))⟩, g4⟩
  · unfold f_X8_turnRound
    have e9 : μ 28 0 (9 : Int32).toNatClampNeg = nI (y.2.1 8).length := h.2.1.n8
    rw [q_lt, e9, z_l0]
    exact g1
  · show μ' 28 0 (rc r) = nI (rwR y.2.1 r).length ∧ ∀ p w, (rwR y.2.1 r)[p]? = some w → μ' 28 0 (60 + 30 * r + p) = nI w
    rw [rwR_len]
    have hl := (ho r hr).1
    refine ⟨by rw [g3 _ (by unfold rc; split <;> omega)]; exact (h.2.1 r hr).1, fun p w hp => ?_⟩
    unfold rwR at hp
    by_cases e : r = 8
    · subst e
      rw [if_pos rfl] at hp
      have hil := (List.getElem?_eq_some_iff.mp hp).1
      rw [List.length_reverse] at hil
      rw [List.getElem?_reverse hil] at hp
      rw [show 60 + 30 * 8 + p = 300 + p by omega, g2 p hil]
      unfold turnF
      by_cases hh : p < (y.2.1 8).length / 2 ∨ (y.2.1 8).length ≤ p + (y.2.1 8).length / 2
      · rw [if_pos hh, List.getD_eq_getElem?_getD, hp]
        rfl
      · rw [if_neg hh, List.getD_eq_getElem?_getD, show p = (y.2.1 8).length - 1 - p by omega, hp]
        rfl
    · rw [if_neg e] at hp
      have hil := (List.getElem?_eq_some_iff.mp hp).1
      rw [g3 _ (by omega)]
      exact (h.2.1 r hr).2 p w hp
