theorem mY.upm {μ : mT} {y : yT} (h : mY (μ 28 0) y) (hg : gY y) {a0 k0 i : Nat} (x : Int32) (hd : sdom a0 k0) (e : mi a0 k0 = i) : mY (upM μ 28 0 i x 28 0) (sU y.1 a0 k0 x, y.2) := by
  rw [r28]
  exact h.up hg x hd e
theorem sGone_n {s : sT} {l : List Nat} {a k : Nat} (h : a ≠ 5) : sGone s l a k = s a k := if_neg (fun z => h z.1)
theorem sGone_up {s : sT} {l : List Nat} {i w : Nat} (h : l[i]? = some w) : sU (sGone s (l.take i)) 5 w (s 0 6) = sGone s (l.take (i + 1)) := by
  obtain ⟨h1, h2⟩ := List.getElem?_eq_some_iff.mp h
  funext a k
  unfold sU sGone
  rw [List.take_succ, h]
  by_cases c : a = 5 ∧ k = w
  · rw [if_pos c, if_pos ⟨c.1, by rw [c.2]; simp⟩]
  · rw [if_neg c]
    by_cases c2 : a = 5 ∧ k ∈ l.take i
    · rw [if_pos c2, if_pos ⟨c2.1, List.mem_append_left _ c2.2⟩]
    · rw [if_neg c2, if_neg (fun z => by
        rcases List.mem_append.mp z.2 with q | q
        · exact c2 ⟨z.1, q⟩
        · simp at q
          exact c ⟨z.1, q⟩)]
theorem m_lv {y : yT} {a1 v9 : Int32} (hg : gY y) : ∀ (d f i : Nat) (μ : mT), i + d = (y.2.1 8).length → d < f → mY (μ 28 0) (sGone y.1 ((y.2.1 8).take i), y.2) →
    ∃ μ', (∀ K, f_X8_leave_L67 a1 v9 K f (nI i) μ = K μ') ∧ mY (μ' 28 0) (sGone y.1 (y.2.1 8), y.2) ∧ only μ μ' Mo := by
  have hl := (hg.1 8 (by omega)).1
  intro d
  induction d with
  | zero =>
    intro f i μ hi hf h
    obtain ⟨f, rfl⟩ : ∃ n', f = n' + 1 := ⟨f - 1, by omega⟩
    refine ⟨μ, ?_, ?_, only.rf⟩
    · intro K
      rw [f_X8_leave_L67]
      have e9 : μ 28 0 (9 : Int32).toNatClampNeg = nI (y.2.1 8).length := h.2.1.n8
      rw [e9, if_pos (nI_le (by omega) (by omega))]
    · rw [List.take_of_length_le (by omega)] at h
      exact h
  | succ d ih =>
    intro f i μ hi hf h
    obtain ⟨f, rfl⟩ : ∃ n', f = n' + 1 := ⟨f - 1, by omega⟩
    obtain ⟨w, hw⟩ : ∃ w, (y.2.1 8)[i]? = some w := ⟨_, List.getElem?_eq_getElem (by omega)⟩
    have hw30 := (hg.1 8 (by omega)).2.1 w (List.mem_of_getElem? hw)
    have e9 : μ 28 0 (9 : Int32).toNatClampNeg = nI (y.2.1 8).length := h.2.1.n8
    have er : μ 28 0 (300 + i) = nI w := h.2.1.e8 hw
    have e6 : μ 28 0 (6 : Int32).toNatClampNeg = y.1 0 6 := h.1.z (k := 6) (by omega)
    have h1 := h.up hg (a0 := 5) (k0 := w) (i := 330 + 4 * w + 1) (y.1 0 6) (sdw (by omega) (by omega)) (by unfold mi; simp only [Nat.reduceEqDiff, ↓reduceIte]; omega)
    dsimp only at h1
    rw [sGone_up hw] at h1
    have hstep : ∀ K, f_X8_leave_L67 a1 v9 K (f + 1) (nI i) μ = f_X8_leave_L67 a1 v9 K f (nI (i + 1)) (upM μ 28 0 (330 + 4 * w + 1) (y.1 0 6)) := by
      intro K
      rw [f_X8_leave_L67, e9, if_neg (nI_ge (by omega) (by omega)), e6]
      simp (disch := omega) only [z_l300, z_l330, z_l4, z_l1, q_add, q_mul, q_gdi, q_cl, q_lt, er]
    simp only [hstep]
    obtain ⟨μ', g1, g2, g3⟩ := ih f (i + 1) (upM μ 28 0 (330 + 4 * w + 1) (y.1 0 6)) (by omega) (by omega) (by rw [r28]; exact h1)
    exact ⟨μ', g1, g2, (only28 rfl).tr g3⟩
theorem mY.clear {ρ : Nat → Int32} {y : yT} (h : mY ρ y) (hg : gY y) : mY (upd ρ 9 0) (y.1, fun r => if r = 8 then [] else y.2.1 r, y.2.2) := by
  have hx : ∀ x, x ≠ 9 → upd ρ 9 0 x = ρ x := fun x q => by rw [upd_e, if_neg q]
  refine ⟨h.1.cong (fun x q => hx x (by omega)), fun r hr => ?_, h.2.2.1.cong (fun x q => hx x (by omega)), h.2.2.2.cong hg.2.2.2.2 (fun x q => hx x (by omega))⟩
  dsimp only
  by_cases c : r = 8
  · subst c
    rw [if_pos rfl]
    exact ⟨if_pos rfl, fun p w hp => by simp at hp⟩
  · rw [if_neg c]
    have hl := (hg.1 r hr).1
    refine ⟨?_, fun p w hp => ?_⟩
    · rw [hx _ (by rw [rc_t (by omega)]; omega)]
      exact (h.2.1 r hr).1
    · rw [hx _ (by omega)]
      exact (h.2.1 r hr).2 p w hp
theorem gClear {y : yT} (hg : gY y) : gY (y.1, fun r => if r = 8 then [] else y.2.1 r, y.2.2) := by
  have hn : ∀ r w, w ∈ (if r = 8 then [] else y.2.1 r) → w ∈ y.2.1 r := fun r w q => by
    by_cases c : r = 8
    · rw [if_pos c] at q; cases q
    · rwa [if_neg c] at q
  refine ⟨fun r hr => ?_, fun r r' w hr hr' a b => hg.2.1 r r' w hr hr' (hn r w a) (hn r' w b), ?_, hg.2.2.2.1, hg.2.2.2.2⟩
  · dsimp only
    by_cases c : r = 8
    · rw [if_pos c]; exact ⟨by simp, fun w q => (List.not_mem_nil q).elim, List.nodup_nil⟩
    · rw [if_neg c]; exact hg.1 r hr
  · have := hg.2.2.1
    unfold tot at this ⊢
    simp only [Nat.reduceEqDiff, ↓reduceIte, List.length_nil]
    omega
theorem q_ltJ {c : Prop} [Decidable c] {a b : Int32} {μ : mT} {F : Int32 → mT → Option (Int32 × mT)} : lt F (fun J => if c then J a μ else J b μ) = F (if c then a else b) μ := by
  rw [q_lt]
  split <;> rfl
theorem late_eq {m d : Nat} (hm : m < 1000000000) (hd : d < 1000000000) : (if nI m ≤ nI d then (0 : Int32) else nI m - nI d) = lateN (nI m) (nI d) := by
  unfold lateN
  by_cases c : m ≤ d
  · rw [if_pos (nI_le c (by omega)), if_neg]
    intro q
    rw [Int32.lt_iff_toInt_lt, Int32.toInt_sub, nI_toInt (by omega), nI_toInt (by omega), Int.bmod_eq_of_le (by omega) (by omega)] at q
    simp at q
    omega
  · rw [if_neg (nI_ge (by omega) (by omega)), q_sub (by omega), if_pos]
    exact nI_lt (a := 0) (by omega) (by omega)
theorem m_leave {nt nw tm B : Nat} {a : Int32} {y : yT} {hp : hT} {tx : Bool} {μ : mT} (h : hM μ y hp tx) (hi : iY y nt nw tm B) (hf : hF hp) (hB : B < 900000000) :
    MR μ y hp tx (sLeave y a) (f_X8_leave a μ) := by
  unfold f_X8_leave sLeave
  have h8 := hi.tok.1
  rw [m_isTrain h.1 h8, q_bd]
  cases et : tIx y.2.2.2.length a with
  | none => exact MR.no h _ (by decide)
  | some t =>
    obtain ⟨rfl, ht⟩ := tIx_some et
    obtain ⟨e, he⟩ : ∃ e, y.2.2.2[t]? = some e := ⟨_, List.getElem?_eq_getElem ht⟩
    dsimp only
    rw [if_pos (show (some t).isSome = true from rfl), if_neg n10, he, m_canLeave h.1 hi.g he, q_bd]
    dsimp only
    by_cases q : y.2.1 8 = e.2
    case neg =>
      rw [if_neg q, if_neg q, if_pos p00]
      exact MR.no h _ (by decide)
    rw [if_pos q, if_pos q, if_neg n10]
    obtain ⟨μ1, b1, b2, b3, b4⟩ := m_record h hi.g hf
    have g6 : μ1 28 0 (6 : Int32).toNatClampNeg = y.1 0 6 := b2.1.1.z (k := 6) (by omega)
    have gd' : μ1 28 0 (450 + 10 * t) = e.1 := (b2.1.2.2.2.2 t e he).1
    rw [b1, q_bd, z_l450, z_l10, q_mul, q_add, q_gdi (by omega) (by omega), q_cl (by omega), q_lt, gd', g6, q_ltJ]
    obtain ⟨⟨dd, hd1, hd2⟩, -⟩ := hi.2.2.2.2.2.2.2.2.2.2 e (List.mem_of_getElem? he)
    have htm := hi.tmB
    have el : (if y.1 0 6 ≤ e.1 then (0 : Int32) else y.1 0 6 - e.1) = lateN (y.1 0 6) e.1 := by
      rw [hi.htm, hd2]
      exact late_eq (by omega) (by omega)
    rw [el]
    have hla : ¬ lateN (y.1 0 6) e.1 < 0 := by
      unfold lateN
      split
      · rename_i z
        exact fun z' => absurd (Int32.lt_trans z z') (by decide)
      · decide
    have hl8 := (hi.rOK 8 (by omega)).1
    generalize hv : lateN (y.1 0 6) e.1 = v at hla ⊢
    obtain ⟨μ2, c1, c2, c3⟩ := m_lv (a1 := nI t) (v9 := v) hi.g (y.2.1 8).length fu 0 μ1 (by omega) (by unfold fu; omega) (by
      rw [List.take_zero, show sGone y.1 [] = y.1 from by
        funext a k
        unfold sGone
        simp]
      exact b2.1)
    rw [← z_l0] at c1
    rw [q_lt, c1]
    have e9 : μ2 28 0 (9 : Int32).toNatClampNeg = nI (y.2.1 8).length := c2.2.1.n8
    have e10 : μ2 28 0 (nI 10).toNatClampNeg = y.1 0 10 := (c2.1.z (k := 10) (by omega)).trans (sGone_n (s := y.1) (l := y.2.1 8) (a := 0) (k := 10) (by decide))
    have h1' := c2.upm hi.g (a0 := 0) (k0 := 10) (i := (nI 10).toNatClampNeg) (y.1 0 10 + nI (y.2.1 8).length) (sd0 (by omega)) rfl
    rw [e9, e10, q_lt]
    have o1 : only μ2 (upM μ2 28 0 (nI 10).toNatClampNeg (y.1 0 10 + nI (y.2.1 8).length)) Mo := only28 rfl
    generalize upM μ2 28 0 (nI 10).toNatClampNeg (y.1 0 10 + nI (y.2.1 8).length) = μ3 at h1' o1 ⊢
    have h2 := h1'.clear hi.g
    have hg2 : gY (sU (sGone y.1 (y.2.1 8)) 0 10 (y.1 0 10 + nI (y.2.1 8).length), fun r => if r = 8 then [] else y.2.1 r, y.2.2) := gClear hi.g
    rw [q_lt]
    have h2' : mY (upM μ3 28 0 (9 : Int32).toNatClampNeg 0 28 0) (sU (sGone y.1 (y.2.1 8)) 0 10 (y.1 0 10 + nI (y.2.1 8).length), fun r => if r = 8 then [] else y.2.1 r, y.2.2) := by rw [r28]; exact h2
    have o2 : only μ3 (upM μ3 28 0 (9 : Int32).toNatClampNeg 0) Mo := only28 rfl
    generalize upM μ3 28 0 (9 : Int32).toNatClampNeg 0 = μ4 at h2' o2 ⊢
    have e12 : μ4 28 0 (12 : Int32).toNatClampNeg = y.1 0 12 := by
      refine (h2'.1.z (k := 12) (by omega)).trans ?_
      dsimp only
      rw [sU_n (by omega)]
      exact sGone_n (by decide)
    have h3' := h2'.upm hg2 (a0 := 0) (k0 := 12) (i := (12 : Int32).toNatClampNeg) (y.1 0 12 + 1) (sd0 (by omega)) rfl
    rw [e12, q_lt]
    have o3 : only μ4 (upM μ4 28 0 (12 : Int32).toNatClampNeg (y.1 0 12 + 1)) Mo := only28 rfl
    generalize upM μ4 28 0 (12 : Int32).toNatClampNeg (y.1 0 12 + 1) = μ5 at h3' o3 ⊢
    have e17 : μ5 28 0 (17 : Int32).toNatClampNeg = y.1 0 17 := by
      refine (h3'.1.z (k := 17) (by omega)).trans ?_
      dsimp only
      rw [sU_n (by omega), sU_n (by omega)]
      exact sGone_n (by decide)
    have e5 : μ5 28 0 (5 : Int32).toNatClampNeg = y.1 0 5 := by
      refine (h3'.1.z (k := 5) (by omega)).trans ?_
      dsimp only
      rw [sU_n (by omega), sU_n (by omega)]
      exact sGone_n (by decide)
    have h4' := h3'.upm hg2 (a0 := 0) (k0 := 17) (i := (17 : Int32).toNatClampNeg) (y.1 0 17 + v * y.1 0 5) (sd0 (by omega)) rfl
    rw [e17, e5, Int32.mul_comm (y.1 0 5) v, q_lt]
    have o4 : only μ5 (upM μ5 28 0 (17 : Int32).toNatClampNeg (y.1 0 17 + v * y.1 0 5)) Mo := only28 rfl
    obtain ⟨μ6, d1, d2, d3⟩ := m_dropTrain (t := t) h4' hg2 ht
    rw [d1, q_bd]
    refine MR.yes b2 b3 b4 ?_ (c3.tr (o1.tr (o2.tr (o3.tr (o4.tr d3))))) hla
    unfold sLv
    rw [hv]
    dsimp only at d2 ⊢
    rw [show sU (sU (sU (sGone y.1 (y.2.1 8)) 0 17 (y.1 0 17 + v * y.1 0 5)) 0 10 (y.1 0 10 + nI (y.2.1 8).length)) 0 12 (y.1 0 12 + 1) = sU (sU (sU (sGone y.1 (y.2.1 8)) 0 10 (y.1 0 10 + nI (y.2.1 8).length)) 0 12 (y.1 0 12 + 1)) 0 17 (y.1 0 17 + v * y.1 0 5) from by
      rw [sU_c (a := 0) (k := 17) (a' := 0) (k' := 10) (by omega), sU_c (a := 0) (k := 17) (a' := 0) (k' := 12) (by omega)]]
    exact d2
