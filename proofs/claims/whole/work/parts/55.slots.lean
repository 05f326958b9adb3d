abbrev zT := Nat → Option yT
def zC (μ : mT) (zs : zT) : Prop := ∀ k, k < 2 → μ 23 0 k = nI (9 + k) ∧ (zs k = none → μ 24 0 k = 0) ∧ ∀ z, zs k = some z → μ 24 0 k = 1 ∧ cY μ (9 + k) z
def zM (μ : mT) (zs : zT) : Prop := ∀ k, k < 2 → (zs k = none → μ 33 0 k = 0) ∧ ∀ z, zs k = some z → μ 33 0 k = 1 ∧ mY (fun x => μ 32 0 (k * 560 + x)) z
theorem zC.o {μ μ' : mT} {zs : zT} {S : Nat → Nat → Prop} (h : zC μ zs) (ho : only μ μ' S) (hS : ∀ κ j, S κ j → ¬ (κ < 18 ∧ 9 ≤ j) ∧ ¬ ((κ = 23 ∨ κ = 24) ∧ j = 0)) : zC μ' zs := fun k hk => by
  obtain ⟨a, b, c⟩ := h k hk
  rw [ho 23 0 (fun z => (hS _ _ z).2 ⟨Or.inl rfl, rfl⟩), ho 24 0 (fun z => (hS _ _ z).2 ⟨Or.inr rfl, rfl⟩)]
  exact ⟨a, b, fun z hz => ⟨(c z hz).1, (c z hz).2.o (fun κ hκ => ho κ _ (fun z => (hS _ _ z).1 ⟨hκ, by omega⟩))⟩⟩
theorem zM.o {μ μ' : mT} {zs : zT} {S : Nat → Nat → Prop} (h : zM μ zs) (ho : only μ μ' S) (hS : ∀ κ j, S κ j → ¬ ((κ = 32 ∨ κ = 33) ∧ j = 0)) : zM μ' zs := fun k hk => by
  have := h k hk
  rw [ho 32 0 (fun z => hS _ _ z ⟨Or.inl rfl, rfl⟩), ho 33 0 (fun z => hS _ _ z ⟨Or.inr rfl, rfl⟩)]
  exact this
def sSave (y : yT) (zs : zT) (a : Int32) : Int32 × zT := if a < 0 ∨ 2 ≤ a then (-2, zs) else (y.1 0 6, fun k => if k = a.toNatClampNeg then some y else zs k)
def sRest (y : yT) (zs : zT) (a : Int32) : Int32 × yT := if a < 0 ∨ 2 ≤ a then (-2, y) else match zs a.toNatClampNeg with
  | none => (-5, y)
  | some z => (z.1 0 6, z)
theorem a2_of {a : Int32} (h : ¬ (a < 0 ∨ 2 ≤ a)) : ∃ k, k < 2 ∧ a = nI k := by
  obtain ⟨k, hk, rfl⟩ := nI_of (fun q => h (Or.inl q))
  refine ⟨k, ?_, rfl⟩
  rcases Nat.lt_or_ge k 2 with q | q
  · exact q
  · exact absurd (Or.inr (nI_le q hk)) h
theorem k_save {μ : mT} {y : yT} {zs : zT} {a : Int32} (hy : cY μ 0 y) (hg : gY y) (hz : zC μ zs) :
    ∃ μ', f_X7_save a μ = some ((sSave y zs a).1, μ') ∧ zC μ' (sSave y zs a).2 ∧ only μ μ' (fun κ j => (κ < 18 ∧ 9 ≤ j) ∨ (κ = 24 ∧ j = 0)) := by
  unfold f_X7_save sSave
  by_cases c : a < 0 ∨ 2 ≤ a
  · rw [if_pos c]
    refine ⟨μ, ?_, hz, only.rf⟩
    by_cases c1 : a < 0
    · rw [if_pos c1]
    · rw [if_neg c1, if_neg (Int32.not_lt.mpr (c.resolve_left c1))]
  · rw [if_neg c, if_neg (fun q => c (Or.inl q)), if_pos (Int32.not_le.mp (fun q => c (Or.inr q)))]
    obtain ⟨k, hk, rfl⟩ := a2_of c
    obtain ⟨z1, z2, z3⟩ := hz k hk
    obtain ⟨μ1, a1, a2, a3⟩ := k_copy (j := 9 + k) (j2 := 0) (by omega) hy hg
    rw [q_gdi hk (by omega), q_cl (by omega), z1, q_cl (by omega), q_lt, q_gd (by rw [decide_eq_true_eq]; omega), a1, q_bd, q_gdi hk (by omega), q_lt]
    have ho : only μ1 (upM μ1 24 0 k 1) (fun κ j => κ = 24 ∧ j = 0) := q_uple rfl
    have hm : (upM μ1 24 0 k 1) 0 0 0 = y.1 0 6 := by
      rw [ho 0 0 (by omega), a3 0 0 (by unfold Yd; omega)]
      exact hy.1.minute
    rw [hm]
    refine ⟨_, rfl, fun k' hk' => ⟨?_, ?_⟩, (a3.w (by unfold Yd; omega)).tr (ho.w (by omega))⟩
    · rw [ho 23 0 (by omega), a3 23 0 (by unfold Yd; omega)]
      exact (hz k' hk').1
    · dsimp only
      rw [q_up, a3 24 0 (by unfold Yd; omega)]
      by_cases ck : k' = k
      · rw [if_pos ck, if_pos ⟨rfl, rfl, ck⟩]
        refine ⟨fun q => (by cases q), fun z q => ?_⟩
        cases q
        rw [ck]
        exact ⟨rfl, a2.o (fun κ hκ => ho κ _ (by omega))⟩
      · rw [if_neg ck, if_neg (fun z => ck z.2.2)]
        refine ⟨(hz k' hk').2.1, fun z q => ⟨((hz k' hk').2.2 z q).1, ((hz k' hk').2.2 z q).2.o (fun κ hκ => ?_)⟩⟩
        rw [ho κ _ (by omega), a3 κ _ (by unfold Yd; omega)]
theorem m_save9 {ρ : Nat → Int32} {u : Nat} (hu : u < 2) : ∀ (d f i : Nat) (μ : mT), i + d = 560 → d < f → (∀ x, μ 32 0 x = if u * 560 ≤ x ∧ x < u * 560 + i then μ 28 0 (x - u * 560) else ρ x) →
    ∃ μ', (∀ K, f_X8_save_L14 (nI u) K f (nI i) μ = K μ') ∧ (∀ x, μ' 32 0 x = if u * 560 ≤ x ∧ x < u * 560 + 560 then μ 28 0 (x - u * 560) else ρ x) ∧ only μ μ' (fun κ j => κ = 32 ∧ j = 0) := by
  intro d
  induction d with
  | zero =>
    intro f i μ hi hf hx
    obtain ⟨f, rfl⟩ : ∃ n', f = n' + 1 := ⟨f - 1, by omega⟩
    refine ⟨μ, ?_, ?_, only.rf⟩
    · intro K
      rw [f_X8_save_L14, z_l560, if_pos (nI_le (by omega) (by omega))]
    · rw [show u * 560 + 560 = u * 560 + i by omega]
      exact hx
  | succ d ih =>
    intro f i μ hi hf hx
    obtain ⟨f, rfl⟩ : ∃ n', f = n' + 1 := ⟨f - 1, by omega⟩
    have hstep : ∀ K, f_X8_save_L14 (nI u) K (f + 1) (nI i) μ = f_X8_save_L14 (nI u) K f (nI (i + 1)) (upM μ 32 0 (u * 560 + i) (μ 28 0 i)) := by
      intro K
      rw [f_X8_save_L14, z_l560, if_neg (nI_ge (by omega) (by omega))]
      simp (disch := omega) only [z_l1, q_mul, q_add, q_gdi, q_cl, q_lt]
    simp only [hstep]
    have ho : only μ (upM μ 32 0 (u * 560 + i) (μ 28 0 i)) (fun κ j => κ = 32 ∧ j = 0) := q_uple rfl
    obtain ⟨μ', g1, g2, g3⟩ := ih f (i + 1) (upM μ 32 0 (u * 560 + i) (μ 28 0 i)) (by omega) (by omega) (fun x => by
      rw [ho 28 0 (by omega), q_up, hx]
      by_cases c : x = u * 560 + i
      · subst c
        rw [if_pos ⟨rfl, rfl, rfl⟩, if_pos (by omega), show u * 560 + i - u * 560 = i by omega]
      · rw [if_neg (fun z => c z.2.2)]
        by_cases c2 : u * 560 ≤ x ∧ x < u * 560 + i
        · rw [if_pos c2, if_pos (by omega)]
        · rw [if_neg c2, if_neg (by omega)])
    rw [ho 28 0 (by omega)] at g2
    exact ⟨μ', g1, g2, ho.tr g3⟩
theorem m_save {μ : mT} {y : yT} {zs : zT} {a : Int32} (hy : mY (μ 28 0) y) (hg : gY y) (hgz : ∀ k z, zs k = some z → gY z) (hz : zM μ zs) :
    ∃ μ', f_X8_save a μ = some ((sSave y zs a).1, μ') ∧ zM μ' (sSave y zs a).2 ∧ only μ μ' (fun κ j => (κ = 32 ∨ κ = 33) ∧ j = 0) := by
  unfold f_X8_save sSave
  rw [m_in, q_bd]
  have H : (a < 0 ∨ (1 : Int32) < a) ↔ (a < 0 ∨ 2 ≤ a) := or_congr Iff.rfl (lt_le1 (a := 1) (b := 2) rfl (by omega))
  by_cases c : a < 0 ∨ 2 ≤ a
  · rw [if_pos c, if_pos (H.mpr c), if_pos p00]
    exact ⟨μ, rfl, hz, only.rf⟩
  · rw [if_neg c, if_neg (mt H.mp c), if_neg n10, q_lt]
    obtain ⟨k, hk, rfl⟩ := a2_of c
    obtain ⟨μ1, a1, a2, a3⟩ := m_save9 (ρ := μ 32 0) (u := k) hk 560 fu 0 μ (by omega) (by unfold fu; omega) (fun x => by rw [if_neg (by omega)])
    rw [← z_l0] at a1
    rw [a1, q_gdi hk (by omega), q_cl (by omega), q_lt]
    have ho : only μ1 (upM μ1 33 0 k 1) (fun κ j => κ = 33 ∧ j = 0) := q_uple rfl
    have hm : (upM μ1 33 0 k 1) 28 0 (6 : Int32).toNatClampNeg = y.1 0 6 := by
      rw [ho 28 0 (by omega), a3 28 0 (by omega)]
      exact hy.1.z (k := 6) (by omega)
    rw [hm]
    refine ⟨_, rfl, fun k' hk' => ?_, (a3.w (by omega)).tr (ho.w (by omega))⟩
    dsimp only
    rw [ho 32 0 (by omega), q_up, a3 33 0 (by omega)]
    by_cases ck : k' = k
    · rw [if_pos ck, if_pos ⟨rfl, rfl, ck⟩]
      refine ⟨fun q => (by cases q), fun z q => ⟨rfl, ?_⟩⟩
      cases q
      refine hy.cong hg (fun x hx => ?_)
      rw [a2, ck, if_pos (by omega)]
      exact congrArg (μ 28 0) (by omega)
    · rw [if_neg ck, if_neg (fun z => ck z.2.2)]
      refine ⟨(hz k' hk').1, fun z q => ⟨((hz k' hk').2 z q).1, ((hz k' hk').2 z q).2.cong (hgz _ z q) (fun x hx => ?_)⟩⟩
      rw [a2, if_neg (by omega)]
theorem kt_restore {μ : mT} {hp : hT} {y : yT} {zs : zT} {a : Int32} (h : hC μ hp) (hy : cY μ 0 y) (hg : gY y) (hgz : ∀ k z, zs k = some z → gY z ∧ ¬ z.1 0 6 < 0) (hz : zC μ zs) :
    CR μ y hp (sRest y zs a) (f_X7_restore a μ) := by
  unfold f_X7_restore sRest
  by_cases c : a < 0 ∨ 2 ≤ a
  · rw [if_pos c]
    have fin : CR μ y hp (-2, y) (some (-2, μ)) := ⟨μ, rfl, hy, by dsimp only; rw [if_pos (by decide)]; exact h, only.rf⟩
    by_cases c1 : a < 0
    · rw [if_pos c1]; exact fin
    · rw [if_neg c1, if_neg (Int32.not_lt.mpr (c.resolve_left c1))]; exact fin
  · rw [if_neg c, if_neg (fun q => c (Or.inl q)), if_pos (Int32.not_le.mp (fun q => c (Or.inr q)))]
    obtain ⟨k, hk, rfl⟩ := a2_of c
    obtain ⟨z1, z2, z3⟩ := hz k hk
    rw [q_gdi hk (by omega), q_cl (by omega)]
    cases ez : zs k with
    | none =>
      rw [z2 ez, if_pos p00]
      exact ⟨μ, rfl, hy, by dsimp only; rw [if_pos (by decide)]; exact h, only.rf⟩
    | some z =>
      obtain ⟨z4, z5⟩ := z3 z ez
      obtain ⟨g1, g2⟩ := hgz k z ez
      rw [z4, if_neg n10]
      obtain ⟨μ1, a1, a2, a3, a4⟩ := k_hnote h hy hg
      have zc1 : cY μ1 (9 + k) z := z5.o (fun κ hκ => a4 κ _ (by unfold Hy; omega))
      obtain ⟨μ2, b1, b2, b3⟩ := k_copy (j := 0) (j2 := 9 + k) (by omega) zc1 g1
      obtain ⟨μ3, c1, c2, c3⟩ := k_kept (a := z.1 0 6) (a2.o b3 (fun κ j z => by unfold Yd at z; omega))
      rw [a1, q_bd, q_gdi hk (by omega), a4 23 0 (by unfold Hy; omega), z1, q_cl (by omega), q_lt, q_gd (by rw [decide_eq_true_eq]; omega), b1, q_bd, b2.1.minute, c1, q_bd]
      exact ⟨μ3, rfl, b2.o (fun κ hκ => c3 κ 0 (by omega)), c2, (a4.w (by unfold Hy Kc; omega)).tr ((b3.w (by unfold Yd Kc; omega)).tr (c3.w (by unfold Kc; omega)))⟩
theorem m_rest9 {ρ ρs : Nat → Int32} {u : Nat} (hu : u < 2) : ∀ (d f i : Nat) (μ : mT), i + d = 560 → d < f → (∀ x, μ 28 0 x = if x < i then ρs x else ρ x) → (∀ x, μ 32 0 (u * 560 + x) = ρs x) →
    ∃ μ', f_X8_restore_L30 (nI u) f (nI i) μ = some (μ' 28 0 (6 : Int32).toNatClampNeg, μ') ∧ (∀ x, μ' 28 0 x = if x < 560 then ρs x else ρ x) ∧ only μ μ' Mo := by
  intro d
  induction d with
  | zero =>
    intro f i μ hi hf hx hs
    obtain ⟨f, rfl⟩ : ∃ n', f = n' + 1 := ⟨f - 1, by omega⟩
    refine ⟨μ, ?_, ?_, only.rf⟩
    · rw [f_X8_restore_L30, z_l560, if_pos (nI_le (by omega) (by omega))]
    · rw [show 560 = i by omega]
      exact hx
  | succ d ih =>
    intro f i μ hi hf hx hs
    obtain ⟨f, rfl⟩ : ∃ n', f = n' + 1 := ⟨f - 1, by omega⟩
    have er : μ 32 0 (u * 560 + i) = ρs i := hs i
    have hstep : f_X8_restore_L30 (nI u) (f + 1) (nI i) μ = f_X8_restore_L30 (nI u) f (nI (i + 1)) (upM μ 28 0 i (ρs i)) := by
      rw [f_X8_restore_L30, z_l560, if_neg (nI_ge (by omega) (by omega))]
      simp (disch := omega) only [z_l1, q_mul, q_add, q_gdi, q_cl, q_lt, er]
    rw [hstep]
    have ho : only μ (upM μ 28 0 i (ρs i)) Mo := only28 rfl
    obtain ⟨μ', g1, g2, g3⟩ := ih f (i + 1) (upM μ 28 0 i (ρs i)) (by omega) (by omega) (fun x => by
      rw [r28, upd_e, hx]
      by_cases c : x = i
      · subst c
        rw [if_pos rfl, if_pos (by omega)]
      · rw [if_neg c]
        by_cases c2 : x < i
        · rw [if_pos c2, if_pos (by omega)]
        · rw [if_neg c2, if_neg (by omega)]) (fun x => by rw [ho 32 0 (by unfold Mo; omega)]; exact hs x)
    exact ⟨μ', g1, g2, ho.tr g3⟩
theorem m_restore {μ : mT} {hp : hT} {y : yT} {zs : zT} {a : Int32} {tx : Bool} (h : hM μ y hp tx) (hg : gY y) (hf : hF hp) (hgz : ∀ k z, zs k = some z → gY z ∧ ¬ z.1 0 6 < 0) (hz : zM μ zs) :
    MR μ y hp tx (sRest y zs a) (f_X8_restore a μ) := by
  unfold f_X8_restore sRest
  rw [m_in, q_bd]
  have H : (a < 0 ∨ (1 : Int32) < a) ↔ (a < 0 ∨ 2 ≤ a) := or_congr Iff.rfl (lt_le1 (a := 1) (b := 2) rfl (by omega))
  by_cases c : a < 0 ∨ 2 ≤ a
  · rw [if_pos c, if_pos (H.mpr c), if_pos p00]
    exact MR.no h _ (by decide)
  · rw [if_neg c, if_neg (mt H.mp c), if_neg n10]
    obtain ⟨k, hk, rfl⟩ := a2_of c
    obtain ⟨z2, z3⟩ := hz k hk
    rw [q_gdi hk (by omega), q_cl (by omega)]
    cases ez : zs k with
    | none =>
      rw [z2 ez, if_pos p00]
      exact MR.no h _ (by decide)
    | some z =>
      obtain ⟨z4, z5⟩ := z3 z ez
      obtain ⟨g1, g2⟩ := hgz k z ez
      obtain ⟨μ1, b1, b2, b3, b4⟩ := m_record h hg hf
      rw [z4, if_neg n10, b1, q_bd]
      obtain ⟨μ2, c1, c2, c3⟩ := m_rest9 (ρ := μ1 28 0) (ρs := fun x => μ1 32 0 (k * 560 + x)) (u := k) hk 560 fu 0 μ1 (by omega) (by unfold fu; omega) (fun x => by rw [if_neg (by omega)]) (fun x => rfl)
      rw [← z_l0] at c1
      have hz2 : mY (μ2 28 0) z := z5.cong g1 (fun x hx => by rw [c2, if_pos hx, b3 32 0 (by omega)])
      have e6 : μ2 28 0 (6 : Int32).toNatClampNeg = z.1 0 6 := hz2.1.z (k := 6) (by omega)
      rw [c1, e6]
      exact MR.yes b2 b3 b4 hz2 c3 g2
