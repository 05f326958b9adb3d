theorem lcp_all {a b : List Nat} : lcp a b = a.length ↔ a = b.take a.length := by
  constructor
  · intro h
    have := lcp_take (a := a) (b := b)
    rw [h, List.take_length] at this
    exact this
  · intro h
    have : b = a ++ b.drop a.length := by
      rw [h, List.length_take]
      rw [show b.take a.length ++ b.drop (min a.length b.length) = b from by
        rcases Nat.le_total a.length b.length with q | q
        · rw [Nat.min_eq_left q, List.take_append_drop]
        · rw [Nat.min_eq_right q, List.drop_eq_nil_of_le (Nat.le_refl _), List.append_nil, List.take_of_length_le q]]
    rw [this]
    exact lcp_pre
theorem m_lay57a {nt t : Nat} {y : yT} {e : Int32 × List Nat} {μ : mT} (hg : gN y nt) (ht : y.2.2.2[t]? = some e) (h : mY (μ 28 0) y) (hE : (y.2.1 8).length ≤ e.2.length) : ∀ (d f i : Nat), i + d = (y.2.1 8).length →
    f_X8_layPulls_L57 (nI (450 + 10 * t)) (f + d) (nI i) μ = if (y.2.1 8).drop i = (e.2.drop i).take d then f_X8_layPulls_L57 (nI (450 + 10 * t)) f (nI (y.2.1 8).length) μ else some (0, μ) := by
  have htl := (List.getElem?_eq_some_iff.mp ht).1
  have htl8 := hg.1.2.2.2.2.1
  obtain ⟨o1, o2, o3, o4⟩ := hg.1.2.2.2.2.2 t e ht
  obtain ⟨f1, f2, f3⟩ := h.2.2.2.2 t e ht
  have e9 : μ 28 0 (9 : Int32).toNatClampNeg = nI (y.2.1 8).length := h.2.1.n8
  have hl30 := (hg.1.1 8 (by omega)).1
  intro d
  induction d with
  | zero =>
    intro f i hi
    rw [if_pos (by rw [List.drop_eq_nil_of_le (by omega)]; rfl), Nat.add_zero, show i = (y.2.1 8).length by omega]
  | succ d ih =>
    intro f i hi
    obtain ⟨w, hw⟩ : ∃ w, e.2[i]? = some w := ⟨_, List.getElem?_eq_getElem (by omega)⟩
    obtain ⟨u, hu⟩ : ∃ u, (y.2.1 8)[i]? = some u := ⟨_, List.getElem?_eq_getElem (by omega)⟩
    have hw30 := o4 w (List.mem_of_getElem? hw)
    have hu30 := (hg.1.1 8 (by omega)).2.1 u (List.mem_of_getElem? hu)
    have e1 : ∀ x, (nI x + 1 : Int32) = nI (x + 1) := nI_1
    have e2 : nI (450 + 10 * t) + 2 + nI i = nI (450 + 10 * t + 2 + i) := by rw [z_l2, q_add, q_add]
    rw [show f + (d + 1) = f + d + 1 from rfl, f_X8_layPulls_L57, e1, q_gdi (by omega) (by omega), q_cl (by omega), f2, if_neg (nI_ge (by omega) (by omega)), e2, q_gdi (by omega) (by omega), q_cl (by omega), f3 i w hw, q_lt, q_lt, e9, if_neg (nI_ge (by omega) (by omega)), z_l300, q_add, q_gdi (by omega) (by omega), q_cl (by omega), h.2.1.e8 hu, drop_cons_of hw, drop_cons_of hu, List.take_succ_cons]
    by_cases c : u = w
    · rw [if_pos (show nI u = nI w from by rw [c])]
      dsimp only
      rw [q_lt, e1, ih f (i + 1) (by omega)]
      by_cases c2 : (y.2.1 8).drop (i + 1) = (e.2.drop (i + 1)).take d
      · rw [if_pos c2, if_pos (by rw [c, c2])]
      · rw [if_neg c2, if_neg (fun z => c2 (List.cons.inj z).2)]
    · rw [if_neg (show ¬ nI u = nI w from by rw [nI_eq (by omega) (by omega)]; exact c), if_neg (fun z => c (List.cons.inj z).1)]
theorem m_zero {v1 : Int32} : ∀ (d f i : Nat) (μ : mT), i + d = 8 → d < f → (∀ r, r < i → μ 36 0 r = 0) →
    ∃ μ', (∀ K, f_X8_layPulls_L16 v1 K f (nI i) μ = K μ') ∧ (∀ r, r < 8 → μ' 36 0 r = 0) ∧ only μ μ' (fun κ j => κ = 36 ∧ j = 0) := by
  intro d
  induction d with
  | zero =>
    intro f i μ hi hf hx
    obtain ⟨f, rfl⟩ : ∃ n', f = n' + 1 := ⟨f - 1, by omega⟩
    refine ⟨μ, fun K => ?_, fun r hr => hx r (by omega), only.rf⟩
    rw [f_X8_layPulls_L16, z_l8, if_pos (nI_le (by omega) (by omega))]
  | succ d ih =>
    intro f i μ hi hf hx
    obtain ⟨f, rfl⟩ : ∃ n', f = n' + 1 := ⟨f - 1, by omega⟩
    obtain ⟨μ', g1, g2, g3⟩ := ih f (i + 1) (upM μ 36 0 i 0) (by omega) (by omega) (fun r hr => by
      rw [q_up]
      by_cases c : r = i
      · rw [if_pos ⟨rfl, rfl, c⟩]
      · rw [if_neg (fun z => c z.2.2)]; exact hx r (by omega))
    refine ⟨μ', fun K => ?_, g2, (q_uple rfl).tr g3⟩
    rw [f_X8_layPulls_L16, z_l8, if_neg (nI_ge (by omega) (by omega)), q_gdi (by omega) (by omega), q_cl (by omega), q_lt, q_lt, show (nI i + 1 : Int32) = nI (i + 1) from nI_1 i]
    exact g1 K
theorem m_layPulls {nt t : Nat} {y : yT} {e : Int32 × List Nat} {μ : mT} (h : mY (μ 28 0) y) (hg : gN y nt) (ht : y.2.2.2[t]? = some e) :
    ∃ μ', f_X8_layPulls (nI t) μ = some ((match fpS y e.2 with | some _ => 1 | none => 0), μ') ∧ (∀ ps, fpS y e.2 = some ps → PL μ' ps) ∧ only μ μ' L5 ∧ (∀ x, x ≠ 14 → μ' 27 0 x = μ 27 0 x) := by
  have htl := (List.getElem?_eq_some_iff.mp ht).1
  have htl8 := hg.1.2.2.2.2.1
  obtain ⟨o1, o2, o3, o4⟩ := hg.1.2.2.2.2.2 t e ht
  have hl30 := (hg.1.1 8 (by omega)).1
  unfold f_X8_layPulls
  have e10 : (450 : Int32) + 10 * nI t = nI (450 + 10 * t) := by rw [z_l450, z_l10, q_mul, q_add]
  obtain ⟨μ1, a1, a2, a3⟩ := m_zero (v1 := nI (450 + 10 * t)) 8 fu 0 (upM μ 27 0 14 0) (by omega) (by unfold fu; omega) (fun r hr => by omega)
  rw [← z_l0] at a1
  rw [e10, q_lt, q_lt, q_lt, a1, show (nI (450 + 10 * t) + 1 : Int32) = nI (450 + 10 * t + 1) from nI_1 _, q_gdi (by omega) (by omega), q_cl (by omega)]
  have h1 : mY (μ1 28 0) y := by rw [a3 28 0 (by omega), q_upn (by omega)]; exact h
  have hP1 : PL μ1 [] := ⟨by rw [a3 27 0 (by omega), q_up, if_pos ⟨rfl, rfl, rfl⟩]; rfl, fun i a b q => by simp at q⟩
  have o1' : only μ μ1 L5 := only.tr ((q_uple rfl).w (by unfold L5; omega)) (a3.w (by unfold L5; omega))
  have h27 : ∀ x, x ≠ 14 → μ1 27 0 x = μ 27 0 x := fun x hx => by rw [a3 27 0 (by omega), q_up, if_neg (by omega)]
  obtain ⟨f1, f2, f3⟩ := h1.2.2.2.2 t e ht
  have e9 : μ1 28 0 (9 : Int32).toNatClampNeg = nI (y.2.1 8).length := h1.2.1.n8
  rw [e9, f2]
  unfold fpS
  by_cases cE : (y.2.1 8).length ≤ e.2.length
  case neg =>
    rw [if_neg (nI_ge (by omega) (by omega)), if_neg (fun z => by
      have := (lcp_le (a := y.2.1 8) (b := e.2)).2
      omega)]
    exact ⟨μ1, rfl, fun ps q => (by cases q), o1', h27⟩
  rw [if_pos (nI_le cE (by omega))]
  have hph := m_lay57a hg ht h1 cE (y.2.1 8).length (fu - (y.2.1 8).length) 0 (Nat.zero_add _)
  rw [Nat.sub_add_cancel (by unfold fu; omega), List.drop_zero, List.drop_zero, ← z_l0] at hph
  rw [hph]
  by_cases cp : y.2.1 8 = e.2.take (y.2.1 8).length
  case neg =>
    rw [if_neg cp, if_neg (fun z => cp (lcp_all.mp z))]
    exact ⟨μ1, rfl, fun ps q => (by cases q), o1', h27⟩
  rw [if_pos cp, if_pos (lcp_all.mpr cp)]
  have hcm := layC_M (rw0 := y.2.1) o3 (nt := nt) (e.2.length - (y.2.1 8).length) 9 (y.2.1 8).length y (fun r => (y.2.1 r).drop ((fun _ => 0) r)) [] (by omega) (by omega) hg (fun r _ => List.drop_zero) (fun _ _ _ _ => rfl) (fun a b q => by cases q)
  obtain ⟨μ2, b1, b2, b3, b4⟩ := m_lay57 hg ht (e.2.length - (y.2.1 8).length) (fu - (y.2.1 8).length) (y.2.1 8).length (fun _ => 0) [] μ1 (by omega) (by unfold fu; omega) (Nat.le_refl _) (by simp) (fun p q => (List.not_mem_nil q).elim) (fun r _ => Nat.zero_le _) (fun r _ x q => by simp at q) (fun r hr => a2 r hr) hP1 h1
  rw [hcm] at b1 b2
  have hmap : (layC 9 y.2.1 e.2 (y.2.1 8).length).map (([] : List (Nat × Nat)) ++ ·) = layC 9 y.2.1 e.2 (y.2.1 8).length := by
    cases layC 9 y.2.1 e.2 (y.2.1 8).length <;> rfl
  rw [hmap] at b1 b2
  exact ⟨μ2, b1, b2, o1'.tr b3, fun x hx => by rw [b4 x hx, h27 x hx]⟩
theorem layC_len : ∀ {F : Nat} {rw : Nat → List Nat} {l : List Nat} {got : Nat} {ps : List (Nat × Nat)}, layC F rw l got = some ps → ps.length ≤ F
  | 0, rw, l, got, ps, h => by cases h
  | F + 1, rw, l, got, ps, h => by
    unfold layC at h
    split at h
    · cases h; simp
    · split at h
      · cases h
      · split at h
        · cases h
        · rename_i r _ _
          cases e : layC F (rwD rw r (lcp (rw r) (l.drop got))) l (got + lcp (rw r) (l.drop got)) with
          | none => rw [e] at h; cases h
          | some qs =>
            rw [e] at h
            cases h
            rw [List.length_cons]
            exact Nat.succ_le_succ (layC_len e)
theorem fpS_lay {y : yT} {l : List Nat} {ps : List (Nat × Nat)} (h : fpS y l = some ps) : layC 9 y.2.1 l (y.2.1 8).length = some ps := by
  unfold fpS at h
  split at h
  · exact h
  · cases h
def qStr (y : yT) (a : Int32) : Int32 := match tIx y.2.2.2.length a with
  | none => -1
  | some t => match y.2.2.2[t]? with
    | none => -1
    | some e => match fpS y e.2 with
      | none => 0
      | some _ => 1
def qPul (y : yT) (a : Int32) : Int32 := match tIx y.2.2.2.length a with
  | none => -1
  | some t => match y.2.2.2[t]? with
    | none => -1
    | some e => match fpS y e.2 with
      | none => -6
      | some ps => nI ps.length
theorem m_straight {nt : Nat} {a : Int32} {y : yT} {μ : mT} (h : mY (μ 28 0) y) (hg : gN y nt) :
    ∃ μ', f_X8_straight a μ = some (qStr y a, μ') ∧ only μ μ' L5 ∧ (∀ x, x ≠ 14 → μ' 27 0 x = μ 27 0 x) := by
  unfold f_X8_straight qStr
  rw [m_isTrain h hg.1.2.2.2.2.1, q_bd]
  cases et : tIx y.2.2.2.length a with
  | none => exact ⟨μ, rfl, only.rf, fun _ _ => rfl⟩
  | some t =>
    obtain ⟨rfl, ht⟩ := tIx_some et
    obtain ⟨e, he⟩ : ∃ e, y.2.2.2[t]? = some e := ⟨_, List.getElem?_eq_getElem ht⟩
    obtain ⟨μ1, a1, a2, a3, a4⟩ := m_layPulls h hg he
    dsimp only
    rw [if_pos (show (some t).isSome = true from rfl), if_neg n10, he, a1, q_bd]
    dsimp only
    refine ⟨μ1, ?_, a3, a4⟩
    cases fpS y e.2 <;> rfl
theorem m_pulls {nt : Nat} {a : Int32} {y : yT} {μ : mT} (h : mY (μ 28 0) y) (hg : gN y nt) :
    ∃ μ', f_X8_pulls a μ = some (qPul y a, μ') ∧ only μ μ' L5 ∧ (∀ x, x ≠ 14 → μ' 27 0 x = μ 27 0 x) := by
  unfold f_X8_pulls qPul
  rw [m_isTrain h hg.1.2.2.2.2.1, q_bd]
  cases et : tIx y.2.2.2.length a with
  | none => exact ⟨μ, rfl, only.rf, fun _ _ => rfl⟩
  | some t =>
    obtain ⟨rfl, ht⟩ := tIx_some et
    obtain ⟨e, he⟩ : ∃ e, y.2.2.2[t]? = some e := ⟨_, List.getElem?_eq_getElem ht⟩
    obtain ⟨μ1, a1, a2, a3, a4⟩ := m_layPulls h hg he
    dsimp only
    rw [if_pos (show (some t).isSome = true from rfl), if_neg n10, he, a1, q_bd]
    dsimp only
    refine ⟨μ1, ?_, a3, a4⟩
    cases ef : fpS y e.2 with
    | none => rfl
    | some ps =>
      dsimp only
      rw [if_neg n10, (a2 ps ef).1]
theorem k_pulls {nt : Nat} {a : Int32} {y : yT} {μ : mT} (h : cY μ 0 y) (hg : gN y nt) :
    ∃ μ', f_X7_pulls a μ = some (qPul y a, μ') ∧ only μ μ' (Yd 1) := by
  unfold f_X7_pulls qPul
  rw [k_has h.2.2.2 hg.1.2.2.2.2.1, q_bd]
  cases et : tIx y.2.2.2.length a with
  | none => exact ⟨μ, rfl, only.rf⟩
  | some t =>
    obtain ⟨rfl, ht⟩ := tIx_some et
    obtain ⟨e, he⟩ : ∃ e, y.2.2.2[t]? = some e := ⟨_, List.getElem?_eq_getElem ht⟩
    obtain ⟨μ1, a1, a2, a3⟩ := k_fewestPulls (j := 0) (by omega) h hg he
    dsimp only
    rw [if_pos (show (some t).isSome = true from rfl), if_neg n10, he, a1, q_bd]
    dsimp only
    exact ⟨μ1, by cases fpS y e.2 <;> rfl, a2⟩
theorem k_straight {nt : Nat} {a : Int32} {y : yT} {μ : mT} (h : cY μ 0 y) (hg : gN y nt) :
    ∃ μ', f_X7_straight a μ = some (qStr y a, μ') ∧ only μ μ' (Yd 1) := by
  unfold f_X7_straight qStr
  rw [k_has h.2.2.2 hg.1.2.2.2.2.1, q_bd]
  cases et : tIx y.2.2.2.length a with
  | none => exact ⟨μ, rfl, only.rf⟩
  | some t =>
    obtain ⟨rfl, ht⟩ := tIx_some et
    obtain ⟨e, he⟩ : ∃ e, y.2.2.2[t]? = some e := ⟨_, List.getElem?_eq_getElem ht⟩
    obtain ⟨μ1, a1, a2, a3⟩ := k_fewestPulls (j := 0) (by omega) h hg he
    dsimp only
    rw [if_pos (show (some t).isSome = true from rfl), if_neg n10, he, a1, q_bd]
    dsimp only
    refine ⟨μ1, ?_, a2⟩
    cases ef : fpS y e.2 with
    | none => rfl
    | some ps =>
      dsimp only
      rw [if_neg (q_n6 (by have := layC_len (fpS_lay ef); omega))]
