def PL (μ : mT) (ps : List (Nat × Nat)) : Prop := μ 27 0 14 = nI ps.length ∧ ∀ i a b, ps[i]? = some (a, b) → μ 37 0 i = nI a ∧ μ 38 0 i = nI b
def TK (μ : mT) (k : Nat → Nat) : Prop := ∀ r, r < 8 → μ 36 0 r = nI (k r)
def L5 : Nat → Nat → Prop := fun κ j => (κ = 27 ∨ κ = 36 ∨ κ = 37 ∨ κ = 38) ∧ j = 0
theorem PL.new {μ : mT} {ps : List (Nat × Nat)} {r : Nat} (h : PL μ ps) : PL (upM (upM (upM μ 37 0 ps.length (nI r)) 38 0 ps.length 1) 27 0 14 (nI (ps.length + 1))) (ps ++ [(r, 1)]) := by
  have e37 : ∀ i, (upM (upM (upM μ 37 0 ps.length (nI r)) 38 0 ps.length 1) 27 0 14 (nI (ps.length + 1))) 37 0 i = if i = ps.length then nI r else μ 37 0 i := fun i => by
    rw [q_upn (by omega), q_upn (by omega), q_up]
    by_cases c : i = ps.length
    · rw [if_pos c, if_pos ⟨rfl, rfl, c⟩]
    · rw [if_neg c, if_neg (fun z => c z.2.2)]
  have e38 : ∀ i, (upM (upM (upM μ 37 0 ps.length (nI r)) 38 0 ps.length 1) 27 0 14 (nI (ps.length + 1))) 38 0 i = if i = ps.length then 1 else μ 38 0 i := fun i => by
    rw [q_upn (by omega), q_up, q_upn (by omega)]
    by_cases c : i = ps.length
    · rw [if_pos c, if_pos ⟨rfl, rfl, c⟩]
    · rw [if_neg c, if_neg (fun z => c z.2.2)]
  refine ⟨?_, fun i a b q => ?_⟩
  · rw [q_up, if_pos ⟨rfl, rfl, rfl⟩, List.length_append]
    rfl
  · rw [e37, e38]
    rcases Nat.lt_trichotomy i ps.length with c | c | c
    · rw [List.getElem?_append_left c] at q
      rw [if_neg (by omega), if_neg (by omega)]
      exact h.2 i a b q
    · rw [List.getElem?_append_right (by omega), c, Nat.sub_self] at q
      simp at q
      rw [if_pos c, if_pos c, ← q.1, ← q.2]
      exact ⟨rfl, rfl⟩
    · rw [List.getElem?_eq_none (by rw [List.length_append]; simp; omega)] at q
      cases q
theorem PL.inc {μ : mT} {ps : List (Nat × Nat)} {r b : Nat} (h : PL μ ps) (hl : ps.getLast? = some (r, b)) : PL (upM μ 38 0 (ps.length - 1) (nI (b + 1))) (ps.dropLast ++ [(r, b + 1)]) := by
  rcases List.eq_nil_or_concat ps with rfl | ⟨qs, p, rfl⟩
  · cases hl
  rw [List.concat_eq_append] at h hl ⊢
  rw [List.getLast?_append] at hl
  simp at hl
  subst hl
  rw [List.dropLast_concat]
  rw [List.length_append]
  show PL (upM μ 38 0 (qs.length + 1 - 1) (nI (b + 1))) (qs ++ [(r, b + 1)])
  rw [Nat.add_sub_cancel]
  refine ⟨?_, fun i a' b' q => ?_⟩
  · rw [q_upn (by omega), h.1, List.length_append, List.length_append]
    rfl
  · rw [q_upn (by omega), q_up]
    rcases Nat.lt_trichotomy i qs.length with c | c | c
    · rw [List.getElem?_append_left c] at q
      rw [if_neg (by omega)]
      exact h.2 i a' b' (by rw [List.getElem?_append_left c]; exact q)
    · rw [List.getElem?_append_right (by omega), c, Nat.sub_self] at q
      simp at q
      have := h.2 i r b (by rw [List.getElem?_append_right (by omega), c, Nat.sub_self]; rfl)
      rw [if_pos ⟨rfl, rfl, c⟩, ← q.1, ← q.2]
      exact ⟨this.1, rfl⟩
    · rw [List.getElem?_eq_none (by rw [List.length_append]; simp; omega)] at q
      cases q
theorem psh_len {ps : List (Nat × Nat)} {r : Nat} : (psh ps r).length ≤ ps.length + 1 := by
  unfold psh
  cases e : ps.getLast? with
  | none => simp
  | some p =>
    dsimp only
    split
    · rw [List.length_append, List.length_dropLast, List.length_singleton]
      omega
    · rw [List.length_append]
      simp
theorem psh_8 {ps : List (Nat × Nat)} {r : Nat} (hr : r < 8) (h : ∀ p ∈ ps, p.1 < 8) : ∀ p ∈ psh ps r, p.1 < 8 := by
  unfold psh
  intro p hp
  cases e : ps.getLast? with
  | none => rw [e] at hp; simp at hp; rw [hp]; exact hr
  | some q =>
    rw [e] at hp
    dsimp only at hp
    split at hp
    · rcases List.mem_append.mp hp with z | z
      · exact h p (List.dropLast_subset _ z)
      · simp at z; rw [z]; exact hr
    · rcases List.mem_append.mp hp with z | z
      · exact h p z
      · simp at z; rw [z]; exact hr
theorem tk_find {rw : Nat → List Nat} {w : Nat} : tkOf rw w = match rFind rw w 9 0 with | none => -6 | some r => if r = 8 then -6 else nI r := by
  unfold tkOf rOf
  cases e : rFind rw w 9 0 with
  | none => rfl
  | some r =>
    obtain ⟨a, b, c, d⟩ := rFind_some e
    dsimp only
    by_cases h : r = 8
    · subst h; rfl
    · rw [if_neg h, if_neg (by rw [z_l8, nI_eq (by omega) (by omega)]; exact h)]
theorem m_lay57 {nt t : Nat} {y : yT} {e : Int32 × List Nat} (hg : gN y nt) (ht : y.2.2.2[t]? = some e) : ∀ (d f i : Nat) (k : Nat → Nat) (ps : List (Nat × Nat)) (μ : mT), i + d = e.2.length → d < f → (y.2.1 8).length ≤ i → ps.length ≤ i → (∀ p ∈ ps, p.1 < 8) → (∀ r, r < 8 → k r ≤ i) → (∀ r, r < 8 → ∀ x ∈ (y.2.1 r).take (k r), x ∈ e.2.take i) → TK μ k → PL μ ps → mY (μ 28 0) y →
    ∃ μ', f_X8_layPulls_L57 (nI (450 + 10 * t)) f (nI i) μ = some ((match layM y.2.1 (fun r => (y.2.1 r).drop (k r)) ps (e.2.drop i) with | some _ => 1 | none => 0), μ') ∧ (∀ ps', layM y.2.1 (fun r => (y.2.1 r).drop (k r)) ps (e.2.drop i) = some ps' → PL μ' ps') ∧ only μ μ' L5 ∧ (∀ x, x ≠ 14 → μ' 27 0 x = μ 27 0 x) := by
  have htl := (List.getElem?_eq_some_iff.mp ht).1
  have htl8 := hg.1.2.2.2.2.1
  obtain ⟨o1, o2, o3, o4⟩ := hg.1.2.2.2.2.2 t e ht
  intro d
  induction d with
  | zero =>
    intro f i k ps μ hi hf hE hps hp8 hk1 hk2 hT hP h
    obtain ⟨f, rfl⟩ : ∃ n', f = n' + 1 := ⟨f - 1, by omega⟩
    obtain ⟨f1, f2, f3⟩ := h.2.2.2.2 t e ht
    rw [f_X8_layPulls_L57, z_l1, q_add, q_gdi (by omega) (by omega), q_cl (by omega), f2, if_pos (nI_le (by omega) (by omega)), List.drop_eq_nil_of_le (by omega)]
    exact ⟨μ, rfl, fun ps' q => by cases q; exact hP, only.rf, fun _ _ => rfl⟩
  | succ d ih =>
    intro f i k ps μ hi hf hE hps hp8 hk1 hk2 hT hP h
    obtain ⟨f, rfl⟩ : ∃ n', f = n' + 1 := ⟨f - 1, by omega⟩
    obtain ⟨f1, f2, f3⟩ := h.2.2.2.2 t e ht
    obtain ⟨w, hw⟩ : ∃ w, e.2[i]? = some w := ⟨_, List.getElem?_eq_getElem (by omega)⟩
    have hw30 := o4 w (List.mem_of_getElem? hw)
    have e9 : μ 28 0 (9 : Int32).toNatClampNeg = nI (y.2.1 8).length := h.2.1.n8
    have e1 : ∀ x, (nI x + 1 : Int32) = nI (x + 1) := nI_1
    have e2 : nI (450 + 10 * t) + 2 + nI i = nI (450 + 10 * t + 2 + i) := by rw [z_l2, q_add, q_add]
    rw [f_X8_layPulls_L57, e1, q_gdi (by omega) (by omega), q_cl (by omega), f2, if_neg (nI_ge (by omega) (by omega)), e2, q_gdi (by omega) (by omega), q_cl (by omega), f3 i w hw, q_lt, q_lt, e9, if_pos (nI_le hE (by omega)), m_trackOf h hg (by omega), q_bd, drop_cons_of hw, layM_step]
    cases ef : rFind y.2.1 w 9 0 with
    | none =>
      have etk : tkOf y.2.1 w = -6 := by rw [tk_find, ef]
      rw [etk, if_pos (show (-6 : Int32) < 0 from by decide)]
      exact ⟨μ, rfl, fun ps' q => (by cases q), only.rf, fun _ _ => rfl⟩
    | some r =>
      dsimp only
      obtain ⟨-, hr9, hwr, -⟩ := rFind_some ef
      by_cases c8 : r = 8
      · have etk : tkOf y.2.1 w = -6 := by rw [tk_find, ef]; exact if_pos c8
        rw [etk, if_pos c8, if_pos (show (-6 : Int32) < 0 from by decide)]
        exact ⟨μ, rfl, fun ps' q => (by cases q), only.rf, fun _ _ => rfl⟩
      · have hr8 : r < 8 := by omega
        have hkr := hk1 r hr8
        have hl30 := (hg.1.1 r hr9).1
        have hklt : k r < (y.2.1 r).length := by
          rcases Nat.lt_or_ge (k r) (y.2.1 r).length with q | q
          · exact q
          · have := hk2 r hr8 w (by rw [List.take_of_length_le q]; exact hwr)
            obtain ⟨i', hi1, hi2⟩ := List.getElem_of_mem this
            rw [List.length_take] at hi1
            rw [List.getElem_take] at hi2
            have := nd_inj o3 (i := i') (i' := i) (by rw [List.getElem?_eq_getElem (by omega), hi2]) hw
            omega
        obtain ⟨u, hu⟩ : ∃ u, (y.2.1 r)[k r]? = some u := ⟨_, List.getElem?_eq_getElem hklt⟩
        have hu30 := (hg.1.1 r hr9).2.1 u (List.mem_of_getElem? hu)
        have e60 : (60 : Int32) + 30 * nI r = nI (60 + 30 * r) := by rw [z_l60, z_l30, q_mul, q_add]
        have hhd : ((y.2.1 r).drop (k r)).head? = some u := by
          rw [drop_cons_of hu]
          rfl
        have etk : tkOf y.2.1 w = nI r := by rw [tk_find, ef]; exact if_neg c8
        rw [etk, if_neg c8, if_neg (nI_pos (by omega)), q_gdi hr8 (by omega), q_cl (by omega), hT r hr8, e60, q_add, q_gdi (by omega) (by omega), q_cl (by omega), (h.2.1 r hr9).2 (k r) u hu, hhd]
        by_cases cu : u = w
        case neg =>
          rw [if_neg (show ¬ some u = some w from fun z => cu (Option.some.inj z)), if_neg (show ¬ nI u = nI w from by rw [nI_eq (by omega) (by omega)]; exact cu)]
          exact ⟨μ, rfl, fun ps' q => (by cases q), only.rf, fun _ _ => rfl⟩
        rw [if_pos (show some u = some w from by rw [cu]), if_pos (show nI u = nI w from by rw [cu]), q_gdi hr8 (by omega), q_gdi hr8 (by omega), q_lt, q_lt, e1]
        have hT1 : TK (upM μ 36 0 r (nI (k r + 1))) (fun r' => if r' = r then k r + 1 else k r') := fun r' hr' => by
          rw [q_up]
          dsimp only
          by_cases c : r' = r
          · rw [if_pos c, if_pos ⟨rfl, rfl, c⟩]
          · rw [if_neg c, if_neg (fun z => c z.2.2)]
            exact hT r' hr'
        have hP1 : PL (upM μ 36 0 r (nI (k r + 1))) ps := ⟨by rw [q_upn (by omega)]; exact hP.1, fun i a b q => by rw [q_upn (by omega), q_upn (by omega)]; exact hP.2 i a b q⟩
        have ho1 : only μ (upM μ 36 0 r (nI (k r + 1))) L5 := (q_uple rfl).w (by unfold L5; omega)
        have h271 : ∀ x, (upM μ 36 0 r (nI (k r + 1))) 27 0 x = μ 27 0 x := fun x => by rw [q_upn (by omega)]
        have h281 : mY ((upM μ 36 0 r (nI (k r + 1))) 28 0) y := by rw [q_upn (by omega)]; exact h
        generalize upM μ 36 0 r (nI (k r + 1)) = μ1 at hT1 hP1 ho1 h271 h281 ⊢
        have hcur : (fun r' => if r' = r then ((y.2.1 r).drop (k r)).tail else (y.2.1 r').drop (k r')) = (fun r' => (y.2.1 r').drop (if r' = r then k r + 1 else k r')) := by
          funext r'
          by_cases c : r' = r
          · rw [if_pos c, if_pos c, c, List.tail_drop]
          · rw [if_neg c, if_neg c]
        have hk2' : ∀ r', r' < 8 → ∀ x ∈ (y.2.1 r').take (if r' = r then k r + 1 else k r'), x ∈ e.2.take (i + 1) := fun r' hr' x hx => by
          have hm : ∀ x, x ∈ e.2.take i → x ∈ e.2.take (i + 1) := fun x hx => by
            rw [List.take_succ]
            exact List.mem_append_left _ hx
          by_cases c : r' = r
          · rw [if_pos c, c, List.take_succ, hu] at hx
            rcases List.mem_append.mp hx with z | z
            · exact hm x (hk2 r hr8 x z)
            · simp at z
              rw [List.take_succ, hw, z, cu]
              exact List.mem_append_right _ (by simp)
          · rw [if_neg c] at hx
            exact hm x (hk2 r' hr' x hx)
        -- what follows, from a memory that holds the longer list
        have go : ∀ μ2, TK μ2 (fun r' => if r' = r then k r + 1 else k r') → PL μ2 (psh ps r) → mY (μ2 28 0) y → only μ1 μ2 L5 → (∀ x, x ≠ 14 → μ2 27 0 x = μ1 27 0 x) →
            ∃ μ', f_X8_layPulls_L57 (nI (450 + 10 * t)) f (nI (i + 1)) μ2 = some ((match layM y.2.1 (fun r' => if r' = r then ((y.2.1 r).drop (k r)).tail else (y.2.1 r').drop (k r')) (psh ps r) (e.2.drop (i + 1)) with | some _ => 1 | none => 0), μ') ∧ (∀ ps', layM y.2.1 (fun r' => if r' = r then ((y.2.1 r).drop (k r)).tail else (y.2.1 r').drop (k r')) (psh ps r) (e.2.drop (i + 1)) = some ps' → PL μ' ps') ∧ only μ μ' L5 ∧ (∀ x, x ≠ 14 → μ' 27 0 x = μ 27 0 x) := fun μ2 hT2 hP2 h2 ho2 h27 => by
          rw [hcur]
          obtain ⟨μ', g1, g2, g3, g4⟩ := ih f (i + 1) (fun r' => if r' = r then k r + 1 else k r') (psh ps r) μ2 (by omega) (by omega) (by omega) (Nat.le_trans psh_len (by omega)) (psh_8 hr8 hp8) (fun r' hr' => by
            try dsimp only
            have := hk1 r' hr'
            split <;> omega) hk2' hT2 hP2 h2
          exact ⟨μ', g1, g2, ho1.tr (ho2.tr g3), fun x hx => by rw [g4 x hx, h27 x hx, h271]⟩
        have goN : ps.length < 8 → psh ps r = ps ++ [(r, 1)] → ∃ μ', gd (inb (μ1 27 0 14) 8) (lt (upM μ1 37 0 (μ1 27 0 14).toNatClampNeg (nI r)) (fun μ18 => gd (inb (μ18 27 0 14) 8) (lt (upM μ18 38 0 (μ18 27 0 14).toNatClampNeg 1) (fun μ19 => lt (upM μ19 27 0 14 ((μ19 27 0 14) + 1)) (fun μ20 => lt (nI i + 1 : Int32) (fun v12 => f_X8_layPulls_L57 (nI (450 + 10 * t)) f v12 μ20)))))) = some ((match layM y.2.1 (fun r' => if r' = r then ((y.2.1 r).drop (k r)).tail else (y.2.1 r').drop (k r')) (psh ps r) (e.2.drop (i + 1)) with | some _ => 1 | none => 0), μ') ∧ (∀ ps', layM y.2.1 (fun r' => if r' = r then ((y.2.1 r).drop (k r)).tail else (y.2.1 r').drop (k r')) (psh ps r) (e.2.drop (i + 1)) = some ps' → PL μ' ps') ∧ only μ μ' L5 ∧ (∀ x, x ≠ 14 → μ' 27 0 x = μ 27 0 x) := fun hl hq => by
          have g14 : upM μ1 37 0 ps.length (nI r) 27 0 14 = nI ps.length := by rw [q_upn (by omega)]; exact hP1.1
          have g14' : upM (upM μ1 37 0 ps.length (nI r)) 38 0 ps.length 1 27 0 14 = nI ps.length := by rw [q_upn (by omega)]; exact g14
          rw [hP1.1, q_gdi hl (by omega), q_cl (by omega), q_lt, g14, q_gdi hl (by omega), q_cl (by omega), q_lt, g14', e1, e1, q_lt, q_lt]
          refine go _ (fun r' hr' => ?_) (by rw [hq]; exact hP1.new) ?_ ?_ (fun x hx => ?_)
          · rw [q_upn (by omega), q_upn (by omega), q_upn (by omega)]
            exact hT1 r' hr'
          · rw [q_upn (by omega), q_upn (by omega), q_upn (by omega)]
            exact h281
          · exact only.tr ((q_uple rfl).w (by unfold L5; omega)) (only.tr ((q_uple rfl).w (by unfold L5; omega)) ((q_uple rfl).w (by unfold L5; omega)))
          · rw [q_up, if_neg (by omega), q_upn (by omega), q_upn (by omega)]
        have h14 : μ1 27 0 14 = nI ps.length := hP1.1
        cases el : ps.getLast? with
        | none =>
          have hnil := List.getLast?_eq_none_iff.mp el
          have := goN (by omega) (by rw [hnil]; rfl)
          rw [if_pos (show μ1 27 0 14 ≤ 0 from by rw [h14, hnil]; decide)]
          exact this
        | some p =>
          obtain ⟨a, b⟩ := p
          have hne : ps.length ≠ 0 := fun z => by rw [List.length_eq_zero_iff.mp z] at el; cases el
          have hgl : ps[ps.length - 1]? = some (a, b) := by rw [← List.getLast?_eq_getElem?]; exact el
          have ha8 : a < 8 := hp8 (a, b) (List.mem_of_getElem? hgl)
          obtain ⟨p1, p2⟩ := hP1.2 _ a b hgl
          rw [if_neg (show ¬ μ1 27 0 14 ≤ 0 from by rw [h14]; exact nI_nle (by omega) (by omega))]
          rw [show μ1 27 0 14 - 1 = nI (ps.length - 1) from by rw [h14, z_l1, q_sub (by omega)], q_gdi (by omega) (by omega), q_cl (by omega), p1]
          by_cases ca : a = r
          · rw [if_pos (show nI a = nI r from by rw [ca]), q_gdi (by omega) (by omega), q_gdi (by omega) (by omega), p2, e1, q_lt]
            try dsimp only
            rw [q_lt, e1]
            have hq : psh ps r = ps.dropLast ++ [(r, b + 1)] := by
              unfold psh
              rw [el]
              dsimp only
              rw [if_pos ca]
            refine go _ (fun r' hr' => ?_) (by rw [hq]; exact hP1.inc (by rw [el, ca])) ?_ ((q_uple rfl).w (by unfold L5; omega)) (fun x hx => ?_)
            · rw [q_upn (by omega)]
              exact hT1 r' hr'
            · rw [q_upn (by omega)]
              exact h281
            · rw [q_upn (by omega)]
          · rw [if_neg (show ¬ nI a = nI r from by rw [nI_eq (by omega) (by omega)]; exact ca)]
            exact goN (by omega) (psh_new (fun a' b' z => by rw [el] at z; cases z; exact ca))
