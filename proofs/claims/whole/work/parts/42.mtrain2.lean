theorem tFind_lt {w : Nat} : ∀ {l : List (Int32 × List Nat)} {i t : Nat}, tFind w i l = some t → i ≤ t ∧ t < i + l.length
  | [], i, t, h => by cases h
  | e :: l, i, t, h => by
    unfold tFind at h
    split at h
    · cases h
      exact ⟨Nat.le_refl _, by rw [List.length_cons]; omega⟩
    · have := tFind_lt h
      rw [List.length_cons]
      omega
theorem m_readList {nt nw tm B : Nat} {y : yT} {μ : mT} (h : mY (μ 28 0) y) (hi : iY y nt nw tm B) (a : Int64) : ∃ μ', f_X8_readList a μ = some (cIf (areT y.2.1 (tLs a)) (nI (tLs a).length) 0, μ') ∧ (areT y.2.1 (tLs a) → ∀ k w, (tLs a)[k]? = some w → μ' 35 0 k = nI w) ∧ only μ μ' (fun κ j => κ = 35 ∧ j = 0) := by
  unfold f_X8_readList
  have hnil : ¬ areT y.2.1 [] := fun z => z.1 rfl
  by_cases c : a < 0
  · have e : tLs a = [] := if_pos c
    rw [e, cIf_f hnil]
    refine ⟨μ, ?_, fun z => absurd z hnil, only.rf⟩
    rw [show fu = 3999 + 1 from rfl, f_X8_readList_L8, lg_neg c, if_pos (by decide)]
  · obtain ⟨N, hN, rfl⟩ := pk_lOf c
    have e : tLs (lN N) = (rd 8 N).getD [] := by
      unfold tLs
      rw [if_neg c, pk_lT hN, Int.toNat_natCast]
    obtain ⟨μ', a1, a2, a3, a4⟩ := m_rd hi.hnw hi.nw30 8 fu 0 N 0 [] μ rfl (by unfold fu; omega) hN (by decide) (fun k _ => by simp) h
    refine ⟨μ', ?_, ?_, a4⟩
    · rw [z_l0] at a1 ⊢
      rw [a1, e]
      cases rd 8 N with
      | none =>
        dsimp only [Option.getD_none]
        rw [cIf_f hnil]
      | some l =>
        dsimp only [Option.getD_some]
        by_cases c1 : areT y.2.1 l
        · rw [cIf_t c1, if_pos ((areT_iff hi l).mp c1).2, Nat.zero_add]
        · rw [cIf_f c1]
          by_cases c2 : okL y nw [] l = true
          · rw [if_pos c2]
            have : l = [] := Classical.byContradiction fun z => c1 ((areT_iff hi l).mpr ⟨z, c2⟩)
            rw [this]
            rfl
          · rw [if_neg c2]
    · rw [e]
      cases e' : rd 8 N with
      | none => intro z; exact absurd z hnil
      | some l =>
        dsimp only [Option.getD_some]
        intro z k w q
        have := a3 l e' ((areT_iff hi l).mp z).2 k w q
        rwa [Nat.zero_add] at this
theorem m_tr1 {a3 : Int32} {ws : List Nat} {y : yT} {μ : mT} (h : mY (μ 28 0) y) (ho : tOK y.2.2.2) (hl : ws.length ≤ 8) (hw : ∀ w ∈ ws, w < 30) (h35 : ∀ k w, ws[k]? = some w → μ 35 0 k = nI w) {K : mT → Option (Int32 × mT)} : ∀ (d n i : Nat), i + d = ws.length → d < n →
    (f_X8_train_L59 a3 (nI ws.length) K n (nI i) μ = K μ ∧ ∀ w ∈ ws.drop i, tOf y.2.2.2 w = -6) ∨ (f_X8_train_L59 a3 (nI ws.length) K n (nI i) μ = some (-5, μ) ∧ ∃ w ∈ ws.drop i, ¬ tOf y.2.2.2 w = -6) := by
  intro d
  induction d with
  | zero =>
    intro n i hi hn
    obtain ⟨n, rfl⟩ : ∃ n', n = n' + 1 := ⟨n - 1, by omega⟩
    left
    rw [f_X8_train_L59, if_pos (nI_le (by omega) (by omega)), List.drop_eq_nil_of_le (by omega)]
    exact ⟨rfl, fun w h => (List.not_mem_nil h).elim⟩
  | succ d ih =>
    intro n i hi hn
    obtain ⟨n, rfl⟩ : ∃ n', n = n' + 1 := ⟨n - 1, by omega⟩
    obtain ⟨w, hwi⟩ : ∃ w, ws[i]? = some w := ⟨_, List.getElem?_eq_getElem (by omega)⟩
    have hw30 := hw w (List.mem_of_getElem? hwi)
    rw [f_X8_train_L59, if_neg (nI_ge (by omega) (by omega)), q_gdi (by omega) (by omega), q_cl (by omega), h35 i w hwi, m_trainOf h ho (by omega), q_bd, drop_cons_of hwi]
    have htl := ho.1
    by_cases q : tOf y.2.2.2 w = -6
    · rw [if_pos (by rw [q]; decide), q_lt, z_l1, q_add]
      rcases ih n (i + 1) (by omega) (by omega) with ⟨b1, b2⟩ | ⟨b1, w', b2, b3⟩
      · left
        refine ⟨b1, fun w' h => ?_⟩
        rcases List.mem_cons.mp h with rfl | h
        · exact q
        · exact b2 w' h
      · right
        exact ⟨b1, w', List.mem_cons_of_mem _ b2, b3⟩
    · right
      have hn : ¬ tOf y.2.2.2 w < 0 := by
        unfold tOf at q ⊢
        cases e : tFind w 0 y.2.2.2 with
        | none => rw [e] at q; exact absurd rfl q
        | some t =>
          have := tFind_lt e
          exact nI_pos (by omega)
      rw [if_neg hn]
      exact ⟨rfl, w, List.mem_cons_self, q⟩
theorem m_tr2 {ws : List Nat} {L : Nat} {ρ : Nat → Int32} (hL : L < 8) (hl : ws.length ≤ 8) : ∀ (d n i : Nat) (μ : mT), i + d = ws.length → d < n → (∀ k w, ws[k]? = some w → μ 35 0 k = nI w) → (∀ x, x < 450 + 10 * L + 2 ∨ 450 + 10 * L + 10 ≤ x → μ 28 0 x = ρ x) → (∀ k w, k < i → ws[k]? = some w → μ 28 0 (450 + 10 * L + 2 + k) = nI w) →
    ∃ μ', (∀ K, f_X8_train_L131 (nI ws.length) (nI (450 + 10 * L)) K n (nI i) μ = K μ') ∧ (∀ x, x < 450 + 10 * L + 2 ∨ 450 + 10 * L + 10 ≤ x → μ' 28 0 x = ρ x) ∧ (∀ k w, ws[k]? = some w → μ' 28 0 (450 + 10 * L + 2 + k) = nI w) ∧ only μ μ' Mo := by
  intro d
  induction d with
  | zero =>
    intro n i μ hi hn h35 hx hk
    obtain ⟨n, rfl⟩ : ∃ n', n = n' + 1 := ⟨n - 1, by omega⟩
    refine ⟨μ, ?_, hx, fun k w q => hk k w (by have := (List.getElem?_eq_some_iff.mp q).1; omega) q, only.rf⟩
    intro K
    rw [f_X8_train_L131, if_pos (nI_le (by omega) (by omega))]
  | succ d ih =>
    intro n i μ hi hn h35 hx hk
    obtain ⟨n, rfl⟩ : ∃ n', n = n' + 1 := ⟨n - 1, by omega⟩
    obtain ⟨w, hwi⟩ : ∃ w, ws[i]? = some w := ⟨_, List.getElem?_eq_getElem (by omega)⟩
    have er := h35 i w hwi
    have hstep : ∀ K, f_X8_train_L131 (nI ws.length) (nI (450 + 10 * L)) K (n + 1) (nI i) μ = f_X8_train_L131 (nI ws.length) (nI (450 + 10 * L)) K n (nI (i + 1)) (upM μ 28 0 (450 + 10 * L + 2 + i) (nI w)) := by
      intro K
      rw [f_X8_train_L131, if_neg (nI_ge (by omega) (by omega))]
      simp (disch := omega) only [z_l2, z_l1, q_add, q_gdi, q_cl, q_lt, er]
    simp only [hstep]
    obtain ⟨μ', g1, g2, g3, g4⟩ := ih n (i + 1) (upM μ 28 0 (450 + 10 * L + 2 + i) (nI w)) (by omega) (by omega) (fun k w q => by rw [q_upn (by omega)]; exact h35 k w q) (fun x q => by
      rw [r28, upd_e, if_neg (by omega)]
      exact hx x q) (fun k w' q1 q2 => by
      rw [r28, upd_e]
      by_cases c : k = i
      · subst c
        rw [if_pos rfl]
        rw [hwi] at q2
        cases q2
        rfl
      · rw [if_neg (by omega)]
        exact hk k w' (by omega) q2)
    exact ⟨μ', g1, g2, g3, (only28 rfl).tr g4⟩
theorem m_train {nt nw tm B : Nat} {a : Int64} {due : Int32} {y : yT} {hp : hT} {tx : Bool} {μ : mT} (h : hM μ y hp tx) (hi : iY y nt nw tm B) (hf : hF hp) :
    ∃ μ', f_X8_train a due μ = some ((sTrain y (tLs a) due).1, μ') ∧ hM μ' (sTrain y (tLs a) due).2 (if (sTrain y (tLs a) due).1 < 0 then hp else pT tx hp y) tx ∧ only μ μ' (fun κ j => (κ = 27 ∨ κ = 28 ∨ κ = 31 ∨ κ = 35) ∧ j = 0) ∧ k27 μ μ' := by
  unfold f_X8_train sTrain
  obtain ⟨l8, l30⟩ := tLs_len a
  obtain ⟨μ0, a1, a2, a3⟩ := m_readList h.1 hi a
  have h' : hM μ0 y hp tx := ⟨by rw [a3 28 0 (by omega)]; exact h.1, by rw [a3 27 0 (by omega)]; exact h.2.1, h.2.2.1, by rw [a3 31 0 (by omega)]; exact h.2.2.2.1, by rw [a3 27 0 (by omega)]; exact h.2.2.2.2⟩
  have hk0 : k27 μ μ0 := fun k _ => by rw [a3 27 0 (by omega)]
  generalize tLs a = ws at *
  rw [a1, q_bd]
  have fin : ∀ (r : Int32 × yT) (o : Option (Int32 × mT)), MR μ0 y hp tx r o → ∃ μ', o = some (r.1, μ') ∧ hM μ' r.2 (if r.1 < 0 then hp else pT tx hp y) tx ∧ only μ μ' (fun κ j => (κ = 27 ∨ κ = 28 ∨ κ = 31 ∨ κ = 35) ∧ j = 0) ∧ k27 μ μ' := fun r o ⟨μ', q1, q2, q3, q4⟩ => ⟨μ', q1, q2, (a3.w (by omega)).tr (q3.w (by unfold Mh; omega)), hk0.tr q4⟩
  by_cases c1 : areT y.2.1 ws
  case neg =>
    rw [cIf_f c1, cIf_f c1, if_pos (by decide)]
    exact fin _ _ (MR.no h' _ (by decide))
  rw [cIf_t c1, cIf_t c1]
  have hne : ws.length ≠ 0 := fun z => c1.1 (List.length_eq_zero_iff.mp z)
  have h35 := a2 c1
  have g6 : μ0 28 0 (6 : Int32).toNatClampNeg = y.1 0 6 := h'.1.1.z (k := 6) (by omega)
  have g11 : μ0 28 0 (11 : Int32).toNatClampNeg = nI y.2.2.2.length := h'.1.2.2.2.1
  have htl := hi.tok.1
  rw [if_neg (show ¬ nI ws.length < 1 from fun q => by
    rw [z_l1, nI_ltI (by omega) (by omega)] at q
    omega), g6, m_in, q_bd]
  by_cases c2 : due < y.1 0 6 ∨ y.1 0 6 + 5000 < due
  case pos =>
    rw [if_pos c2, if_pos c2, if_pos p00]
    exact fin _ _ (MR.no h' _ (by decide))
  rw [if_neg c2, if_neg c2, if_neg n10, g11, z_l8]
  by_cases c3 : 8 ≤ y.2.2.2.length
  case pos =>
    rw [if_pos c3, if_pos (by rw [show y.2.2.2.length = 8 by omega])]
    exact fin _ _ (MR.no h' _ (by decide))
  rw [if_neg c3, if_neg (show ¬ nI y.2.2.2.length = nI 8 from by rw [nI_eq (by omega) (by omega)]; omega), q_lt]
  rcases m_tr1 (a3 := due) (K := fun μ8 => bd (f_X8_record μ8) (fun _ μ10 => lt (450 + (10 * (μ10 28 0 (11 : Int32).toNatClampNeg)) : Int32) (fun v11 => gd (inb v11 560) (lt (upM μ10 28 0 v11.toNatClampNeg due) (fun μ12 => gd (inb (v11 + 1) 560) (lt (upM μ12 28 0 (v11 + 1).toNatClampNeg (nI ws.length)) (fun μ13 => lt (fun (μ17 : mT) => lt (upM μ17 28 0 (11 : Int32).toNatClampNeg ((μ17 28 0 (11 : Int32).toNatClampNeg) + 1)) (fun μ18 => some ((μ18 28 0 (11 : Int32).toNatClampNeg) - 1, μ18))) (fun K16 => f_X8_train_L131 (nI ws.length) v11 K16 fu 0 μ13)))))))) h'.1 hi.tok l8 l30 h35 ws.length fu 0 (by omega) (by unfold fu; omega) with ⟨b1, b2⟩ | ⟨b1, b2⟩
  case inr =>
    rw [cIf_f (fun z => by
      obtain ⟨w, q1, q2⟩ := b2
      rw [List.drop_zero] at q1
      exact q2 (z w q1))]
    rw [← z_l0] at b1
    exact fin _ _ ⟨μ0, b1, h', only.rf, fun _ _ => rfl⟩
  rw [List.drop_zero] at b2
  rw [cIf_t b2]
  rw [← z_l0] at b1
  refine fin _ _ ?_
  refine Eq.mpr (congrArg (MR μ0 y hp tx _) b1) ?_
  obtain ⟨μ1, d1, d2, d3, d4⟩ := m_record h' hi.g hf
  have j11 : μ1 28 0 (11 : Int32).toNatClampNeg = nI y.2.2.2.length := d2.1.2.2.2.1
  generalize hL : y.2.2.2.length = L at *
  rw [d1, q_bd, j11, z_l450, z_l10, q_mul, q_add, q_lt, q_gdi (by omega) (by omega), q_cl (by omega), q_lt, z_l1, q_add, q_gdi (by omega) (by omega), q_cl (by omega), q_lt, q_lt]
  have h35' : ∀ k w, ws[k]? = some w → μ1 35 0 k = nI w := fun k w q => by
    rw [d3 35 0 (by omega)]
    exact h35 k w q
  obtain ⟨μ2, e1, e2, e3, e4⟩ := m_tr2 (L := L) (ρ := upd (upd (μ1 28 0) (450 + 10 * L) due) (450 + 10 * L + 1) (nI ws.length)) (by omega) l8 ws.length fu 0 (upM (upM μ1 28 0 (450 + 10 * L) due) 28 0 (450 + 10 * L + 1) (nI ws.length)) (by omega) (by unfold fu; omega) (fun k w q => by rw [q_upn (by omega), q_upn (by omega)]; exact h35' k w q) (fun x _ => by rw [r28, r28]) (fun k w q => absurd q (by omega))
  rw [← z_l0] at e1
  rw [e1]
  have k11 : μ2 28 0 (11 : Int32).toNatClampNeg = nI L := by
    rw [e2 _ (by show 11 < _ ∨ _; omega), upd_e, upd_e, if_neg (by show ¬ 11 = _; omega), if_neg (by show ¬ 11 = _; omega)]
    exact j11
  rw [k11, q_add, q_lt]
  have l11 : upM μ2 28 0 (11 : Int32).toNatClampNeg (nI (L + 1)) 28 0 (11 : Int32).toNatClampNeg = nI (L + 1) := by
    rw [r28]
    exact if_pos rfl
  rw [l11, q_sub (by omega), Nat.add_sub_cancel]
  refine MR.yes d2 d3 d4 ?_ (only.tr (only28 rfl) (only.tr (only28 rfl) (e4.tr (only28 rfl)))) (nI_pos (by omega))
  rw [r28]
  have hx : ∀ x, x < 450 + 10 * L ∨ 450 + 10 * L + 10 ≤ x → x ≠ 11 → upd (μ2 28 0) (11 : Int32).toNatClampNeg (nI (L + 1)) x = μ1 28 0 x := fun x q1 q2 => by
    rw [upd_e, if_neg (by show ¬ x = 11; exact q2), e2 x (by omega), upd_e, upd_e, if_neg (by omega), if_neg (by omega)]
  refine ⟨d2.1.1.cong (fun x q => hx x (by omega) (by omega)), d2.1.2.1.cong hi.rOK (fun x q => hx x (by omega) (by omega)), d2.1.2.2.1.cong (fun x q => hx x (by omega) (by omega)), ?_, fun t e q => ?_⟩
  · rw [upd_e]
    dsimp only
    rw [List.length_append, hL]
    exact if_pos rfl
  · dsimp only at q
    rcases Nat.lt_trichotomy t L with c | c | c
    · rw [List.getElem?_append_left (by omega)] at q
      obtain ⟨f1, f2, f3⟩ := d2.1.2.2.2.2 t e q
      obtain ⟨o1, o2, o3, o4⟩ := hi.tok.2 t e q
      refine ⟨by rw [hx _ (by omega) (by omega)]; exact f1, by rw [hx _ (by omega) (by omega)]; exact f2, fun k w z => ?_⟩
      have := (List.getElem?_eq_some_iff.mp z).1
      rw [hx _ (by omega) (by omega)]
      exact f3 k w z
    · subst c
      rw [List.getElem?_append_right (by omega), show t - y.2.2.2.length = 0 by omega] at q
      simp at q
      subst q
      dsimp only
      have hy : ∀ x, 20 ≤ x → upd (μ2 28 0) (11 : Int32).toNatClampNeg (nI (t + 1)) x = μ2 28 0 x := fun x z => by
        rw [upd_e, if_neg (by show ¬ x = 11; omega)]
      refine ⟨?_, ?_, fun k w z => ?_⟩
      · rw [hy _ (by omega), e2 _ (by omega), upd_e, upd_e, if_neg (by omega), if_pos rfl]
      · rw [hy _ (by omega), e2 _ (by omega), upd_e, if_pos rfl]
      · rw [hy _ (by omega)]
        exact e3 k w z
    · rw [List.getElem?_eq_none (by rw [List.length_append]; simp; omega)] at q
      cases q
