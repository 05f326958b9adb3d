theorem q_ltJ {α β : Type} {a : α} {f : α → β} {b : β} (h : ∀ J, J = a → f J = b) : lt a f = b := h a rfl
def yTr (y : yT) (due : Int32) (ws : List Nat) : yT := (y.1, y.2.1, y.2.2.1, y.2.2.2 ++ [(due, ws)])
def gW (y : yT) (nw : Nat) (l : List Nat) : Prop := ∀ w ∈ l, w < nw ∧ y.1 5 w < 0
def fW (y : yT) (nw : Nat) (l : List Nat) : Prop := ∀ w ∈ l, nw ≤ w ∨ tOf y.2.2.2 w = -6
noncomputable def gI (y : yT) (nw : Nat) (l : List Nat) : Int32 := cIf (gW y nw l) 1 0
noncomputable def fI (y : yT) (nw : Nat) (l : List Nat) : Int32 := cIf (fW y nw l) 1 0
section TRAIN
variable {y : yT} {nt nw tm B : Nat}
theorem sTrain_b {ws : List Nat} {due : Int32} (hi : iY y nt nw tm B) (hne : ws ≠ []) (hnd : ws.Nodup) (hg : ¬ gW y nw ws) : sTrain y ws due = (-2, y) := by
  unfold sTrain
  rw [cIf_f (fun z => hg ((areT_g hi hne hnd).mp z))]
theorem sTrain_g {ws : List Nat} {d : Nat} (hi : iY y nt nw tm B) (hB : B < 1000000000) (hne : ws ≠ []) (hnd : ws.Nodup) (hd : d ≤ 200) (hg : gW y nw ws) : sTrain y ws (nI (tm + d)) = if y.2.2.2.length = 8 then (-4, y) else cIf (fW y nw ws) (nI y.2.2.2.length, yTr y (nI (tm + d)) ws) (-5, y) := by
  have htm := hi.tmB
  have h8 := hi.tok.1
  have e5 : (5000 : Int32) = nI 5000 := rfl
  unfold sTrain
  rw [cIf_t ((areT_g hi hne hnd).mpr hg), hi.htm, if_neg (by rw [e5, nI_add, nI_ltI (by omega) (by omega), nI_ltI (by omega) (by omega)]; omega)]
  by_cases c : y.2.2.2.length = 8
  · rw [if_pos (by omega), if_pos c]
  · rw [if_neg (by omega), if_neg c]
    by_cases q : fW y nw ws
    · rw [cIf_t q, cIf_t (fun w hw => (q w hw).resolve_left (fun z => by have := (hg w hw).1; omega))]
      rfl
    · rw [cIf_f q, cIf_f (fun z => q (fun w hw => Or.inr (z w hw)))]
theorem iY_train {ws : List Nat} {d : Nat} (hi : iY y nt nw tm B) (hB : B < 1000000000) (hne : ws ≠ []) (hnd : ws.Nodup) (hl : ws.length ≤ 8) (hw : ∀ w ∈ ws, w < 30) (hd : d ≤ 200) (hg : gW y nw ws) (hf : fW y nw ws) (h8 : y.2.2.2.length ≠ 8) : iY (yTr y (nI (tm + d)) ws) nt nw tm (B + 5000) := by
  have h := kp_train (x := lN (CN ws)) (due := nI (tm + d)) (⟨nt, nw, tm, hi⟩ : kY y B) hB
  rw [tLs_CN hl hw, sTrain_g hi hB hne hnd hd hg, if_neg h8, cIf_t hf] at h
  have := hi.tmB
  exact kY_id h (by omega) hi.hnt hi.nt8 hi.hnw hi.nw30 hi.htm (by omega)
theorem pE_train {ws : List Nat} {due : Int32} (he : pE y nw tm) : pE (yTr y due ws) nw tm :=
  pE_of he (fun _ _ => rfl) rfl rfl rfl rfl (fun r w hr hw => ⟨r, hr, hw⟩) he.2.2.1 (Nat.le_refl _)
theorem gI_c {l : List Nat} {w : Nat} : gW y nw (w :: l) ↔ (w < nw ∧ y.1 5 w < 0) ∧ gW y nw l :=
  ⟨fun h => ⟨h w List.mem_cons_self, fun x hx => h x (List.mem_cons_of_mem _ hx)⟩, fun h x hx => by
    rcases List.mem_cons.mp hx with rfl | hx
    · exact h.1
    · exact h.2 x hx⟩
theorem fI_c {l : List Nat} {w : Nat} : fW y nw (w :: l) ↔ (nw ≤ w ∨ tOf y.2.2.2 w = -6) ∧ fW y nw l :=
  ⟨fun h => ⟨h w List.mem_cons_self, fun x hx => h x (List.mem_cons_of_mem _ hx)⟩, fun h x hx => by
    rcases List.mem_cons.mp hx with rfl | hx
    · exact h.1
    · exact h.2 x hx⟩
variable {fi st : Nat}
def wk (fi st k : Nat) : Nat := (fi + st * k) % 30
def wls (fi st r : Nat) : List Nat := (List.range r).map (wk fi st)
theorem wls_s {r : Nat} : wls fi st (r + 1) = wls fi st r ++ [wk fi st r] := by
  unfold wls
  rw [List.range_succ, List.map_append]
  rfl
theorem wls_len {r : Nat} : (wls fi st r).length = r := by
  unfold wls
  rw [List.length_map, List.length_range]
theorem wls_at {r k : Nat} (h : k < r) : (wls fi st r)[k]? = some (wk fi st k) := by
  unfold wls
  rw [List.getElem?_map, List.getElem?_range h]
  rfl
theorem wls_30 {r : Nat} : ∀ w ∈ wls fi st r, w < 30 := fun w hw => by
  obtain ⟨k, -, rfl⟩ := List.mem_map.mp hw
  exact Nat.mod_lt _ (by omega)
theorem wls_nd {r : Nat} (hf : fi < 30) (hs : 1 ≤ st ∧ st ≤ 3) (hr : r ≤ 4) : (wls fi st r).Nodup := by
  unfold List.Nodup
  rw [List.pairwise_iff_getElem]
  intro i j hi hj hij e
  rw [wls_len] at hi hj
  have e1 := wls_at (fi := fi) (st := st) hi
  have e2 := wls_at (fi := fi) (st := st) hj
  rw [List.getElem?_eq_getElem (by rw [wls_len]; exact hi)] at e1
  rw [List.getElem?_eq_getElem (by rw [wls_len]; exact hj)] at e2
  have e3 : wk fi st i = wk fi st j := by rw [← Option.some.inj e1, ← Option.some.inj e2, e]
  unfold wk at e3
  rcases (show st = 1 ∨ st = 2 ∨ st = 3 by omega) with rfl | rfl | rfl <;> omega
theorem wk_eq {k : Nat} (hf : fi < 30) (hs : st ≤ 3) (hk : k < 100) : nI fi + nI st * nI k - (nI fi + nI st * nI k) / 30 * 30 = nI (wk fi st k) := by
  have h1 : st * k ≤ 3 * 100 := Nat.mul_le_mul hs (by omega)
  have e30 : (30 : Int32) = nI 30 := rfl
  rw [q_mul, q_add, e30, q_rem (by omega) (by omega)]
  rfl
theorem tr_1 {μ : mT} {a3 a4 : Int32} (h : PR μ y) (hi : iY y nt nw tm B) (hf : fi < 30) (hs : st ≤ 3) : ∀ (r f : Nat) (l : List Nat), r ≤ 90 → r < f → ∀ K, f_L_isTrain_L21 (nI fi) (nI st) a3 a4 (nI nw) K f (lN (CN l)) (gI y nw l) (fI y nw l) (nI r - 1) μ = K (lN (CN (wls fi st r ++ l))) (gI y nw (wls fi st r ++ l)) (fI y nw (wls fi st r ++ l)) μ := by
  have h30 := hi.nw30
  have h8 := hi.tok.1
  intro r
  induction r with
  | zero =>
    intro f l hr hf' K
    obtain ⟨f, rfl⟩ : ∃ n', f = n' + 1 := ⟨f - 1, by omega⟩
    rw [f_L_isTrain_L21, if_pos (by decide)]
    rfl
  | succ r ih =>
    intro f l hr hf' K
    obtain ⟨f, rfl⟩ : ∃ n', f = n' + 1 := ⟨f - 1, by omega⟩
    have e1 : nI (r + 1) - 1 = nI r := by rw [show (1 : Int32) = nI 1 from rfl, q_sub (by omega)]; rfl
    have hw30 : wk fi st r < 30 := Nat.mod_lt _ (by omega)
    have hih := ih f (wk fi st r :: l) (by omega) (by omega) K
    rw [show wls fi st r ++ wk fi st r :: l = wls fi st (r + 1) ++ l by rw [wls_s, List.append_assoc]; rfl] at hih
    rw [e1, f_L_isTrain_L21, if_neg (nI_pos (by omega)), wk_eq hf hs (by omega), q_lt]
    refine q_ltJ (fun J58 hJ58 => ?_)
    have m58 : ∀ c, c = gI y nw (wk fi st r :: l) → J58 c μ = K (lN (CN (wls fi st (r + 1) ++ l))) (gI y nw (wls fi st (r + 1) ++ l)) (fI y nw (wls fi st (r + 1) ++ l)) μ := by
      intro c hc
      rw [hJ58]
      dsimp only
      refine q_ltJ (fun J61 hJ61 => ?_)
      have m61 : ∀ c', c' = fI y nw (wk fi st r :: l) → J61 c' μ = K (lN (CN (wls fi st (r + 1) ++ l))) (gI y nw (wls fi st (r + 1) ++ l)) (fI y nw (wls fi st (r + 1) ++ l)) μ := by
        intro c' hc'
        rw [hJ61]
        dsimp only
        rw [CN_step hw30, q_lt, q_lt, show nI r + -1 = nI r - 1 from (Int32.sub_eq_add_neg _ _).symm, hc, hc']
        exact hih
      refine q_ltJ (fun J66 hJ66 => ?_)
      have z66 : ¬ fW y nw (wk fi st r :: l) → J66 μ = K (lN (CN (wls fi st (r + 1) ++ l))) (gI y nw (wls fi st (r + 1) ++ l)) (fI y nw (wls fi st (r + 1) ++ l)) μ := fun q => by
        rw [hJ66]
        dsimp only
        exact m61 0 (by unfold fI; rw [cIf_f q])
      by_cases q1 : fW y nw l
      · rw [show fI y nw l = 1 from cIf_t q1, if_neg (by decide)]
        refine q_ltJ (fun J68 hJ68 => ?_)
        have z68 : fW y nw (wk fi st r :: l) → J68 μ = K (lN (CN (wls fi st (r + 1) ++ l))) (gI y nw (wls fi st (r + 1) ++ l)) (fI y nw (wls fi st (r + 1) ++ l)) μ := fun q => by
          rw [hJ68]
          dsimp only
          exact m61 1 (by unfold fI; rw [cIf_t q])
        by_cases q2 : nw ≤ wk fi st r
        · rw [if_pos (nI_le q2 (by omega))]
          exact z68 (fI_c.mpr ⟨Or.inl q2, q1⟩)
        · rw [if_neg (nI_ge (by omega) (by omega)), v6 h hi (by omega), q_bm]
          by_cases q3 : tOf y.2.2.2 (wk fi st r) = -6
          · rw [if_neg (fun z => (tOf_neg h8 _).mp z q3)]
            exact z68 (fI_c.mpr ⟨Or.inr q3, q1⟩)
          · rw [if_pos ((tOf_neg h8 _).mpr q3)]
            exact z66 (fun z => (fI_c.mp z).1.elim (fun z => q2 z) (fun z => q3 z))
      · rw [show fI y nw l = 0 from cIf_f q1, if_pos rfl]
        exact z66 (fun z => q1 (fI_c.mp z).2)
    refine q_ltJ (fun J72 hJ72 => ?_)
    have z72 : ¬ gW y nw (wk fi st r :: l) → J72 μ = K (lN (CN (wls fi st (r + 1) ++ l))) (gI y nw (wls fi st (r + 1) ++ l)) (fI y nw (wls fi st (r + 1) ++ l)) μ := fun q => by
      rw [hJ72]
      dsimp only
      exact m58 0 (by unfold gI; rw [cIf_f q])
    by_cases q1 : gW y nw l
    · rw [show gI y nw l = 1 from cIf_t q1, if_neg (by decide)]
      by_cases q2 : nw ≤ wk fi st r
      · rw [if_pos (nI_le q2 (by omega))]
        exact z72 (fun z => by have := (gI_c.mp z).1.1; omega)
      · obtain ⟨v, x1, x2, x3⟩ := v4s h hi (w := wk fi st r) (by omega)
        rw [if_neg (nI_ge (by omega) (by omega)), x1, q_bm]
        by_cases q3 : wk fi st r < nw ∧ y.1 5 (wk fi st r) < 0
        · rw [if_neg (fun z => x2.mp z q3)]
          exact m58 1 (by unfold gI; rw [cIf_t (gI_c.mpr ⟨q3, q1⟩)])
        · rw [if_pos (x2.mpr q3)]
          exact z72 (fun z => q3 (gI_c.mp z).1)
    · rw [show gI y nw l = 0 from cIf_f q1, if_pos rfl]
      exact z72 (fun z => q1 (gI_c.mp z).2)
theorem tr_2 {μ : mT} {mny d : Nat} (h : PR μ (yTr y (nI d) (wls fi st mny))) (hi : iY (yTr y (nI d) (wls fi st mny)) nt nw tm B) (hm : mny ≤ 4) (hf : fi < 30) (hs : st ≤ 3) (h8 : y.2.2.2.length < 8) (hg : gW y nw (wls fi st mny)) (hF : fW y nw (wls fi st mny)) : ∀ (dd f k : Nat), k + dd = 8 → dd < f → ∀ K, f_L_isTrain_L247 (nI fi) (nI st) (nI mny) (nI y.2.2.2.length) K f (ssum (y.1 4) ((wls fi st mny).take k)) (nI k) μ = K (ssum (y.1 4) (wls fi st mny)) μ := by
  have hte : (yTr y (nI d) (wls fi st mny)).2.2.2[y.2.2.2.length]? = some (nI d, wls fi st mny) := by
    show (y.2.2.2 ++ [(nI d, wls fi st mny)])[y.2.2.2.length]? = _
    rw [List.getElem?_append_right (Nat.le_refl _), Nat.sub_self]
    rfl
  have hlen := wls_len (fi := fi) (st := st) (r := mny)
  have e8 : (8 : Int32) = nI 8 := rfl
  intro dd
  induction dd with
  | zero =>
    intro f k hk hf' K
    obtain ⟨f, rfl⟩ : ∃ n', f = n' + 1 := ⟨f - 1, by omega⟩
    rw [f_L_isTrain_L247, e8, if_pos (nI_le (by omega) (by omega)), List.take_of_length_le (by omega)]
  | succ dd ih =>
    intro f k hk hf' K
    obtain ⟨f, rfl⟩ : ∃ n', f = n' + 1 := ⟨f - 1, by omega⟩
    have hih := ih f (k + 1) (by omega) (by omega) K
    rw [f_L_isTrain_L247, e8, if_neg (nI_ge (by omega) (by omega)), q_lt]
    by_cases c : mny ≤ k
    · rw [List.take_of_length_le (by omega)] at hih ⊢
      have eat : atN (wls fi st mny) k = -6 := by
        unfold atN
        rw [List.getElem?_eq_none (by omega)]
      rw [if_pos (nI_le c (by omega))]
      dsimp only
      rw [q_lt, if_neg (by decide)]
      dsimp only
      rw [q_lt, tnk h hi hte (by omega), eat, q_bm, if_pos rfl, q_lt, if_pos (by decide)]
      dsimp only
      rw [q_lt, nI_1, Int32.add_zero]
      exact hih
    · have ea := wls_at (fi := fi) (st := st) (show k < mny by omega)
      have hm' := List.mem_of_getElem? ea
      have hwn := (hg _ hm').1
      have hn30 := hi.nw30
      have e6 : f_X7_ofWagon (nI (wk fi st k)) 6 μ = some (nI y.2.2.2.length, μ) := by
        rw [v6 h hi hwn]
        have ho : tOf y.2.2.2 (wk fi st k) = -6 := (hF _ hm').resolve_left (by omega)
        have hno : tFind (wk fi st k) 0 y.2.2.2 = none := by
          rcases tOf_c (Nat.le_of_lt h8) (wk fi st k) with z | ⟨i, z1, z2⟩
          · exact z.2
          · rw [z2] at ho
            exact absurd ho (q_n6 (by omega))
        have ha := tFind_app (e := (nI d, wls fi st mny)) hno hm'
        show some (tOf (y.2.2.2 ++ [(nI d, wls fi st mny)]) (wk fi st k), μ) = _
        unfold tOf
        rw [ha]
        dsimp only
        rw [Nat.zero_add]
      have e0 : f_X7_ofWagon (nI (wk fi st k)) 0 μ = some (y.1 4 (wk fi st k), μ) := by
        have := v0 h hi hwn
        exact this
      rw [List.take_succ, ea, ssum_app] at hih
      rw [if_neg (nI_ge (by omega) (by omega)), wk_eq hf hs (by omega)]
      dsimp only
      rw [q_lt, if_pos (nI_pos' (by omega)), e0, q_bm]
      dsimp only
      rw [q_lt, tnk h hi hte (by omega), atN_at ea, q_bm, if_pos rfl, q_lt, if_neg (nI_pos (by omega)), e6, q_bm, if_pos rfl]
      dsimp only
      rw [q_lt, nI_1]
      have es : ssum (y.1 4) (some (wk fi st k)).toList = y.1 4 (wk fi st k) := by
        show y.1 4 (wk fi st k) + 0 = _
        rw [Int32.add_zero]
      rw [es] at hih
      exact hih
theorem l_isTrain {μ : mT} {mny d : Nat} (h : PR μ y) (hi : iY y nt nw tm B) (he : pE y nw tm) (hz : pZ y nw) (hB : B < 900000000) (hf : fi < 30) (hs : 1 ≤ st ∧ st ≤ 3) (hm : 1 ≤ mny ∧ mny ≤ 4) (hd : d ≤ 200) : Gd (f_L_isTrain (nI fi) (nI st) (nI mny) (nI d) μ) (LI nt (B + 5000)) := by
  have htm := hi.tmB
  have h8 := hi.tok.1
  have hlen := wls_len (fi := fi) (st := st) (r := mny)
  have hne : wls fi st mny ≠ [] := fun z => by rw [z] at hlen; simp at hlen; omega
  have hnd := wls_nd hf hs hm.2
  unfold f_L_isTrain
  rw [c2 h hi, q_bm, q_lt]
  refine gd_lt (fun K9 hK9 => ?_)
  have hfu : 100 < fu := by unfold fu; omega
  have e9 := tr_1 (a3 := nI mny) (a4 := nI d) h hi hf hs.2 mny fu [] (by omega) (by omega) K9
  have g1 : gI y nw [] = 1 := cIf_t (fun w hw => (List.not_mem_nil hw).elim)
  have f1 : fI y nw [] = 1 := cIf_t (fun w hw => (List.not_mem_nil hw).elim)
  rw [g1, f1, List.append_nil, show lN (CN []) = (0 : Int64) from rfl] at e9
  rw [e9, hK9]
  dsimp only
  obtain ⟨hc, hp, hh⟩ := h
  have h : PR μ y := ⟨hc, hp, hh⟩
  obtain ⟨μ', k1, k2, k3⟩ := PRc (kt_train (x := lN (CN (wls fi st mny))) (a := nI (tm + d)) hh hc hi)
  rw [tLs_CN (by omega) wls_30] at k1 k2
  rw [c6 h hi, q_bm, c0 h hi, q_bm, hi.htm, nI_add, k1]
  refine gd_lt (fun J20 hJ20 => ?_)
  have e8 : (8 : Int32) = nI 8 := rfl
  by_cases hg : gW y nw (wls fi st mny)
  · rw [show gI y nw (wls fi st mny) = 1 from cIf_t hg] at hJ20 ⊢
    rw [sTrain_g hi (by omega) hne hnd hd hg] at k1 k2 hJ20 ⊢
    rw [if_neg (by decide)]
    by_cases c8 : y.2.2.2.length = 8
    · rw [if_pos c8] at k1 k2 hJ20 ⊢
      dsimp only at k1 k2 hJ20 ⊢
      rw [if_pos (by rw [c8]; rfl), hJ20]
      dsimp only
      refine gd_lt (fun J22 hJ22 => ?_)
      rw [if_neg (by decide), if_pos (by rw [c8]; rfl), hJ22]
      dsimp only
      rw [if_pos rfl, c6 k2 hi, q_bm, if_pos rfl]
      exact gd_some ⟨y, nw, tm, k2, hi.up (by omega), he, hz⟩
    · have n8 : ¬ nI y.2.2.2.length = 8 := fun z => c8 (nI_inj (by omega) (by omega) (z.trans e8))
      rw [if_neg c8] at k1 k2 hJ20 ⊢
      rw [if_neg n8]
      by_cases hF : fW y nw (wls fi st mny)
      · rw [cIf_t hF] at k1 k2 hJ20 ⊢
        dsimp only at k1 k2 hJ20 ⊢
        have hi' := iY_train hi (by omega) hne hnd (by omega) wls_30 hd hg hF c8
        have he' := pE_train (ws := wls fi st mny) (due := nI (tm + d)) he
        have hte : (yTr y (nI (tm + d)) (wls fi st mny)).2.2.2[y.2.2.2.length]? = some (nI (tm + d), wls fi st mny) := by
          show (y.2.2.2 ++ [(nI (tm + d), wls fi st mny)])[y.2.2.2.length]? = _
          rw [List.getElem?_append_right (Nat.le_refl _), Nat.sub_self]
          rfl
        have e2 := tr_2 (mny := mny) k2 hi' hm.2 hf hs.2 (by omega) hg hF 8 fu 0 (by omega) (by omega)
        rw [List.take_zero, show ssum (y.1 4) [] = 0 from rfl, show nI 0 = (0 : Int32) from rfl] at e2
        have e10 : f_X7_ofTrain (nI y.2.2.2.length) 10 μ' = some (ssum (y.1 4) (wls fi st mny), μ') := tn10 k2 hi' hte
        rw [show fI y nw (wls fi st mny) = 1 from cIf_t hF, if_neg (by decide), if_pos rfl, tn0 k2 hi' hte, q_bm]
        dsimp only
        rw [hlen, if_pos rfl, tn1 k2 hi' hte, q_bm, c0 k2 hi', q_bm, hi'.htm]
        dsimp only
        rw [if_pos (nI_add _ _).symm, q_lt, e2, e10, q_bm, if_pos rfl]
        exact gd_some ⟨_, nw, tm, k2, hi', he', hz⟩
      · rw [cIf_f hF] at k1 k2 hJ20 ⊢
        dsimp only at k1 k2 hJ20 ⊢
        rw [show fI y nw (wls fi st mny) = 0 from cIf_f hF, if_pos rfl, hJ20]
        dsimp only
        refine gd_lt (fun J22 hJ22 => ?_)
        rw [if_neg (by decide), if_neg n8, hJ22]
        dsimp only
        rw [if_pos rfl, c6 k2 hi, q_bm, if_pos rfl]
        exact gd_some ⟨y, nw, tm, k2, hi.up (by omega), he, hz⟩
  · rw [show gI y nw (wls fi st mny) = 0 from cIf_f hg] at hJ20 ⊢
    rw [sTrain_b hi hne hnd hg] at k1 k2 hJ20 ⊢
    dsimp only at k1 k2 hJ20 ⊢
    rw [if_pos rfl, hJ20]
    dsimp only
    refine gd_lt (fun J22 hJ22 => ?_)
    rw [if_pos rfl, hJ22]
    dsimp only
    rw [if_pos rfl, c6 k2 hi, q_bm, if_pos rfl]
    exact gd_some ⟨y, nw, tm, k2, hi.up (by omega), he, hz⟩
end TRAIN
