section SERVED
variable {y : yT} {nt nw tm B : Nat}
theorem sv_1 {μ : mT} (h : PR μ y) (hi : iY y nt nw tm B) : ∀ (r f : Nat), r ≤ (y.2.1 8).length → r < f → (∀ w ∈ (y.2.1 8).drop r, tOf y.2.2.2 w = -6) → ∀ K, f_L_isServed_L36 K f (lN (CN ((y.2.1 8).drop r))) (nI r - 1) μ = some (1, μ) ∨ ((∀ w ∈ y.2.1 8, tOf y.2.2.2 w = -6) ∧ f_L_isServed_L36 K f (lN (CN ((y.2.1 8).drop r))) (nI r - 1) μ = K (lN (CN (y.2.1 8))) μ) := by
  have hl8 := (hi.rOK 8 (by omega)).1
  have h8 := hi.tok.1
  intro r
  induction r with
  | zero =>
    intro f hr hf hd K
    obtain ⟨f, rfl⟩ : ∃ n', f = n' + 1 := ⟨f - 1, by omega⟩
    refine Or.inr ⟨hd, ?_⟩
    rw [f_L_isServed_L36, if_pos (by decide), List.drop_zero]
  | succ r ih =>
    intro f hr hf hd K
    obtain ⟨f, rfl⟩ : ∃ n', f = n' + 1 := ⟨f - 1, by omega⟩
    have e1 : nI (r + 1) - 1 = nI r := by rw [show (1 : Int32) = nI 1 from rfl, q_sub (by omega)]; rfl
    obtain ⟨w, ew⟩ : ∃ w, (y.2.1 8)[r]? = some w := ⟨_, List.getElem?_eq_getElem (by omega)⟩
    have hm := List.mem_of_getElem? ew
    have hwn := w30 hi (by omega) hm
    have hw30 := (hi.rOK 8 (by omega)).2.1 w hm
    have ed : (y.2.1 8).drop r = w :: (y.2.1 8).drop (r + 1) := drop_cons_of ew
    rw [e1, f_L_isServed_L36, if_neg (nI_pos (by omega)), ae h hi (by omega), atN_at ew, q_bm, v6 h hi hwn, q_bm]
    by_cases c : tOf y.2.2.2 w = -6
    · rw [if_pos (by rw [c]; decide), ae h hi (by omega), atN_at ew, q_bm, CN_step hw30, q_lt, q_lt, show nI r + -1 = nI r - 1 from (Int32.sub_eq_add_neg _ _).symm, ← ed]
      exact ih f (by omega) (by omega) (by
        rw [ed]
        intro x hx
        rcases List.mem_cons.mp hx with rfl | hx
        · exact c
        · exact hd x hx) K
    · rw [if_neg (fun z => absurd ((tOf_neg h8 w).mpr c) (Int32.not_le.mpr z))]
      exact Or.inl rfl
theorem l_isServed {μ : mT} (h : PR μ y) (hi : iY y nt nw tm B) (he : pE y nw tm) (hz : pZ y nw) (hB : B < 800000000) : Gd (f_L_isServed μ) (LI nt (B + 10000)) := by
  have hl8 := (hi.rOK 8 (by omega)).1
  have h8 := hi.tok.1
  have hL : LI nt (B + 10000) μ := ⟨y, nw, tm, h, hi.up (by omega), he, hz⟩
  have e8 : (8 : Int32) = nI 8 := rfl
  unfold f_L_isServed
  rw [c3 h hi, q_bm]
  by_cases c0' : (y.2.1 8).length = 0
  · rw [if_pos (by rw [c0']; rfl)]
    exact gd_some hL
  rw [if_neg (nI_ne0 (by omega) (by omega))]
  by_cases c1' : 8 < (y.2.1 8).length
  · rw [if_pos (by rw [e8, nI_ltI (by omega) (by omega)]; exact c1')]
    exact gd_some hL
  rw [if_neg (by rw [e8, nI_ltI (by omega) (by omega)]; exact c1'), c6 h hi, q_bm]
  by_cases c2' : y.2.2.2.length = 8
  · rw [if_pos (by rw [c2']; rfl)]
    exact gd_some hL
  rw [if_neg (fun z => c2' (nI_inj (by omega) (by omega) (z.trans e8))), q_lt]
  refine gd_lt (fun K9 hK9 => ?_)
  have hfu : 100 < fu := by unfold fu; omega
  have e9 := sv_1 h hi (y.2.1 8).length fu (Nat.le_refl _) (by omega) (by rw [List.drop_of_length_le (Nat.le_refl _)]; exact fun w hw => (List.not_mem_nil hw).elim) K9
  rw [List.drop_of_length_le (Nat.le_refl _), show lN (CN []) = (0 : Int64) from rfl] at e9
  rcases e9 with e9 | ⟨hF, e9⟩
  · rw [e9]
    exact gd_some hL
  rw [e9, hK9]
  dsimp only
  obtain ⟨hc, hp, hh⟩ := h
  have h : PR μ y := ⟨hc, hp, hh⟩
  have hne : y.2.1 8 ≠ [] := fun z => c0' (by rw [z]; rfl)
  have hnd := (hi.rOK 8 (by omega)).2.2
  have hw30 := (hi.rOK 8 (by omega)).2.1
  have hg : gW y nw (y.2.1 8) := fun w hw => ⟨w30 hi (by omega) hw, by rw [hi.2.2.2.2.2.2.1 w (w30 hi (by omega) hw) 8 (by omega) hw]; decide⟩
  have hf : fW y nw (y.2.1 8) := fun w hw => Or.inr (hF w hw)
  obtain ⟨μ', k1, k2, k3⟩ := PRc (kt_train (x := lN (CN (y.2.1 8))) (a := nI (tm + 0)) hh hc hi)
  rw [tLs_CN (by omega) hw30, sTrain_g hi (by omega) hne hnd (by omega) hg, if_neg c2', cIf_t hf] at k1 k2
  dsimp only at k1 k2
  have hi' := iY_train (d := 0) hi (by omega) hne hnd (by omega) hw30 (by omega) hg hf c2'
  have he' := pE_train (ws := y.2.1 8) (due := nI (tm + 0)) he
  have hz' : pZ (yTr y (nI (tm + 0)) (y.2.1 8)) nw := hz
  have ht : (yTr y (nI (tm + 0)) (y.2.1 8)).2.2.2.length = y.2.2.2.length + 1 := by
    show (y.2.2.2 ++ [(nI (tm + 0), y.2.1 8)]).length = _
    rw [List.length_append]
    rfl
  have hte : (yTr y (nI (tm + 0)) (y.2.1 8)).2.2.2[y.2.2.2.length]? = some (nI (tm + 0), y.2.1 8) := by
    show (y.2.2.2 ++ [(nI (tm + 0), y.2.1 8)])[y.2.2.2.length]? = _
    rw [List.getElem?_append_right (Nat.le_refl _), Nat.sub_self]
    rfl
  obtain ⟨μ3, s1, s2⟩ := PRq k2 (k_straight (a := nI y.2.2.2.length) k2.1 hi'.gn)
  have es : qStr (yTr y (nI (tm + 0)) (y.2.1 8)) (nI y.2.2.2.length) = 1 := by
    unfold qStr
    rw [tIx_in (by rw [ht]; omega) (by omega)]
    dsimp only
    rw [hte]
    dsimp only
    rw [fpS_self (y := yTr y (nI (tm + 0)) (y.2.1 8)) (l := y.2.1 8) rfl]
  obtain ⟨μ4, l1, l2⟩ := l_isLeft (B := B + 5000) (t := y.2.2.2.length) s2 hi' he' hz' (by omega) (by rw [ht]; omega)
  rw [c0 h hi, q_bm, hi.htm, show nI tm = nI (tm + 0) from rfl, k1, c6 k2 hi', q_bm, ht, if_pos (by rw [show (1 : Int32) = nI 1 from rfl, q_sub (by omega)]; rfl), s1, es, if_pos rfl, l1, q_bd, if_neg (by decide)]
  exact gd_some l2
end SERVED
theorem gd_bdB {o : Option (Int32 × mT)} {Q : mT → Prop} (h : Gd o Q) : Gd (bd o (fun v μ => gd (isB v) (some (v, μ)))) Q := by
  obtain ⟨μ', h1, h2⟩ := h
  rw [h1, q_bd, q_gd sb_isB1]
  exact gd_some h2
theorem gd_w {o : Option (Int32 × mT)} {nt B B' : Nat} (h : Gd o (LI nt B)) (hb : B ≤ B') : Gd o (LI nt B') := by
  obtain ⟨μ', h1, h2⟩ := h
  exact ⟨μ', h1, h2.up hb⟩
theorem l_cellL {xs : Nat → Int32} {Ls k n : Nat} {kk nn : Int32} (μ : mT) (hL : Ls ≤ 260) (hk : kk = nI k) (hn : nn = nI n) (hk2 : k < 1000000) (h1 : 1 ≤ n) (h2 : n < 1000000) : ∃ v, v < n ∧ f_L_cell xs Ls kk nn μ = some (nI v, μ) := by
  subst hk
  subst hn
  exact l_cell μ hL hk2 h1 h2
theorem l_block {μ : mT} {y : yT} {nt nw tm B a b : Nat} (h : PR μ y) (hi : iY y nt nw tm B) (he : pE y nw tm) (hz : pZ y nw) (hB : B < 800000000) (ha : a ≤ 40) (hb : 1 ≤ b ∧ b ≤ 50) : ∃ μ', (∀ (α : Type) (K : Int32 → mT → Option α), bm (f_X7_block (nI (tm + a)) (nI b) μ) μ K = K (if nI y.2.2.1.length = 10 then -4 else nI y.2.2.1.length + 1) μ') ∧ LI nt (B + 5000) μ' := by
  have htm := hi.tmB
  have hbl := hi.bl
  have e1 : (1 : Int32) = nI 1 := rfl
  have e10 : (10 : Int32) = nI 10 := rfl
  have e5 : (500 : Int32) = nI 500 := rfl
  have e2 : (2000 : Int32) = nI 2000 := rfl
  obtain ⟨hc, hp, hh⟩ := h
  have h : PR μ y := ⟨hc, hp, hh⟩
  obtain ⟨μ', k1, k2, k3⟩ := PRc (kt_block (a := nI (tm + a)) (b := nI b) hh hc hi)
  have hk := kp_block (a := nI (tm + a)) (b := nI b) (⟨nt, nw, tm, hi⟩ : kY y B) (by omega)
  have er : sBlock y (nI (tm + a)) (nI b) = if 10 ≤ y.2.2.1.length then (-4, y) else (nI (y.2.2.1.length + 1), (y.1, y.2.1, y.2.2.1 ++ [(nI (tm + a), nI (tm + a) + nI b)], y.2.2.2)) := by
    unfold sBlock
    rw [hi.htm, if_neg (by rw [e1, e5, e2, nI_add, nI_ltI (by omega) (by omega), nI_ltI (by omega) (by omega), nI_ltI (by omega) (by omega), nI_ltI (by omega) (by omega)]; omega)]
  rw [er] at k1 k2 hk
  by_cases c : 10 ≤ y.2.2.1.length
  · rw [if_pos c] at k1 k2
    dsimp only at k1 k2
    refine ⟨μ', fun α K => ?_, y, nw, tm, k2, hi.up (by omega), he, hz⟩
    rw [k1, if_pos (by rw [show y.2.2.1.length = 10 by omega]; rfl)]
  · rw [if_neg c] at k1 k2 hk
    dsimp only at k1 k2 hk
    refine ⟨μ', fun α K => ?_, _, nw, tm, k2, kY_id hk (by omega) hi.hnt hi.nt8 hi.hnw hi.nw30 hi.htm (by omega), pE_of he (fun _ _ => rfl) rfl rfl rfl rfl (fun r w hr hw => ⟨r, hr, hw⟩) he.2.2.1 (Nat.le_refl _), hz⟩
    rw [k1, if_neg (fun z => by have := nI_inj (by omega) (by omega) (z.trans e10); omega), nI_1]
