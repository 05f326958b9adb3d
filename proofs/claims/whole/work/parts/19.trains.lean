def lcp : List Nat → List Nat → Nat
  | a :: x, b :: z => if a = b then lcp x z + 1 else 0
  | _, _ => 0
theorem lcp_le : ∀ {a b : List Nat}, lcp a b ≤ a.length ∧ lcp a b ≤ b.length
  | [], b => by simp [lcp]
  | a :: x, [] => by simp [lcp]
  | a :: x, b :: z => by
    unfold lcp
    have := lcp_le (a := x) (b := z)
    split
    · simp only [List.length_cons]; omega
    · simp
theorem lcp_eq : ∀ {a b : List Nat}, a.length = b.length → (lcp a b = b.length ↔ a = b)
  | [], [], _ => by simp [lcp]
  | a :: x, b :: z, h => by
    have hh : x.length = z.length := by simpa using h
    have := lcp_eq hh
    unfold lcp
    split
    · rename_i e
      subst e
      simp only [List.length_cons, Nat.add_right_cancel_iff, this, List.cons.injEq, true_and]
    · rename_i e
      simp [e]
def tIx (n : Nat) (a : Int32) : Option Nat := if a < 0 then none else if a.toNatClampNeg < n then some a.toNatClampNeg else none
theorem tIx_some {n t : Nat} {a : Int32} (h : tIx n a = some t) : a = nI t ∧ t < n := by
  unfold tIx at h
  split at h
  · cases h
  · rename_i h0
    split at h
    · cases h
      obtain ⟨k, hk, rfl⟩ := nI_of h0
      rw [q_cl hk] at *
      exact ⟨rfl, by assumption⟩
    · cases h
theorem tIx_none {n : Nat} {a : Int32} (h : tIx n a = none) : ∀ t, t < n → t < 2147483648 → ¬ a = nI t := by
  intro t ht hb e
  subst e
  unfold tIx at h
  rw [if_neg (nI_pos hb), q_cl hb, if_pos ht] at h
  cases h
theorem tIx_in {n t : Nat} (h : t < n) (hb : t < 2147483648) : tIx n (nI t) = some t := by
  unfold tIx
  rw [if_neg (nI_pos hb), q_cl hb, if_pos h]
theorem k_has {j : Nat} {a : Int32} {tn : List (Int32 × List Nat)} {μ : mT} (c : cT μ j tn) (hl : tn.length ≤ 8) : f_X3_has j a μ = some (if (tIx tn.length a).isSome = true then 1 else 0, μ) := by
  cases e : tIx tn.length a with
  | none => rw [k_has_out c hl (fun t ht => tIx_none e t ht (by omega))]; rfl
  | some t =>
    obtain ⟨rfl, ht⟩ := tIx_some e
    rw [k_has_in c hl ht]; rfl
theorem min_nI {a b : Nat} (ha : a < 2147483648) (hb : b < 2147483648) : (if nI a < nI b then nI a else nI b) = nI (min a b) := by
  by_cases h : a < b
  · rw [if_pos (nI_lt h hb), Nat.min_eq_left (by omega)]
  · rw [if_neg (nI_nlt (by omega) ha), Nat.min_eq_right (by omega)]
theorem atN_at {d : List Nat} {p w : Nat} (h : d[p]? = some w) : atN d p = nI w := by
  unfold atN
  rw [h]
theorem k_alike {j t : Nat} {e : Int32 × List Nat} {y : yT} {μ : mT} (h : cY μ j y) (hg : gY y) (ht : y.2.2.2[t]? = some e) : ∀ (d n i : Nat), i + d = min e.2.length (y.2.1 8).length → d < n →
    f_X6_manyAlike_L23 j (nI t) (nI (min e.2.length (y.2.1 8).length)) n (nI i) μ = some (nI (i + lcp ((y.2.1 8).drop i) (e.2.drop i)), μ) := by
  obtain ⟨ho, hD, hT, hl, hk⟩ := hg
  have h30 := (ho 8 (by omega)).1
  obtain ⟨o1, o2, o3, o4⟩ := hk.2 t e ht
  intro d
  induction d with
  | zero =>
    intro n i hi hn
    obtain ⟨n, rfl⟩ : ∃ n', n = n' + 1 := ⟨n - 1, by omega⟩
    rw [f_X6_manyAlike_L23, if_pos (nI_le (by omega) (by omega))]
    have : lcp ((y.2.1 8).drop i) (e.2.drop i) = 0 := by
      have := lcp_le (a := (y.2.1 8).drop i) (b := e.2.drop i)
      simp only [List.length_drop] at this
      omega
    rw [this]
    congr 3
    omega
  | succ d ih =>
    intro n i hi hn
    obtain ⟨n, rfl⟩ : ∃ n', n = n' + 1 := ⟨n - 1, by omega⟩
    obtain ⟨v, hv⟩ : ∃ v, (y.2.1 8)[i]? = some v := ⟨_, List.getElem?_eq_getElem (by omega)⟩
    obtain ⟨w, hw⟩ : ∃ w, e.2[i]? = some w := ⟨_, List.getElem?_eq_getElem (by omega)⟩
    have hv30 := (ho 8 (by omega)).2.1 v (List.mem_of_getElem? hv)
    have hw30 := o4 w (List.mem_of_getElem? hw)
    rw [f_X6_manyAlike_L23, if_neg (nI_ge (by omega) (by omega)), z_l8, k_wagonAt (by omega) (h.2.1 8 (by omega)) h30 (by omega), q_bd, k_wagonOf h.2.2.2 hk.1 ht o2 (by omega), q_bd, atN_at hv, atN_at hw, drop_cons_of hv, drop_cons_of hw]
    unfold lcp
    by_cases q : v = w
    · rw [if_pos (by rw [q]), if_pos q, q_lt, z_l1, q_add, ih n (i + 1) (by omega) (by omega)]
      congr 3
      omega
    · rw [if_neg (by rw [nI_eq (by omega) (by omega)]; exact q), if_neg q]
      rfl
theorem k_manyAlike {j t : Nat} {e : Int32 × List Nat} {y : yT} {μ : mT} (h : cY μ j y) (hg : gY y) (ht : y.2.2.2[t]? = some e) : f_X6_manyAlike j (nI t) μ = some (nI (lcp (y.2.1 8) e.2), μ) := by
  have h30 := (hg.1 8 (by omega)).1
  obtain ⟨o1, o2, o3, o4⟩ := hg.2.2.2.2.2 t e ht
  unfold f_X6_manyAlike
  rw [z_l8, k_manyIn (by omega), q_bd, k_sizeOf h.2.2.2 hg.2.2.2.2.1 ht, q_bd, q_lt, cRow.nl h.2.1 (by omega), min_nI (by omega) (by omega)]
  have := k_alike h hg ht (min e.2.length (y.2.1 8).length) fu 0 (by omega) (by unfold fu; omega)
  rw [z_l0, this]
  simp
theorem k_couldLeave {j t : Nat} {e : Int32 × List Nat} {y : yT} {μ : mT} (h : cY μ j y) (hg : gY y) (ht : y.2.2.2[t]? = some e) : f_X6_couldLeave j (nI t) μ = some (if y.2.1 8 = e.2 then 1 else 0, μ) := by
  have h30 := (hg.1 8 (by omega)).1
  obtain ⟨o1, o2, o3, o4⟩ := hg.2.2.2.2.2 t e ht
  unfold f_X6_couldLeave
  rw [k_sizeOf h.2.2.2 hg.2.2.2.2.1 ht, q_bd, z_l8, k_manyIn (by omega), q_bd, cRow.nl h.2.1 (by omega)]
  by_cases q : (y.2.1 8).length = e.2.length
  · rw [if_pos (by rw [q]), k_manyAlike h hg ht, q_bd]
    have hle := lcp_le (a := y.2.1 8) (b := e.2)
    by_cases r : y.2.1 8 = e.2
    · rw [if_pos, if_pos r]
      rw [(lcp_eq q).mpr r]
    · rw [if_neg, if_neg r]
      rw [nI_eq (by omega) (by omega)]
      exact fun z => r ((lcp_eq q).mp z)
  · rw [if_neg (by rw [nI_eq (by omega) (by omega)]; exact q), if_neg (fun z => q (by rw [z]))]
def lateN (m d : Int32) : Int32 := if 0 < m - d then m - d else 0
def sGone (s : sT) (l : List Nat) : sT := fun a k => if a = 5 ∧ k ∈ l then s 0 6 else s a k
def sLv (y : yT) (t : Nat) (due : Int32) : yT :=
  (sU (sU (sU (sGone y.1 (y.2.1 8)) 0 17 (y.1 0 17 + lateN (y.1 0 6) due * y.1 0 5)) 0 10 (y.1 0 10 + nI (y.2.1 8).length)) 0 12 (y.1 0 12 + 1), fun r => if r = 8 then [] else y.2.1 r, y.2.2.1, y.2.2.2.eraseIdx t)
def sLeave (y : yT) (a : Int32) : Int32 × yT := match tIx y.2.2.2.length a with
  | none => (-1, y)
  | some t => match y.2.2.2[t]? with
    | none => (-1, y)
    | some e => if y.2.1 8 = e.2 then (lateN (y.1 0 6) e.1, sLv y t e.1) else (-5, y)
theorem k_letLeave {j nt nw tm B : Nat} {a : Int32} {y : yT} {μ : mT} (h : cY μ j y) (hi : iY y nt nw tm B) :
    ∃ μ', f_X6_letLeave j a μ = some ((sLeave y a).1, μ') ∧ cY μ' j (sLeave y a).2 ∧ only μ μ' (Yd j) := by
  unfold f_X6_letLeave sLeave
  have h8 := hi.tok.1
  rw [k_has h.2.2.2 h8, q_bd]
  cases et : tIx y.2.2.2.length a with
  | none => exact ⟨μ, rfl, h, only.rf⟩
  | some t =>
    obtain ⟨rfl, htl⟩ := tIx_some et
    obtain ⟨e, he⟩ : ∃ e, y.2.2.2[t]? = some e := ⟨_, List.getElem?_eq_getElem htl⟩
    dsimp only
    rw [show (if (some t).isSome = true then (1 : Int32) else 0) = 1 from rfl, if_neg (by decide), he, k_couldLeave h hi.g he, q_bd]
    dsimp only
    by_cases q : y.2.1 8 = e.2
    case neg =>
      rw [if_neg q, if_neg q, if_pos rfl]
      exact ⟨μ, rfl, h, only.rf⟩
    rw [if_pos q, if_pos q, if_neg (by decide), q_gdi (by omega) (by omega), q_cl (by omega), h.1.minute, (h.2.2.2.2 t e he).1]
    have e45 : μ 4 j (5 : Int32).toNatClampNeg = y.1 0 5 := h.1.set (k := 5) (by omega)
    have el : (if 0 < y.1 0 6 - e.1 then y.1 0 6 - e.1 else 0) = lateN (y.1 0 6) e.1 := rfl
    rw [el, q_lt, e45, h.1.fines, q_lt]
    have h1 := h.up (a0 := 0) (k0 := 17) (κ := 0) (k' := 4) (y.1 0 17 + lateN (y.1 0 6) e.1 * y.1 0 5) (sd0 (by omega)) (by decide) rfl rfl (by omega)
    have h0 : only μ (upM μ 0 j 4 (y.1 0 17 + lateN (y.1 0 6) e.1 * y.1 0 5)) (Yd j) := (q_uple rfl).w (by unfold Yd; omega)
    generalize upM μ 0 j 4 (y.1 0 17 + lateN (y.1 0 6) e.1 * y.1 0 5) = μ6 at h1 h0 ⊢
    have h8l := hi.rOK 8 (by omega)
    have c8 : cRow μ6 j 8 (y.2.1 8) := by
      have := h1.2.1 8 (by omega)
      unfold cw at this
      rwa [if_pos rfl] at this
    obtain ⟨μ8, a1, a2, a3, a4, a5, a6, a7⟩ := k_engineLeaves (j := j) (a := y.1 0 6) h8l.1 h8l.2.1 c8
    have e6 : μ6 0 j 0 = y.1 0 6 := h1.1.minute
    have hs : sGone (sU y.1 0 17 (y.1 0 17 + lateN (y.1 0 6) e.1 * y.1 0 5)) (y.2.1 8) = sU (sGone y.1 (y.2.1 8)) 0 17 (y.1 0 17 + lateN (y.1 0 6) e.1 * y.1 0 5) := by
      funext a k
      unfold sGone sU
      by_cases z : a = 5
      · subst z
        simp
      · simp [z]
    have h2 : cY μ8 j (sU (sU (sGone y.1 (y.2.1 8)) 0 17 (y.1 0 17 + lateN (y.1 0 6) e.1 * y.1 0 5)) 0 10 (y.1 0 10 + nI (y.2.1 8).length), fun r => if r = 8 then [] else y.2.1 r, y.2.2) := by
      rw [← hs]
      refine ⟨fun a k hd hk => ?_, fun r hr => ?_, h1.2.2.1.cong (a7 _ j (by omega)) (a7 _ j (by omega)) (a7 _ j (by omega)), h1.2.2.2.cong (a7 _ j (by omega)) (a7 _ j (by omega)) (a7 _ j (by omega)) (a7 _ j (by omega))⟩
      · dsimp only at hk ⊢
        by_cases c3 : a = 0 ∧ k = 10
        · obtain ⟨rfl, rfl⟩ := c3
          rw [sU_s]
          show μ8 1 j 1 = _
          rw [a6, h1.1.gone]
          rfl
        · rw [sU_n c3]
          by_cases c5 : a = 5
          · subst c5
            have hk30 : k < 30 := by unfold sdom at hd; omega
            have hk5 := hk rfl
            rw [sU_n (by omega)] at hk5
            show μ8 9 j k = _
            rw [a2 k]
            unfold sGone at hk5 ⊢
            by_cases hm : k ∈ y.2.1 8
            · rw [if_pos hm, if_pos ⟨rfl, hm⟩]
              rfl
            · rw [if_neg hm, if_neg (fun z => hm z.2)]
              rw [if_neg (fun z => hm z.2)] at hk5
              exact h1.1.w5 hk30 hk5
          · unfold sGone
            rw [if_neg (fun z => c5 z.1)]
            have hh := h1.1 a k hd (fun z => absurd z c5)
            by_cases c8' : a = 0 ∧ k = 8
            · obtain ⟨rfl, rfl⟩ := c8'
              show μ8 1 j 0 = _
              rw [a5]
              exact hh
            · rw [a7 _ j (by unfold cκ; unfold sdom at hd; grind)]
              exact hh
      · show cRow μ8 j r (cw r (if r = 8 then [] else y.2.1 r))
        by_cases e8 : r = 8
        · subst e8
          exact a3
        · rw [if_neg e8]
          exact a4 r _ (by omega) (h1.2.1 r hr)
    obtain ⟨μ9, b1, b2, b3⟩ := k_remove hi.tok h2.2.2.2 htl
    have h3 : cY μ9 j (sU (sU (sGone y.1 (y.2.1 8)) 0 17 (y.1 0 17 + lateN (y.1 0 6) e.1 * y.1 0 5)) 0 10 (y.1 0 10 + nI (y.2.1 8).length), fun r => if r = 8 then [] else y.2.1 r, y.2.2.1, y.2.2.2.eraseIdx t) :=
      ⟨h2.1.cong (fun κ _ _ _ => b3 κ j (by omega)), h2.2.1.cong (b3 _ j (by omega)) (b3 _ j (by omega)), h2.2.2.1.cong (b3 _ j (by omega)) (b3 _ j (by omega)) (b3 _ j (by omega)), b2⟩
    have h4 := h3.up (a0 := 0) (k0 := 12) (κ := 0) (k' := 5) (y.1 0 12 + 1) (sd0 (by omega)) (by decide) rfl rfl (by omega)
    refine ⟨_, ?_, h4, only.tr ?_ (only.tr (a7.w (by unfold Yd; omega)) (only.tr (b3.w (by unfold Yd; omega)) ((q_uple rfl).w (by unfold Yd; omega))))⟩
    · rw [e6, a1, q_bd, b1, q_bd, h3.1.left, q_lt]
      rfl
    · exact h0
def sStrike (y : yT) (a : Int32) : Int32 × yT := match tIx y.2.2.2.length a with
  | none => (-1, y)
  | some t => (nI (y.2.2.2.length - 1), (y.1, y.2.1, y.2.2.1, y.2.2.2.eraseIdx t))
theorem k_strikeOut {j nt nw tm B : Nat} {a : Int32} {y : yT} {μ : mT} (h : cY μ j y) (hi : iY y nt nw tm B) :
    ∃ μ', f_X6_strikeOut j a μ = some ((sStrike y a).1, μ') ∧ cY μ' j (sStrike y a).2 ∧ only μ μ' (Yd j) := by
  unfold f_X6_strikeOut sStrike
  have h8 := hi.tok.1
  rw [k_has h.2.2.2 h8, q_bd]
  cases et : tIx y.2.2.2.length a with
  | none => exact ⟨μ, rfl, h, only.rf⟩
  | some t =>
    obtain ⟨rfl, htl⟩ := tIx_some et
    dsimp only
    rw [show (if (some t).isSome = true then (1 : Int32) else 0) = 1 from rfl, if_neg (by decide)]
    obtain ⟨μ9, b1, b2, b3⟩ := k_remove hi.tok h.2.2.2 htl
    refine ⟨μ9, ?_, ⟨h.1.cong (fun κ _ _ _ => b3 κ j (by omega)), h.2.1.cong (b3 _ j (by omega)) (b3 _ j (by omega)), h.2.2.1.cong (b3 _ j (by omega)) (b3 _ j (by omega)) (b3 _ j (by omega)), b2⟩, b3.w (by unfold Yd; omega)⟩
    rw [b1, q_bd, b2.1, List.length_eraseIdx_of_lt htl]
def okAt (rw : Nat → List Nat) (ws : List Nat) (i : Nat) : Prop := (∃ w, ws[i]? = some w ∧ ¬ rOf rw w = -6) ∧ ∀ i', i' < i → ¬ ws[i']? = ws[i]?
def areT (rw : Nat → List Nat) (ws : List Nat) : Prop := ws ≠ [] ∧ ∀ i, i < ws.length → okAt rw ws i
theorem k_at1 {j i w : Nat} {ws : List Nat} {μ : mT} {a2 : Int32} (hl : ws.length ≤ 8) (hw : ∀ w ∈ ws, w < 30) (h26 : ∀ k w, ws[k]? = some w → μ 26 0 k = nI w) (hi : ws[i]? = some w) {K : mT → Option (Int32 × mT)} : ∀ (d n v : Nat), v + d = i → d < n →
    (f_X6_areThere_L27 j a2 (nI i) K n (nI v) μ = K μ ∧ ∀ v', v ≤ v' → v' < i → ¬ ws[v']? = ws[i]?) ∨ (f_X6_areThere_L27 j a2 (nI i) K n (nI v) μ = some (0, μ) ∧ ∃ v', v ≤ v' ∧ v' < i ∧ ws[v']? = ws[i]?) := by
  have hil := (List.getElem?_eq_some_iff.mp hi).1
  intro d
  induction d with
  | zero =>
    intro n v hv hn
    obtain ⟨n, rfl⟩ : ∃ n', n = n' + 1 := ⟨n - 1, by omega⟩
    left
    rw [f_X6_areThere_L27, if_pos (nI_le (by omega) (by omega))]
    exact ⟨rfl, fun v' h1 h2 => by omega⟩
  | succ d ih =>
    intro n v hv hn
    obtain ⟨n, rfl⟩ : ∃ n', n = n' + 1 := ⟨n - 1, by omega⟩
    obtain ⟨u, hu⟩ : ∃ u, ws[v]? = some u := ⟨_, List.getElem?_eq_getElem (by omega)⟩
    have hu30 := hw u (List.mem_of_getElem? hu)
    have hw30 := hw w (List.mem_of_getElem? hi)
    rw [f_X6_areThere_L27, if_neg (nI_ge (by omega) (by omega)), q_gdi (by omega) (by omega), q_gdi (by omega) (by omega), q_cl (by omega), q_cl (by omega), h26 i w hi, h26 v u hu]
    by_cases q : w = u
    · right
      rw [if_pos (by rw [q])]
      exact ⟨rfl, v, Nat.le_refl _, by omega, by rw [hu, hi, q]⟩
    · rw [if_neg (by rw [nI_eq (by omega) (by omega)]; exact q), q_lt, z_l1, q_add]
      rcases ih n (v + 1) (by omega) (by omega) with ⟨g1, g2⟩ | ⟨g1, v', g2, g3, g4⟩
      · left
        refine ⟨g1, fun v' h1 h2 => ?_⟩
        by_cases e : v' = v
        · subst e
          rw [hu, hi]
          exact fun z => q (Option.some.inj z).symm
        · exact g2 v' (by omega) h2
      · right
        exact ⟨g1, v', by omega, g3, g4⟩
theorem k_at2 {j : Nat} {ws : List Nat} {rw : Nat → List Nat} {μ : mT} (c : cRows μ j rw) (ho : rOK rw) (hl : ws.length ≤ 8) (hw : ∀ w ∈ ws, w < 30) (h26 : ∀ k w, ws[k]? = some w → μ 26 0 k = nI w) {K : mT → Option (Int32 × mT)} : ∀ (d n i : Nat), i + d = ws.length → d < n →
    (f_X6_areThere_L2 j (nI ws.length) K n (nI i) μ = K μ ∧ ∀ i', i ≤ i' → i' < ws.length → okAt rw ws i') ∨ (f_X6_areThere_L2 j (nI ws.length) K n (nI i) μ = some (0, μ) ∧ ∃ i', i ≤ i' ∧ i' < ws.length ∧ ¬ okAt rw ws i') := by
  intro d
  induction d with
  | zero =>
    intro n i hi hn
    obtain ⟨n, rfl⟩ : ∃ n', n = n' + 1 := ⟨n - 1, by omega⟩
    left
    rw [f_X6_areThere_L2, if_pos (nI_le (by omega) (by omega))]
    exact ⟨rfl, fun v' h1 h2 => by omega⟩
  | succ d ih =>
    intro n i hi hn
    obtain ⟨n, rfl⟩ : ∃ n', n = n' + 1 := ⟨n - 1, by omega⟩
    obtain ⟨w, hwi⟩ : ∃ w, ws[i]? = some w := ⟨_, List.getElem?_eq_getElem (by omega)⟩
    have hw30 := hw w (List.mem_of_getElem? hwi)
    rw [f_X6_areThere_L2, if_neg (nI_ge (by omega) (by omega)), q_gdi (by omega) (by omega), q_cl (by omega), h26 i w hwi, k_rowOf c ho (by omega), q_bd]
    by_cases q : rOf rw w = -6
    · right
      rw [if_pos q]
      refine ⟨rfl, i, Nat.le_refl _, by omega, fun z => ?_⟩
      obtain ⟨⟨w', h1, h2⟩, -⟩ := z
      rw [hwi] at h1
      cases h1
      exact h2 q
    · rw [if_neg q, q_lt]
      rcases k_at1 (j := j) (a2 := nI ws.length) hl hw h26 hwi (K := fun μ10 => lt (nI i + 1 : Int32) (fun v11 => f_X6_areThere_L2 j (nI ws.length) K n v11 μ10)) i fu 0 (Nat.zero_add _) (by unfold fu; omega) with ⟨g1, g2⟩ | ⟨g1, v', g2, g3, g4⟩
      · rw [z_l0, g1, q_lt, z_l1, q_add]
        have oki : okAt rw ws i := ⟨⟨w, hwi, q⟩, fun i' h => g2 i' (Nat.zero_le _) h⟩
        rcases ih n (i + 1) (by omega) (by omega) with ⟨b1, b2⟩ | ⟨b1, i', b2, b3, b4⟩
        · left
          refine ⟨b1, fun i' h1 h2 => ?_⟩
          by_cases e : i' = i
          · subst e; exact oki
          · exact b2 i' (by omega) h2
        · right
          exact ⟨b1, i', by omega, b3, b4⟩
      · right
        rw [z_l0, g1]
        exact ⟨rfl, i, Nat.le_refl _, by omega, fun z => z.2 v' g3 g4⟩
theorem k_areThere {j : Nat} {ws : List Nat} {rw : Nat → List Nat} {μ : mT} (c : cRows μ j rw) (ho : rOK rw) (hl : ws.length ≤ 8) (hw : ∀ w ∈ ws, w < 30) (h26 : ∀ k w, ws[k]? = some w → μ 26 0 k = nI w) :
    (f_X6_areThere j (nI ws.length) μ = some (1, μ) ∧ areT rw ws) ∨ (f_X6_areThere j (nI ws.length) μ = some (0, μ) ∧ ¬ areT rw ws) := by
  unfold f_X6_areThere areT
  rw [q_lt]
  rcases k_at2 c ho hl hw h26 (K := fun μ4 => if nI ws.length ≤ 0 then some (0, μ4) else some (1, μ4)) ws.length fu 0 (Nat.zero_add _) (by unfold fu; omega) with ⟨g1, g2⟩ | ⟨g1, i', g2, g3, g4⟩
  · rw [z_l0] at g1 ⊢
    rw [g1]
    by_cases e : ws = []
    · subst e
      right
      exact ⟨by rw [if_pos (show nI ([] : List Nat).length ≤ nI 0 from by decide)], fun z => z.1 rfl⟩
    · left
      have : ws.length ≠ 0 := fun z => e (List.length_eq_zero_iff.mp z)
      exact ⟨by rw [if_neg (nI_ge (by omega) (by omega))], e, fun i hi => g2 i (Nat.zero_le _) hi⟩
  · right
    rw [z_l0] at g1
    rw [z_l0]
    exact ⟨g1, fun z => g4 (z.2 i' g3)⟩
theorem k_atr {j : Nat} {ws : List Nat} {a3 : Int32} {tn : List (Int32 × List Nat)} {μ : mT} (c : cT μ j tn) (ho : tOK tn) (hl : ws.length ≤ 8) (hw : ∀ w ∈ ws, w < 30) (h26 : ∀ k w, ws[k]? = some w → μ 26 0 k = nI w) {K : mT → Option (Int32 × mT)} : ∀ (d n i : Nat), i + d = ws.length → d < n →
    (f_X6_addTrain_L50 j (nI ws.length) a3 K n (nI i) μ = K μ ∧ ∀ w ∈ ws.drop i, tOf tn w = -6) ∨ (f_X6_addTrain_L50 j (nI ws.length) a3 K n (nI i) μ = some (-5, μ) ∧ ∃ w ∈ ws.drop i, ¬ tOf tn w = -6) := by
  intro d
  induction d with
  | zero =>
    intro n i hi hn
    obtain ⟨n, rfl⟩ : ∃ n', n = n' + 1 := ⟨n - 1, by omega⟩
    left
    rw [f_X6_addTrain_L50, if_pos (nI_le (by omega) (by omega)), List.drop_eq_nil_of_le (by omega)]
    exact ⟨rfl, fun w h => by simp at h⟩
  | succ d ih =>
    intro n i hi hn
    obtain ⟨n, rfl⟩ : ∃ n', n = n' + 1 := ⟨n - 1, by omega⟩
    obtain ⟨w, hwi⟩ : ∃ w, ws[i]? = some w := ⟨_, List.getElem?_eq_getElem (by omega)⟩
    have hw30 := hw w (List.mem_of_getElem? hwi)
    rw [f_X6_addTrain_L50, if_neg (nI_ge (by omega) (by omega)), q_gdi (by omega) (by omega), q_cl (by omega), h26 i w hwi, k_trainOf c ho (by omega), q_bd, drop_cons_of hwi]
    by_cases q : tOf tn w = -6
    · rw [if_pos q, q_lt, z_l1, q_add]
      rcases ih n (i + 1) (by omega) (by omega) with ⟨b1, b2⟩ | ⟨b1, w', b2, b3⟩
      · left
        refine ⟨b1, fun w' h => ?_⟩
        rcases List.mem_cons.mp h with rfl | h
        · exact q
        · exact b2 w' h
      · right
        exact ⟨b1, w', List.mem_cons_of_mem _ b2, b3⟩
    · right
      rw [if_neg q]
      exact ⟨rfl, w, List.mem_cons_self, q⟩
noncomputable def cIf {α : Type} (p : Prop) (a b : α) : α := @ite α p (Classical.propDecidable p) a b
theorem cIf_t {α : Type} {p : Prop} {a b : α} (h : p) : cIf p a b = a := if_pos h
theorem cIf_f {α : Type} {p : Prop} {a b : α} (h : ¬ p) : cIf p a b = b := if_neg h
noncomputable def sTrain (y : yT) (ws : List Nat) (due : Int32) : Int32 × yT :=
  cIf (areT y.2.1 ws) (if due < y.1 0 6 ∨ y.1 0 6 + 5000 < due then (-2, y) else if 8 ≤ y.2.2.2.length then (-4, y) else cIf (∀ w ∈ ws, tOf y.2.2.2 w = -6) (nI y.2.2.2.length, (y.1, y.2.1, y.2.2.1, y.2.2.2 ++ [(due, ws)])) (-5, y)) (-2, y)
theorem k_addTrain {j nt nw tm B : Nat} {due : Int32} {ws : List Nat} {y : yT} {μ : mT} (h : cY μ j y) (hi : iY y nt nw tm B) (hl : ws.length ≤ 8) (hw : ∀ w ∈ ws, w < 30) (h26 : ∀ k w, ws[k]? = some w → μ 26 0 k = nI w) :
    ∃ μ', f_X6_addTrain j (nI ws.length) due μ = some ((sTrain y ws due).1, μ') ∧ cY μ' j (sTrain y ws due).2 ∧ only μ μ' (Yd j) := by
  have h8 := hi.tok.1
  unfold f_X6_addTrain sTrain
  rcases k_areThere h.2.1 hi.rOK hl hw h26 with ⟨g1, g2⟩ | ⟨g1, g2⟩
  case inr =>
    rw [g1, q_bd, if_pos rfl, cIf_f g2]
    exact ⟨μ, rfl, h, only.rf⟩
  rw [g1, q_bd, if_neg (by decide), cIf_t g2, h.1.minute]
  by_cases hb : due < y.1 0 6 ∨ y.1 0 6 + 5000 < due
  · rw [if_pos hb]
    refine ⟨μ, ?_, h, only.rf⟩
    by_cases h1 : due < y.1 0 6
    · rw [if_pos h1]
    · rw [if_neg h1, if_neg (Int32.not_le.mpr (hb.resolve_left h1))]
  rw [if_neg hb, if_neg (fun q => hb (Or.inl q)), if_pos (Int32.not_lt.mp (fun q => hb (Or.inr q))), h.2.2.2.1]
  by_cases hk : 8 ≤ y.2.2.2.length
  · rw [if_pos hk, z_l8, if_neg (nI_nlt hk (by omega))]
    exact ⟨μ, rfl, h, only.rf⟩
  rw [if_neg hk, z_l8, if_pos (nI_lt (by omega) (by omega)), q_lt, z_l0]
  rcases k_atr (j := j) (a3 := due) h.2.2.2 hi.tok hl hw h26 (K := fun μ6 => bd (f_X3_add j (nI ws.length) due μ6) (fun v7 μ8 => some (v7, μ8))) ws.length fu 0 (Nat.zero_add _) (by unfold fu; omega) with ⟨b1, b2⟩ | ⟨b1, w', b2, b3⟩
  · rw [b1, cIf_t (fun w hw' => b2 w (by simpa using hw'))]
    obtain ⟨μ', a1, a2, a3⟩ := k_tadd (x := due) h.2.2.2 (by omega) hi.tok hl h26
    refine ⟨μ', ?_, ⟨h.1.cong (fun κ _ _ _ => a3 κ j (by omega)), h.2.1.cong (a3 _ j (by omega)) (a3 _ j (by omega)), h.2.2.1.cong (a3 _ j (by omega)) (a3 _ j (by omega)) (a3 _ j (by omega)), a2⟩, a3.w (by unfold Yd; omega)⟩
    rw [a1]
    rfl
  · rw [b1, cIf_f (fun z => b3 (z w' (by simpa using b2)))]
    exact ⟨μ, rfl, h, only.rf⟩
