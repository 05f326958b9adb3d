def qTrack (y : yT) (a b : Int32) : Int32 :=
  if isT y a = true then (if b = 0 then y.1 1 a.toNatClampNeg else if b = 1 then nI (y.2.1 a.toNatClampNeg).length else if b = 2 then ssum (y.1 4) (y.2.1 a.toNatClampNeg) else if b = 3 then y.1 2 a.toNatClampNeg else if b = 4 then y.1 3 a.toNatClampNeg else -2) else -1
theorem k_aboutTrack {j nt nw tm B : Nat} {a b : Int32} {y : yT} {μ : mT} (h : cY μ j y) (hi : iY y nt nw tm B) : f_X6_aboutTrack j a b μ = some (qTrack y a b, μ) := by
  unfold f_X6_aboutTrack qTrack
  rw [k_hasTrack h.1, q_bd]
  by_cases ht : isT y a = true
  · obtain ⟨t, ht1, rfl⟩ := isT_in hi.hnt hi.nt8 ht
    have hn8 := hi.nt8
    rw [if_pos ht, if_neg (by decide), if_pos ht, q_cl (by omega), q_gdi (by omega) (by omega), q_gdi (by omega) (by omega), q_gdi (by omega) (by omega), k_manyIn (by omega), k_lenR h hi.rOK (by omega), q_bd, q_bd, cRow.nl h.2.1 (by omega), h.1.t1 (by omega), h.1.t2 (by omega), h.1.t3 (by omega)]
    repeat (split; rfl)
    rfl
  · rw [if_neg ht, if_neg ht, if_pos rfl]
def rwI (rw : Nat → List Nat) (r : Int32) : List Nat := rw r.toNatClampNeg
def qWagon (y : yT) (a b : Int32) : Int32 :=
  if a < 0 then -1 else if a < y.1 0 8 then (
    if b = 0 then y.1 4 a.toNatClampNeg
    else if b = 1 then (if rOf y.2.1 a.toNatClampNeg = 8 then -6 else rOf y.2.1 a.toNatClampNeg)
    else if b = 2 then (if rOf y.2.1 a.toNatClampNeg = -6 then -6 else plc (rwI y.2.1 (rOf y.2.1 a.toNatClampNeg)) a.toNatClampNeg)
    else if b = 3 then (if rOf y.2.1 a.toNatClampNeg = 8 then 1 else 0)
    else if b = 4 then (if rOf y.2.1 a.toNatClampNeg = -6 then y.1 5 a.toNatClampNeg else -6)
    else if b = 5 then y.1 6 a.toNatClampNeg
    else if b = 6 then tOf y.2.2.2 a.toNatClampNeg
    else if b = 7 then (if rOf y.2.1 a.toNatClampNeg = 8 then -6 else if rOf y.2.1 a.toNatClampNeg = -6 then -6 else plc (rwI y.2.1 (rOf y.2.1 a.toNatClampNeg)) a.toNatClampNeg)
    else -2) else -1
theorem rOf_in {rw : Nat → List Nat} {w : Nat} (h : ¬ rOf rw w = -6) : ∃ r, r < 9 ∧ rOf rw w = nI r ∧ w ∈ rw r := by
  unfold rOf at h ⊢
  cases e : rFind rw w 9 0 with
  | none => rw [e] at h; exact absurd rfl h
  | some r =>
    obtain ⟨a, b, c, d⟩ := rFind_some e
    exact ⟨r, by omega, rfl, c⟩
theorem rOf_out {rw : Nat → List Nat} {w : Nat} (h : rOf rw w = -6) : ∀ r, r < 9 → w ∉ rw r := by
  unfold rOf at h
  cases e : rFind rw w 9 0 with
  | none => exact fun r hr => rFind_none e r (Nat.zero_le _) (by omega)
  | some r =>
    rw [e] at h
    obtain ⟨a, b, c, d⟩ := rFind_some e
    exact absurd h (q_n6 (by omega))
theorem k_aboutWagon {j nt nw tm B : Nat} {a b : Int32} {y : yT} {μ : mT} (h : cY μ j y) (hi : iY y nt nw tm B) : f_X6_aboutWagon j a b μ = some (qWagon y a b, μ) := by
  unfold f_X6_aboutWagon qWagon
  rw [h.1.wagons]
  by_cases h0 : a < 0
  · rw [if_pos h0, if_pos h0]
  rw [if_neg h0, if_neg h0]
  by_cases h1 : a < y.1 0 8
  case neg => rw [if_neg h1, if_neg h1]
  rw [if_pos h1, if_pos h1]
  obtain ⟨w, hwb, rfl⟩ := nI_of h0
  have hnw := hi.nw30
  have hw : w < nw := by
    rw [hi.hnw] at h1
    rcases Nat.lt_or_ge w nw with q | q
    · exact q
    · exact absurd h1 (nI_nlt q hwb)
  rw [k_rowOf h.2.1 hi.rOK hwb, q_bd, q_cl hwb, q_lt]
  dsimp only
  rw [k_trainOf h.2.2.2 hi.tok hwb]
  have hg30 : w < 30 := by omega
  by_cases e6 : rOf y.2.1 w = -6
  · have e8 : ¬ rOf y.2.1 w = 8 := by rw [e6]; decide
    have h5 : μ 9 j w = y.1 5 w := h.1.w5 hg30 (hi.2.2.2.2.2.2.2.1 w hw (rOf_out e6))
    rw [if_pos e6]
    simp only [e6, ↓reduceIte, q_gdi hg30 (show 30 < 2147483648 by omega), h.1.w4 hg30, h.1.w6 hg30, h5, q_bd, show ¬ ((-6 : Int32) = 8) by decide]
    repeat (split; rfl)
    rfl
  · obtain ⟨r, hr, er, hm⟩ := rOf_in e6
    have ho := hi.rOK r hr
    rw [if_neg e6, er, k_placeIn hr (h.2.1 r hr) ho.1 ho.2.1 ho.2.2 hwb, q_bd]
    rw [k_trainOf h.2.2.2 hi.tok hwb]
    rw [er] at e6
    unfold rwI
    rw [q_cl (by omega)]
    simp only [e6, ↓reduceIte, q_gdi hg30 (show 30 < 2147483648 by omega), h.1.w4 hg30, h.1.w6 hg30, q_bd]
    repeat (split; (first | rfl | (split <;> rfl)))
    rfl
def qTrain (y : yT) (a b : Int32) : Int32 := match tIx y.2.2.2.length a with
  | none => -1
  | some t => match y.2.2.2[t]? with
    | none => -1
    | some e => if b < 0 then -2 else if b ≤ 10 then (if b = 0 then nI e.2.length else if b = 1 then e.1 else if b = 10 then ssum (y.1 4) e.2 else atN e.2 (b.toNatClampNeg - 2)) else -2
theorem k_lol {j t nw : Nat} {e : Int32 × List Nat} {y : yT} {μ : mT} (h : cY μ j y) (hg : gY y) (ht : y.2.2.2[t]? = some e) (hn : μ 1 j 0 = nI nw) (hn30 : nw ≤ 30) (hw : ∀ w ∈ e.2, w < nw) : ∀ (d n i : Nat) (v : Int32), i + d = e.2.length → d < n →
    f_X6_lengthOfList_L14 j (nI t) (nI e.2.length) n v (nI i) μ = some (v + ssum (y.1 4) (e.2.drop i), μ) := by
  obtain ⟨o1, o2, o3, o4⟩ := hg.2.2.2.2.2 t e ht
  intro d
  induction d with
  | zero =>
    intro n i v hi hd
    obtain ⟨n, rfl⟩ : ∃ n', n = n' + 1 := ⟨n - 1, by omega⟩
    rw [f_X6_lengthOfList_L14, if_pos (nI_le (by omega) (by omega)), List.drop_eq_nil_of_le (by omega)]
    simp [ssum]
  | succ d ih =>
    intro n i v hi hd
    obtain ⟨n, rfl⟩ : ∃ n', n = n' + 1 := ⟨n - 1, by omega⟩
    obtain ⟨w, hwi⟩ : ∃ w, e.2[i]? = some w := ⟨_, List.getElem?_eq_getElem (by omega)⟩
    have hww := hw w (List.mem_of_getElem? hwi)
    rw [f_X6_lengthOfList_L14, if_neg (nI_ge (by omega) (by omega)), k_wagonOf h.2.2.2 hg.2.2.2.2.1 ht o2 (by omega), q_bd, atN_at hwi, k_lenWagon hn hn30 hww, q_bd, h.1.w4 (by omega), q_lt, q_lt, z_l1, q_add, ih n (i + 1) _ (by omega) (by omega), drop_cons_of hwi]
    simp only [ssum, Int32.add_assoc]
theorem k_aboutTrain {j nt nw tm B : Nat} {a b : Int32} {y : yT} {μ : mT} (h : cY μ j y) (hi : iY y nt nw tm B) : f_X6_aboutTrain j a b μ = some (qTrain y a b, μ) := by
  have h8 := hi.tok.1
  unfold f_X6_aboutTrain qTrain
  rw [k_has h.2.2.2 h8, q_bd]
  cases et : tIx y.2.2.2.length a with
  | none => rfl
  | some t =>
    obtain ⟨rfl, htl⟩ := tIx_some et
    obtain ⟨e, he⟩ : ∃ e, y.2.2.2[t]? = some e := ⟨_, List.getElem?_eq_getElem htl⟩
    obtain ⟨o1, o2, o3, o4⟩ := hi.tok.2 t e he
    have hwn := (hi.2.2.2.2.2.2.2.2.2.2 e (List.mem_of_getElem? he)).2
    dsimp only
    rw [show (if (some t).isSome = true then (1 : Int32) else 0) = 1 from rfl, if_neg (by decide), he]
    dsimp only
    by_cases hb0 : b < 0
    · rw [if_pos hb0, if_pos hb0]
    rw [if_neg hb0, if_neg hb0]
    by_cases hb1 : b ≤ 10
    case neg => rw [if_neg hb1, if_neg hb1]
    rw [if_pos hb1, if_pos hb1, k_sizeOf h.2.2.2 h8 he, q_bd]
    by_cases e0 : b = 0
    · rw [if_pos e0, if_pos e0]
    rw [if_neg e0, if_neg e0]
    by_cases e1 : b = 1
    · rw [if_pos e1, if_pos e1, q_gdi (by omega) (by omega), q_cl (by omega), (h.2.2.2.2 t e he).1]
    rw [if_neg e1, if_neg e1]
    by_cases e2 : b = 10
    · rw [if_pos e2, if_pos e2]
      unfold f_X6_lengthOfList
      have hn : μ 1 j 0 = nI nw := by rw [h.1.wagons, hi.hnw]
      rw [k_sizeOf h.2.2.2 h8 he, q_bd, z_l0, k_lol h hi.g he hn hi.nw30 hwn e.2.length fu 0 (nI 0) (by omega) (by unfold fu; omega), q_bd, q_0a]
      rfl
    rw [if_neg e2, if_neg e2]
    obtain ⟨k, hk, rfl⟩ := nI_of hb0
    rw [z_l0, nI_eq hk (by omega)] at e0
    rw [z_l1, nI_eq hk (by omega)] at e1
    rw [z_l2, q_sub (by omega), k_wagonOf h.2.2.2 h8 he o2 (by omega), q_bd, q_cl hk]
def qYard (y : yT) (a : Int32) : Int32 :=
  if a = 0 then y.1 0 6 else if a = 1 then y.1 0 7 else if a = 2 then y.1 0 8 else if a = 3 then nI (y.2.1 8).length else if a = 4 then ssum (y.1 4) (y.2.1 8) else if a = 5 then y.1 0 10 else if a = 6 then nI y.2.2.2.length else if a = 7 then y.1 0 12 else if a = 8 then nI y.2.2.1.length else if a = 9 then y.1 0 14 else if a = 10 then y.1 0 15 else if a = 11 then y.1 0 16 else if a = 12 then y.1 0 17 else if a < 15 then -2 else if 21 ≤ a then -2 else y.1 0 (a.toNatClampNeg - 15)
theorem k_aboutYard {j nt nw tm B : Nat} {a : Int32} {y : yT} {μ : mT} (h : cY μ j y) (hi : iY y nt nw tm B) : f_X6_aboutYard j a μ = some (qYard y a, μ) := by
  unfold f_X6_aboutYard qYard
  rw [h.1.minute, h.1.tracks, h.1.wagons, z_l8, k_manyIn (by omega), q_bd, k_lenR h hi.rOK (by omega), q_bd, h.1.gone, h.2.2.2.1, h.1.left, h.2.2.1.1, h.1.coup, h.1.moves, h.1.wait, h.1.fines, cRow.nl h.2.1 (by omega)]
  by_cases c0 : a = 0
  · rw [if_pos c0, if_pos c0]
  rw [if_neg c0, if_neg c0]
  by_cases c1 : a = 1
  · rw [if_pos c1, if_pos c1]
  rw [if_neg c1, if_neg c1]
  by_cases c2 : a = 2
  · rw [if_pos c2, if_pos c2]
  rw [if_neg c2, if_neg c2]
  by_cases c3 : a = 3
  · rw [if_pos c3, if_pos c3]
  rw [if_neg c3, if_neg c3]
  by_cases c4 : a = 4
  · rw [if_pos c4, if_pos c4]
  rw [if_neg c4, if_neg c4]
  by_cases c5 : a = 5
  · rw [if_pos c5, if_pos c5]
  rw [if_neg c5, if_neg c5]
  by_cases c6 : a = 6
  · rw [if_pos c6, if_pos c6]
  rw [if_neg c6, if_neg c6]
  by_cases c7 : a = 7
  · rw [if_pos c7, if_pos c7]
  rw [if_neg c7, if_neg c7]
  by_cases c8 : a = nI 8
  · rw [if_pos c8, if_pos c8]
  rw [if_neg c8, if_neg c8]
  by_cases c9 : a = 9
  · rw [if_pos c9, if_pos c9]
  rw [if_neg c9, if_neg c9]
  by_cases c10 : a = 10
  · rw [if_pos c10, if_pos c10]
  rw [if_neg c10, if_neg c10]
  by_cases c11 : a = 11
  · rw [if_pos c11, if_pos c11]
  rw [if_neg c11, if_neg c11]
  by_cases c12 : a = 12
  · rw [if_pos c12, if_pos c12]
  rw [if_neg c12, if_neg c12]
  by_cases h15 : a < 15
  · rw [if_pos h15, if_pos h15]
  rw [if_neg h15, if_neg h15]
  by_cases h21 : 21 ≤ a
  · rw [if_pos h21, if_pos h21]
  rw [if_neg h21, if_neg h21]
  have h0 : ¬ a < 0 := fun q => h15 (Int32.lt_of_lt_of_le q (by decide))
  obtain ⟨k, hk, rfl⟩ := nI_of h0
  rw [z_l15] at h15 ⊢
  rw [z_l21] at h21
  have k1 : 15 ≤ k := by
    rcases Nat.lt_or_ge k 15 with q | q
    · exact absurd (nI_lt q (by omega)) h15
    · exact q
  have k2 : k < 21 := by
    rcases Nat.lt_or_ge k 21 with q | q
    · exact q
    · exact absurd (nI_le q hk) h21
  rw [q_sub k1, q_gdi (by omega) (by omega), q_cl (by omega), q_cl hk, h.1.set (by omega)]
def bit (t : Nat) : Int32 := 1 <<< (nI t &&& 31)
def trF (y : yT) (n : Nat) : Nat → Nat → Int32 → Int32
  | 0, _, v => v
  | d + 1, t, v => trF y n d (t + 1) (if n = 0 then v else if canQ y t n = true then v ||| bit t else v)
theorem k_tracksFor {j nt nw tm B n : Nat} {y : yT} {μ : mT} (h : cY μ j y) (hi : iY y nt nw tm B) (hn : n < 2147483648) : ∀ (d f t : Nat) (v : Int32), t + d = nt → d < f →
    f_X6_tracksFor_L4 j (nI n) f v (nI t) μ = some (trF y n d t v, μ) := by
  have hn8 := hi.nt8
  have e7 : μ 0 j 7 = nI nt := by rw [h.1.tracks, hi.hnt]
  intro d
  induction d with
  | zero =>
    intro f t v ht hf
    obtain ⟨f, rfl⟩ : ∃ n', f = n' + 1 := ⟨f - 1, by omega⟩
    rw [f_X6_tracksFor_L4, e7, if_pos (nI_le (by omega) (by omega))]
    rfl
  | succ d ih =>
    intro f t v ht hf
    obtain ⟨f, rfl⟩ : ∃ n', f = n' + 1 := ⟨f - 1, by omega⟩
    rw [f_X6_tracksFor_L4, e7, if_neg (nI_ge (by omega) (by omega)), q_lt, k_canBringIn h hi.rOK (by omega) hn, q_bd]
    unfold trF
    rw [z_l1, q_add]
    by_cases e0 : n = 0
    · subst e0
      rw [if_pos (show nI 0 ≤ 0 from by decide), if_pos rfl]
      dsimp only
      rw [q_lt]
      exact ih f (t + 1) v (by omega) (by omega)
    · rw [if_neg (show ¬ nI n ≤ 0 from by rw [z_l0]; exact nI_ge (by omega) hn), if_neg e0]
      by_cases hc : canQ y t n = true
      · rw [if_pos hc, if_pos hc, if_neg (by decide), q_lt]
        dsimp only
        rw [q_lt]
        exact ih f (t + 1) _ (by omega) (by omega)
      · rw [if_neg hc, if_neg hc, if_pos rfl]
        dsimp only
        rw [q_lt]
        exact ih f (t + 1) v (by omega) (by omega)
def bur (y : yT) (t p : Nat) : Prop := ¬ atN (y.2.1 t) p = -6 ∧ ∃ w, (y.2.1 t)[p]? = some w ∧ ¬ tOf y.2.2.2 w = -6 ∧ ∃ i v, i < p ∧ (y.2.1 t)[i]? = some v ∧ ¬ tOf y.2.2.2 v = tOf y.2.2.2 w
theorem k_isb {j nt nw tm B t p w : Nat} {y : yT} {μ : mT} (h : cY μ j y) (hi : iY y nt nw tm B) (ht : t < 8) (hw : (y.2.1 t)[p]? = some w) (h6 : ¬ tOf y.2.2.2 w = -6) : ∀ (d f i : Nat), i + d = p → d < f →
    (f_X6_isBuried_L20 j (nI t) (nI p) (tOf y.2.2.2 w) f (nI i) μ = some (0, μ) ∧ ∀ k v, i ≤ k → k < p → (y.2.1 t)[k]? = some v → tOf y.2.2.2 v = tOf y.2.2.2 w) ∨ (f_X6_isBuried_L20 j (nI t) (nI p) (tOf y.2.2.2 w) f (nI i) μ = some (1, μ) ∧ ∃ k v, k < p ∧ (y.2.1 t)[k]? = some v ∧ ¬ tOf y.2.2.2 v = tOf y.2.2.2 w) := by
  have ho := hi.rOK t (by omega)
  have hpl := (List.getElem?_eq_some_iff.mp hw).1
  intro d
  induction d with
  | zero =>
    intro f i hi' hf
    obtain ⟨f, rfl⟩ : ∃ n', f = n' + 1 := ⟨f - 1, by omega⟩
    left
    rw [f_X6_isBuried_L20, if_pos (nI_le (by omega) (by omega))]
    exact ⟨rfl, fun k v h1 h2 => by omega⟩
  | succ d ih =>
    intro f i hi' hf
    obtain ⟨f, rfl⟩ : ∃ n', f = n' + 1 := ⟨f - 1, by omega⟩
    obtain ⟨v, hv⟩ : ∃ v, (y.2.1 t)[i]? = some v := ⟨_, List.getElem?_eq_getElem (by omega)⟩
    have hv30 := ho.2.1 v (List.mem_of_getElem? hv)
    rw [f_X6_isBuried_L20, if_neg (nI_ge (by omega) (by omega)), if_neg h6, k_wagonAt (by omega) (h.2.1 t (by omega)) ho.1 (by omega), q_bd, atN_at hv, k_trainOf h.2.2.2 hi.tok (by omega), q_bd]
    by_cases e : tOf y.2.2.2 v = tOf y.2.2.2 w
    · rw [if_pos e, q_lt, z_l1, q_add]
      rcases ih f (i + 1) (by omega) (by omega) with ⟨g1, g2⟩ | ⟨g1, g2⟩
      · left
        refine ⟨g1, fun k u h1 h2 h3 => ?_⟩
        by_cases ek : k = i
        · subst ek
          rw [hv] at h3
          cases h3
          exact e
        · exact g2 k u (by omega) h2 h3
      · right
        exact ⟨g1, g2⟩
    · right
      rw [if_neg e]
      exact ⟨rfl, i, v, by omega, hv, e⟩
noncomputable def burB (y : yT) (t p : Nat) : Int32 := cIf (bur y t p) 1 0
theorem k_isBuried {j nt nw tm B t p : Nat} {y : yT} {μ : mT} (h : cY μ j y) (hi : iY y nt nw tm B) (ht : t < 8) (hp : p < (y.2.1 t).length) : f_X6_isBuried j (nI t) (nI p) μ = some (burB y t p, μ) := by
  have ho := hi.rOK t (by omega)
  obtain ⟨w, hw⟩ : ∃ w, (y.2.1 t)[p]? = some w := ⟨_, List.getElem?_eq_getElem hp⟩
  have hw30 := ho.2.1 w (List.mem_of_getElem? hw)
  unfold f_X6_isBuried burB
  rw [k_wagonAt (by omega) (h.2.1 t (by omega)) ho.1 (by omega), q_bd, atN_at hw, k_trainOf h.2.2.2 hi.tok (by omega), q_bd]
  by_cases h6 : tOf y.2.2.2 w = -6
  · rw [cIf_f (fun z => by obtain ⟨_, w', h1, h2, _⟩ := z; rw [hw] at h1; cases h1; exact h2 h6)]
    rw [show fu = 3999 + 1 from rfl, f_X6_isBuried_L20, if_pos h6]
    split <;> rfl
  · rcases k_isb h hi ht hw h6 p fu 0 (Nat.zero_add _) (by unfold fu; omega) with ⟨g1, g2⟩ | ⟨g1, k, v, g2, g3, g4⟩
    · rw [z_l0, g1, cIf_f]
      · rfl
      · rintro ⟨_, w', h1, h2, i, v, h3, h4, h5⟩
        rw [hw] at h1
        cases h1
        exact h5 (g2 i v (Nat.zero_le _) h3 h4)
    · rw [z_l0, g1, cIf_t ⟨by rw [atN_at hw]; exact q_n6 (by omega), w, hw, h6, k, v, g2, g3, g4⟩]
noncomputable def buI (y : yT) (t : Nat) : Nat → Nat → Int32 → Int32
  | 0, _, v => v
  | d + 1, p, v => buI y t d (p + 1) (cIf (bur y t p) (v + 1) v)
noncomputable def buO (y : yT) : Nat → Nat → Int32 → Int32
  | 0, _, v => v
  | d + 1, t, v => buO y d (t + 1) (buI y t (y.2.1 t).length 0 v)
theorem k_mbI {j nt nw tm B t : Nat} {v2 : Int32} {y : yT} {μ : mT} (h : cY μ j y) (hi : iY y nt nw tm B) (ht : t < 8) {K : Int32 → mT → Option (Int32 × mT)} : ∀ (d f p : Nat) (v : Int32), p + d = (y.2.1 t).length → d < f → v2 = nI t →
    f_X6_manyBuried_L26 j v2 (nI (y.2.1 t).length - nI 1) K f v (nI p) μ = K (buI y t d p v) μ := by
  have ho := hi.rOK t (by omega)
  intro d
  induction d with
  | zero =>
    intro f p v hp hf e2
    obtain ⟨f, rfl⟩ : ∃ n', f = n' + 1 := ⟨f - 1, by omega⟩
    rw [f_X6_manyBuried_L26, if_pos]
    · rfl
    · rcases Nat.eq_zero_or_pos (y.2.1 t).length with e | e
      · rw [e, show p = 0 by omega]
        decide
      · rw [q_sub (by omega)]
        exact nI_lt (by omega) (by omega)
  | succ d ih =>
    intro f p v hp hf e2
    obtain ⟨f, rfl⟩ : ∃ n', f = n' + 1 := ⟨f - 1, by omega⟩
    rw [f_X6_manyBuried_L26, if_neg (by rw [q_sub (by omega)]; exact nI_nlt (by omega) (by omega)), e2, k_isBuried h hi ht (by omega), q_bd, q_lt]
    unfold buI burB
    by_cases e : bur y t p
    · rw [cIf_t e, cIf_t e, if_neg (by decide), q_lt]
      dsimp only
      rw [q_lt, z_l1, q_add, ← z_l1]
      have := ih f (p + 1) (v + 1) (by omega) (by omega) e2
      rw [e2] at this
      exact this
    · rw [cIf_f e, cIf_f e, if_pos rfl]
      dsimp only
      rw [q_lt, z_l1, q_add]
      have := ih f (p + 1) v (by omega) (by omega) e2
      rw [e2] at this
      exact this
theorem k_mbO {j nt nw tm B : Nat} {y : yT} {μ : mT} (h : cY μ j y) (hi : iY y nt nw tm B) : ∀ (d f t : Nat) (v : Int32), t + d = nt → d < f →
    f_X6_manyBuried_L4 j f v (nI t) μ = some (buO y d t v, μ) := by
  have hn8 := hi.nt8
  have e7 : μ 0 j 7 = nI nt := by rw [h.1.tracks, hi.hnt]
  intro d
  induction d with
  | zero =>
    intro f t v ht hf
    obtain ⟨f, rfl⟩ : ∃ n', f = n' + 1 := ⟨f - 1, by omega⟩
    rw [f_X6_manyBuried_L4, e7, if_pos (nI_le (by omega) (by omega))]
    rfl
  | succ d ih =>
    intro f t v ht hf
    obtain ⟨f, rfl⟩ : ∃ n', f = n' + 1 := ⟨f - 1, by omega⟩
    have h30 := (hi.rOK t (by omega)).1
    rw [f_X6_manyBuried_L4, e7, if_neg (nI_ge (by omega) (by omega)), k_manyIn (by omega), q_bd, cRow.nl h.2.1 (by omega), q_lt, q_lt, z_l1, z_l0, k_mbI h hi (by omega) (y.2.1 t).length fu 0 v (by omega) (by unfold fu; omega) rfl, q_lt, q_add]
    exact ih f (t + 1) _ (by omega) (by omega)
