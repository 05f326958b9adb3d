def qTrack (y : yT) (a b : Int32) : Int32 :=
  if isT y a = true then (if b = 0 then y.1 1 a.toNatClampNeg else if b = 1 then nI (y.2.1 a.toNatClampNeg).length else if b = 2 then ssum (y.1 4) (y.2.1 a.toNatClampNeg) else if b = 3 then y.1 2 a.toNatClampNeg else if b = 4 then y.1 3 a.toNatClampNeg else -2) else -1
theorem k_aboutTrack {j nt nw tm B : Nat} {a b : Int32} {y : yT} {μ : mT} (h : cY μ j y) (hi : iY y nt nw tm B) : f_X6_aboutTrack j a b μ = some (qTrack y a b, μ) := by
  unfold f_X6_aboutTrack qTrack
  rw [k_hasTrack h.1, q_bd]
  by_cases ht : isT y a = true
  · obtain ⟨t, ht1, rfl⟩ := isT_in hi.hnt hi.nt8 ht
    have hn8 := hi.nt8
    rw [if_pos ht, if_neg (by decide), if_pos ht, q_cl (by omega), q_gdi (by omega) (by omega), q_gdi (by omega) (by omega), q_gdi (by omega) (by omega), k_manyIn (by omega), k_lenR h hi.rOK (by omega), q_bd, q_bd, cRow.nl h.2.1 (by omega), h.1.t1 (by omega), h.1.t2 (by omega), h.1.t3 (by omega)]
    repeat (split; rfl)
    rfl
  · rw [if_neg ht, if_neg ht, if_pos rfl]
def rwI (rw : Nat → List Nat) (r : Int32) : List Nat := rw r.toNatClampNeg
def qWagon (y : yT) (a b : Int32) : Int32 :=
  if a < 0 then -1 else if a < y.1 0 8 then (
    if b = 0 then y.1 4 a.toNatClampNeg
    else if b = 1 then (if rOf y.2.1 a.toNatClampNeg = 8 then -6 else rOf y.2.1 a.toNatClampNeg)
    else if b = 2 then (if rOf y.2.1 a.toNatClampNeg = -6 then -6 else plc (rwI y.2.1 (rOf y.2.1 a.toNatClampNeg)) a.toNatClampNeg)
    else if b = 3 then (if rOf y.2.1 a.toNatClampNeg = 8 then 1 else 0)
    else if b = 4 then (if rOf y.2.1 a.toNatClampNeg = -6 then y.1 5 a.toNatClampNeg else -6)
    else if b = 5 then y.1 6 a.toNatClampNeg
    else if b = 6 then tOf y.2.2.2 a.toNatClampNeg
    else if b = 7 then (if rOf y.2.1 a.toNatClampNeg = 8 then -6 else if rOf y.2.1 a.toNatClampNeg = -6 then -6 else plc (rwI y.2.1 (rOf y.2.1 a.toNatClampNeg)) a.toNatClampNeg)
    else -2) else -1
theorem rOf_in {rw : Nat → List Nat} {w : Nat} (h : ¬ rOf rw w = -6) : ∃ r, r < 9 ∧ rOf rw w = nI r ∧ w ∈ rw r := by
  unfold rOf at h ⊢
  cases e : rFind rw w 9 0 with
  | none => rw [e] at h; exact absurd rfl h
  | some r =>
    obtain ⟨a, b, c, d⟩ := rFind_some e
    exact ⟨r, by omega, rfl, c⟩
theorem rOf_out {rw : Nat → List Nat} {w : Nat} (h : rOf rw w = -6) : ∀ r, r < 9 → w ∉ rw r := by
  unfold rOf at h
  cases e : rFind rw w 9 0 with
  | none => exact fun r hr => rFind_none e r (Nat.zero_le _) (by omega)
  | some r =>
    rw [e] at h
    obtain ⟨a, b, c, d⟩ := rFind_some e
    exact absurd h (q_n6 (by omega))
theorem k_aboutWagon {j nt nw tm B : Nat} {a b : Int32} {y : yT} {μ : mT} (h : cY μ j y) (hi : iY y nt nw tm B) : f_X6_aboutWagon j a b μ = some (qWagon y a b, μ) := by
  unfold f_X6_aboutWagon qWagon
  rw [h.1.wagons]
  by_cases h0 : a < 0
  · rw [if_pos h0, if_pos h0]
  rw [if_neg h0, if_neg h0]
  by_cases h1 : a < y.1 0 8
  case neg => rw [if_neg h1, if_neg h1]
  rw [if_pos h1, if_pos h1]
  obtain ⟨w, hwb, rfl⟩ := nI_of h0
  have hnw := hi.nw30
  have hw : w < nw := by
    rw [hi.hnw] at h1
    rcases Nat.lt_or_ge w nw with q | q
    · exact q
    · exact absurd h1 (nI_nlt q hwb)
  rw [k_rowOf h.2.1 hi.rOK hwb, q_bd, q_cl hwb, q_lt]
  dsimp only
  rw [k_trainOf h.2.2.2 hi.tok hwb]
  have hg30 : w < 30 := by omega
  by_cases e6 : rOf y.2.1 w = -6
  · have e8 : ¬ rOf y.2.1 w = 8 := by rw [e6]; decide
    have h5 : μ 9 j w = y.1 5 w := h.1.w5 hg30 (hi.2.2.2.2.2.2.2.1 w hw (rOf_out e6))
    rw [if_pos e6]
    simp only [e6, ↓reduceIte, q_gdi hg30 (show 30 < 2147483648 by omega), h.1.w4 hg30, h.1.w6 hg30, h5, q_bd, show ¬ ((-6 : Int32) = 8) by decide]
    repeat (split; rfl)
    rfl
  · obtain ⟨r, hr, er, hm⟩ := rOf_in e6
    have ho := hi.rOK r hr
    rw [if_neg e6, er, k_placeIn hr (h.2.1 r hr) ho.1 ho.2.1 ho.2.2 hwb, q_bd]
    rw [k_trainOf h.2.2.2 hi.tok hwb]
    rw [er] at e6
    unfold rwI
    rw [q_cl (by omega)]
    simp only [e6, ↓reduceIte, q_gdi hg30 (show 30 < 2147483648 by omega), h.1.w4 hg30, h.1.w6 hg30, q_bd]
    repeat (split; (first | rfl | (split <;> rfl)))
    rfl
def qTrain (y : yT) (a b : Int32) : Int32 := match tIx y.2.2.2.length a with
  | none => -1
  | some t => match y.2.2.2[t]? with
    | none => -1
    | some e => if b < 0 then -2 else if b ≤ 10 then (if b = 0 then nI e.2.length else if b = 1 then e.1 else if b = 10 then ssum (y.1 4) e.2 else atN e.2 (b.toNatClampNeg - 2)) else -2
theorem k_lol {j t nw : Nat} {e : Int32 × List Nat} {y : yT} {μ : mT} (h : cY μ j y) (hg : gY y) (ht : y.2.2.2[t]? = some e) (hn : μ 1 j 0 = nI nw) (hn30 : nw ≤ 30) (hw : ∀ w ∈ e.2, w < nw) : ∀ (d n i : Nat) (v : Int32), i + d = e.2.length → d < n →
    f_X6_lengthOfList_L14 j (nI t) (nI e.2.length) n v (nI i) μ = some (v + ssum (y.1 4) (e.2.drop i), μ) := by
  obtain ⟨o1, o2, o3, o4⟩ := hg.2.2.2.2.2 t e ht
  intro d
  induction d with
  | zero =>
    intro n i v hi hd
    obtain ⟨n, rfl⟩ : ∃ n', n = n' + 1 := ⟨n - 1, by omega⟩
    rw [f_X6_lengthOfList_L14, if_pos (nI_le (by omega) (by omega)), List.drop_eq_nil_of_le (by omega)]
    simp [ssum]
  | succ d ih =>
    intro n i v hi hd
    obtain ⟨n, rfl⟩ : ∃ n', n = n' + 1 := ⟨n - 1, by omega⟩
    obtain ⟨w, hwi⟩ : ∃ w, e.2[i]? = some w := ⟨_, List.getElem?_eq_getElem (by omega)⟩
    have hww := hw w (List.mem_of_getElem? hwi)
    rw [f_X6_lengthOfList_L14, if_neg (nI_ge (by omega) (by omega)), k_wagonOf h.2.2.2 hg.2.2.2.2.1 ht o2 (by omega), q_bd, atN_at hwi, k_lenWagon hn hn30 hww, q_bd, h.1.w4 (by omega), q_lt, q_lt, z_l1, q_add, ih n (i + 1) _ (by omega) (by omega), drop_cons_of hwi]
    simp only [ssum, Int32.add_assoc]
theorem k_aboutTrain {j nt nw tm B : Nat} {a b : Int32} {y : yT} {μ : mT} (h : cY μ j y) (hi : iY y nt nw tm B) : f_X6_aboutTrain j a b μ = some (qTrain y a b, μ) := by
  have h8 := hi.tok.1
  unfold f_X6_aboutTrain qTrain
  rw [k_has h.2.2.2 h8, q_bd]
  cases et : tIx y.2.2.2.length a with
  | none => rfl
  | some t =>
    obtain ⟨rfl, htl⟩ := tIx_some et
    obtain ⟨e, he⟩ : ∃ e, y.2.2.2[t]? = some e := ⟨_, List.getElem?_eq_getElem htl⟩
    obtain ⟨o1, o2, o3, o4⟩ := hi.tok.2 t e he
    have hwn := (hi.2.2.2.2.2.2.2.2.2.2 e (List.mem_of_getElem? he)).2
    dsimp only
    rw [show (if (some t).isSome = true then (1 : Int32) else 0) = 1 from rfl, if_neg (by decide), he]
    dsimp only
    by_cases hb0 : b < 0
    · rw [if_pos hb0, if_pos hb0]
    rw [if_neg hb0, if_neg hb0]
    by_cases hb1 : b ≤ 10
    case neg => rw [if_neg hb1, if_neg hb1]
    rw [if_pos hb1, if_pos hb1, k_sizeOf h.2.2.2 h8 he, q_bd]
    by_cases e0 : b = 0
    · rw [if_pos e0, if_pos e0]
    rw [if_neg e0, if_neg e0]
    by_cases e1 : b = 1
    · rw [if_pos e1, if_pos e1, q_gdi (by omega) (by omega), q_cl (by omega), (h.2.2.2.2 t e he).1]
    rw [if_neg e1, if_neg e1]
    by_cases e2 : b = 10
    · rw [if_pos e2, if_pos e2]
      unfold f_X6_lengthOfList
      have hn : μ 1 j 0 = nI nw := by rw [h.1.wagons, hi.hnw]
      rw [k_sizeOf h.2.2.2 h8 he, q_bd, z_l0, k_lol h hi.g he hn hi.nw30 hwn e.2.length fu 0 (nI 0) (by omega) (by unfold fu; omega), q_bd, q_0a]
      rfl
    rw [if_neg e2, if_neg e2]
    obtain ⟨k, hk, rfl⟩ := nI_of hb0
    rw [z_l0, nI_eq hk (by omega)] at e0
    rw [z_l1, nI_eq hk (by omega)] at e1
    rw [z_l2, q_sub (by omega), k_wagonOf h.2.2.2 h8 he o2 (by omega), q_bd, q_cl hk]
def qYard (y : yT) (a : Int32) : Int32 :=
  if a = 0 then y.1 0 6 else if a = 1 then y.1 0 7 else if a = 2 then y.1 0 8 else if a = 3 then nI (y.2.1 8).length else if a = 4 then ssum (y.1 4) (y.2.1 8) else if a = 5 then y.1 0 10 else if a = 6 then nI y.2.2.2.length else if a = 7 then y.1 0 12 else if a = 8 then nI y.2.2.1.length else if a = 9 then y.1 0 14 else if a = 10 then y.1 0 15 else if a = 11 then y.1 0 16 else if a = 12 then y.1 0 17 else if a < 15 then -2 else if 21 ≤ a then -2 else y.1 0 (a.toNatClampNeg - 15)
theorem k_aboutYard {j nt nw tm B : Nat} {a : Int32} {y : yT} {μ : mT} (h : cY μ j y) (hi : iY y nt nw tm B) : f_X6_aboutYard j a μ = some (qYard y a, μ) := by
  unfold f_X6_aboutYard qYard
  rw [h.1.minute, h.1.tracks, h.1.wagons, z_l8, k_manyIn (by omega), q_bd, k_lenR h hi.rOK (by omega), q_bd, h.1.gone, h.2.2.2.1, h.1.left, h.2.2.1.1, h.1.coup, h.1.moves, h.1.wait, h.1.fines, cRow.nl h.2.1 (by omega)]
  by_cases c0 : a = 0
  · rw [if_pos c0, if_pos c0]
  rw [if_neg c0, if_neg c0]
  by_cases c1 : a = 1
  · rw [if_pos c1, if_pos c1]
  rw [if_neg c1, if_neg c1]
  by_cases c2 : a = 2
  · rw [if_pos c2, if_pos c2]
  rw [if_neg c2, if_neg c2]
  by_cases c3 : a = 3
  · rw [if_pos c3, if_pos c3]
  rw [if_neg c3, if_neg c3]
  by_cases c4 : a = 4
  · rw [if_pos c4, if_pos c4]
  rw [if_neg c4, if_neg c4]
  by_cases c5 : a = 5
  · rw [if_pos c5, if_pos c5]
  rw [if_neg c5, if_neg c5]
  by_cases c6 : a = 6
  · rw [if_pos c6, if_pos c6]
  rw [if_neg c6, if_neg c6]
  by_cases c7 : a = 7
  · rw [if_pos c7, if_pos c7]
  rw [if_neg c7, if_neg c7]
  by_cases c8 : a = nI 8
  · rw [if_pos c8, if_pos c8]
  rw [if_neg c8, if_neg c8]
  by_cases c9 : a = 9
  · rw [if_pos c9, if_pos c9]
  rw [if_neg c9, if_neg c9]
  by_cases c10 : a = 10
  · rw [if_pos c10, if_pos c10]
  rw [if_neg c10, if_neg c10]
  by_cases c11 : a = 11
  · rw [if_pos c11, if_pos c11]
  rw [if_neg c11, if_neg c11]
  by_cases c12 : a = 12
  · rw [if_pos c12, if_pos c12]
  rw [if_neg c12, if_neg c12]
  by_cases h15 : a < 15
  · rw [if_pos h15, if_pos h15]
  rw [if_neg h15, if_neg h15]
  by_cases h21 : 21 ≤ a
  · rw [if_pos h21, if_pos h21]
  rw [if_neg h21, if_neg h21]
  have h0 : ¬ a < 0 := fun q => h15 (Int32.lt_of_lt_of_le q (by decide))
  obtain ⟨k, hk, rfl⟩ := nI_of h0
  rw [z_l15] at h15 ⊢
  rw [z_l21] at h21
  have k1 : 15 ≤ k := by
    rcases Nat.lt_or_ge k 15 with q | q
    · exact absurd (nI_lt q (by omega)) h15
    · exact q
  have k2 : k < 21 := by
    rcases Nat.lt_or_ge k 21 with q | q
    · exact q
    · exact absurd (nI_le q hk) h21
  rw [q_sub k1, q_gdi (by omega) (by omega), q_cl (by omega), q_cl hk, h.1.set (by omega)]
def bit (t : Nat) : Int32 := 1 <<< (nI t &&& 31)
def trF (y : yT) (n : Nat) : Nat → Nat → Int32 → Int32
  | 0, _, v => v
  | d + 1, t, v => trF y n d (t + 1) (if n = 0 then v else if canQ y t n = true then v ||| bit t else v)
theorem k_tracksFor {j nt nw tm B n : Nat} {y : yT} {μ : mT} (h : cY μ j y) (hi : iY y nt nw tm B) (hn : n < 2147483648) : ∀ (d f t : Nat) (v : Int32), t + d = nt → d < f →
    f_X6_tracksFor_L4 j (nI n) f v (nI t) μ = some (trF y n d t v, μ) := by
  have hn8 := hi.nt8
  have e7 : μ 0 j 7 = nI nt := by rw [h.1.tracks, hi.hnt]
  intro d
  induction d with
  | zero =>
    intro f t v ht hf
    obtain ⟨f, rfl⟩ : ∃ n', f = n' + 1 := ⟨f - 1, by omega⟩
    rw [f_X6_tracksFor_L4, e7, if_pos (nI_le (by omega) (by omega))]
    rfl
  | succ d ih =>
    intro f t v ht hf
    obtain ⟨f, rfl⟩ : ∃ n', f = n' + 1 := ⟨f - 1, by omega⟩
    rw [f_X6_tracksFor_L4, e7, if_neg (nI_ge (by omega) (by omega)), q_lt, k_canBringIn h hi.rOK (by omega) hn, q_bd]
    unfold trF
    rw [z_l1, q_add]
    by_cases e0 : n = 0
    · subst e0
      rw [if_pos (show nI 0 ≤ 0 from by decide), if_pos rfl]
      dsimp only
      rw [q_lt]
      exact ih f (t + 1) v (by omega) (by omega)
    · rw [if_neg (show ¬ nI n ≤ 0 from by rw [z_l0]; exact nI_ge (by omega) hn), if_neg e0]
      by_cases hc : canQ y t n = true
      · rw [if_pos hc, if_pos hc, if_neg (by decide), q_lt]
        dsimp only
        rw [q_lt]
        exact ih f (t + 1) _ (by omega) (by omega)
      · rw [if_neg hc, if_neg hc, if_pos rfl]
        dsimp only
        rw [q_lt]
        exact ih f (t + 1) v (by omega) (by omega)
def kdom (κ k : Nat) : Prop := (κ = 0 ∧ k < 8 ∧ k ≠ 6) ∨ (κ = 1 ∧ k < 2) ∨ ((κ = 2 ∨ κ = 3) ∧ k < 1) ∨ (κ = 4 ∧ k < 6) ∨ (5 ≤ κ ∧ κ ≤ 7 ∧ k < 8) ∨ (8 ≤ κ ∧ κ ≤ 10 ∧ k < 30) ∨ (κ = 11 ∧ k < 9) ∨ (κ = 12 ∧ k < 270) ∨ ((κ = 13 ∨ κ = 14) ∧ k < 10) ∨ ((κ = 15 ∨ κ = 16) ∧ k < 8) ∨ (κ = 17 ∧ k < 64)
def cp (j j2 : Nat) (μ μ' : mT) (S : Nat → Nat → Prop) : Prop := (∀ κ k, S κ k → μ' κ j k = μ κ j2 k) ∧ only μ μ' (Yd j)
theorem cp_m {j j2 : Nat} (hj : j2 ≠ j) {μ μa : mT} {S : Nat → Nat → Prop} (h : cp j j2 μ μa S) (κ k : Nat) (hκ : κ < 18) : cp j j2 μ (upM μa κ j k (μa κ j2 k)) (fun κ' k' => S κ' k' ∨ (κ' = κ ∧ k' = k)) := by
  refine ⟨fun κ' k' hs => ?_, h.2.tr ((q_uple rfl).w (by unfold Yd; omega))⟩
  rw [q_up]
  by_cases e : κ' = κ ∧ k' = k
  · obtain ⟨rfl, rfl⟩ := e
    rw [if_pos ⟨rfl, rfl, rfl⟩, h.2 κ' j2 (fun z => hj z.2)]
  · rw [if_neg (fun z => e ⟨z.1, z.2.2⟩)]
    exact h.1 κ' k' (hs.resolve_right e)
theorem cp_r {j j2 : Nat} (hj : j2 ≠ j) {μ μa : mT} {S : Nat → Nat → Prop} (h : cp j j2 μ μa S) (κ n : Nat) (hκ : κ < 18) : cp j j2 μ (upR μa κ j (va_cpy (μa κ j2) (μa κ j) 0 0 n)) (fun κ' k' => S κ' k' ∨ (κ' = κ ∧ k' < n)) := by
  refine ⟨fun κ' k' hs => ?_, h.2.tr (fun κ' j' z => q_upr (fun q => z ⟨by omega, q.2⟩))⟩
  by_cases e : κ' = κ
  · subst e
    rw [q_ups]
    unfold va_cpy
    by_cases e' : k' < n
    · rw [if_pos (by omega), h.2 κ' j2 (fun z => hj z.2)]
      congr 1
      omega
    · rw [if_neg (by omega)]
      exact h.1 κ' k' (hs.resolve_right (fun z => e' z.2))
  · rw [q_upr (fun z => e z.1)]
    exact h.1 κ' k' (hs.resolve_right (fun z => e z.1))
theorem cp_lm {j j2 : Nat} (hj : j2 ≠ j) {μ μa : mT} {S : Nat → Nat → Prop} {F : mT → Option (Int32 × mT)} {Q : mT → Prop} (κ k : Nat) (hκ : κ < 18) (h : cp j j2 μ μa S) (k' : ∀ μb, cp j j2 μ μb (fun κ' k' => S κ' k' ∨ (κ' = κ ∧ k' = k)) → ∃ μ', F μb = some (0, μ') ∧ Q μ') : ∃ μ', lt (upM μa κ j k (μa κ j2 k)) F = some (0, μ') ∧ Q μ' := k' _ (cp_m hj h κ k hκ)
theorem cp_lr {j j2 : Nat} (hj : j2 ≠ j) {μ μa : mT} {S : Nat → Nat → Prop} {F : mT → Option (Int32 × mT)} {Q : mT → Prop} (κ n : Nat) (hκ : κ < 18) (h : cp j j2 μ μa S) (k' : ∀ μb, cp j j2 μ μb (fun κ' k' => S κ' k' ∨ (κ' = κ ∧ k' < n)) → ∃ μ', F μb = some (0, μ') ∧ Q μ') : ∃ μ', lt (upR μa κ j (va_cpy (μa κ j2) (μa κ j) 0 0 n)) F = some (0, μ') ∧ Q μ' := k' _ (cp_r hj h κ n hκ)
theorem cp_w {j j2 : Nat} {μ μ' : mT} {S S' : Nat → Nat → Prop} (h : cp j j2 μ μ' S) (hS : ∀ κ k, S' κ k → S κ k) : cp j j2 μ μ' S' := ⟨fun κ k hk => h.1 κ k (hS κ k hk), h.2⟩
theorem cp_5 {j j2 : Nat} (hj : j2 ≠ j) {μ μa : mT} {S : Nat → Nat → Prop} (h : cp j j2 μ μa S) : ∃ μ', f_X5_copyFrom j j2 μa = some (0, μ') ∧ cp j j2 μ μ' (fun κ k => S κ k ∨ (kdom κ k ∧ (κ = 1 ∨ (8 ≤ κ ∧ κ ≤ 12)))) := by
  unfold f_X5_copyFrom
  refine cp_lm hj 1 0 (by omega) h (fun μ1 h => ?_)
  refine cp_lm hj 1 1 (by omega) h (fun μ1 h => ?_)
  refine cp_lr hj 8 30 (by omega) h (fun μ1 h => ?_)
  refine cp_lr hj 9 30 (by omega) h (fun μ1 h => ?_)
  refine cp_lr hj 10 30 (by omega) h (fun μ1 h => ?_)
  refine cp_lr hj 11 9 (by omega) h (fun μ1 h => ?_)
  refine cp_lr hj 12 270 (by omega) h (fun μ1 h => ?_)
  refine ⟨_, rfl, cp_w h (fun κ k q => ?_)⟩
  rcases q with q | q
  · simp [q]
  · unfold kdom at q
    generalize S κ k = P
    omega
theorem cp_0 {j j2 : Nat} (hj : j2 ≠ j) {μ μa : mT} {S : Nat → Nat → Prop} (h : cp j j2 μ μa S) : ∃ μ', f_X0_copyFrom j j2 μa = some (0, μ') ∧ cp j j2 μ μ' (fun κ k => S κ k ∨ (kdom κ k ∧ (κ = 2 ∨ κ = 13 ∨ κ = 14))) := by
  unfold f_X0_copyFrom
  refine cp_lm hj 2 0 (by omega) h (fun μ1 h => ?_)
  refine cp_lr hj 13 10 (by omega) h (fun μ1 h => ?_)
  refine cp_lr hj 14 10 (by omega) h (fun μ1 h => ?_)
  refine ⟨_, rfl, cp_w h (fun κ k q => ?_)⟩
  rcases q with q | q
  · simp [q]
  · unfold kdom at q
    generalize S κ k = P
    omega
theorem cp_3 {j j2 : Nat} (hj : j2 ≠ j) {μ μa : mT} {S : Nat → Nat → Prop} (h : cp j j2 μ μa S) : ∃ μ', f_X3_copyFrom j j2 μa = some (0, μ') ∧ cp j j2 μ μ' (fun κ k => S κ k ∨ (kdom κ k ∧ (κ = 3 ∨ (15 ≤ κ ∧ κ ≤ 17)))) := by
  unfold f_X3_copyFrom
  refine cp_lm hj 3 0 (by omega) h (fun μ1 h => ?_)
  refine cp_lr hj 15 8 (by omega) h (fun μ1 h => ?_)
  refine cp_lr hj 16 8 (by omega) h (fun μ1 h => ?_)
  refine cp_lr hj 17 64 (by omega) h (fun μ1 h => ?_)
  refine ⟨_, rfl, cp_w h (fun κ k q => ?_)⟩
  rcases q with q | q
  · simp [q]
  · unfold kdom at q
    generalize S κ k = P
    omega
theorem k_copyFrom {j j2 : Nat} (hj : j2 ≠ j) (μ : mT) : ∃ μ', f_X6_copyFrom j j2 μ = some (0, μ') ∧ cp j j2 μ μ' kdom := by
  have h0 : cp j j2 μ μ (fun _ _ => False) := ⟨fun _ _ h => h.elim, only.rf⟩
  unfold f_X6_copyFrom
  refine cp_lm hj 0 0 (by omega) h0 (fun μ1 h => ?_)
  refine cp_lm hj 0 1 (by omega) h (fun μ1 h => ?_)
  refine cp_lm hj 0 2 (by omega) h (fun μ1 h => ?_)
  refine cp_lm hj 0 3 (by omega) h (fun μ1 h => ?_)
  refine cp_lm hj 0 4 (by omega) h (fun μ1 h => ?_)
  refine cp_lm hj 0 5 (by omega) h (fun μ1 h => ?_)
  refine cp_lr hj 4 6 (by omega) h (fun μ1 h => ?_)
  refine cp_lm hj 0 7 (by omega) h (fun μ1 h => ?_)
  refine cp_lr hj 5 8 (by omega) h (fun μ1 h => ?_)
  refine cp_lr hj 6 8 (by omega) h (fun μ1 h => ?_)
  refine cp_lr hj 7 8 (by omega) h (fun μ1 h => ?_)
  have h : cp j j2 μ μ1 (fun κ k => kdom κ k ∧ (κ = 0 ∨ (4 ≤ κ ∧ κ ≤ 7))) := cp_w h (fun κ k q => by unfold kdom at q; omega)
  obtain ⟨μ2, e2, h⟩ := cp_5 hj h
  rw [e2, q_bd]
  obtain ⟨μ3, e3, h⟩ := cp_0 hj h
  rw [e3, q_bd]
  obtain ⟨μ4, e4, h⟩ := cp_3 hj h
  rw [e4, q_bd]
  exact ⟨_, rfl, cp_w h (fun κ k q => by
    have : κ < 18 := by unfold kdom at q; omega
    by_cases z : κ = 0 ∨ (4 ≤ κ ∧ κ ≤ 7)
    · exact Or.inl (Or.inl (Or.inl ⟨q, z⟩))
    by_cases z1 : κ = 1 ∨ (8 ≤ κ ∧ κ ≤ 12)
    · exact Or.inl (Or.inl (Or.inr ⟨q, z1⟩))
    by_cases z2 : κ = 2 ∨ κ = 13 ∨ κ = 14
    · exact Or.inl (Or.inr ⟨q, z2⟩)
    exact Or.inr ⟨q, by omega⟩)⟩
theorem cY.copy {j j2 : Nat} {μ μ' : mT} {y : yT} (h : cp j j2 μ μ' kdom) (hy : cY μ j2 y) (hg : gY y) : cY μ' j y := by
  obtain ⟨ho, hD, hT, hl, hk⟩ := hg
  refine ⟨fun a k hd hk => ?_, fun r hr => ⟨?_, fun i w hi => ?_⟩, ⟨?_, fun i b hi => ?_⟩, ⟨?_, fun t e ht => ⟨?_, ?_, fun k w hk' => ?_⟩⟩⟩
  · rw [h.1 _ _ (by unfold kdom; unfold cκ ck; unfold sdom at hd; grind (splits := 60))]
    exact hy.1 a k hd hk
  · rw [h.1 11 r (by unfold kdom; omega)]
    exact (hy.2.1 r hr).1
  · have hil := (List.getElem?_eq_some_iff.mp hi).1
    have := rwl ho hr
    rw [h.1 12 _ (by unfold kdom; omega)]
    exact (hy.2.1 r hr).2 i w hi
  · rw [h.1 2 0 (by unfold kdom; omega)]
    exact hy.2.2.1.1
  · have hil := (List.getElem?_eq_some_iff.mp hi).1
    rw [h.1 13 i (by unfold kdom; omega), h.1 14 i (by unfold kdom; omega)]
    exact hy.2.2.1.2 i b hi
  · rw [h.1 3 0 (by unfold kdom; omega)]
    exact hy.2.2.2.1
  all_goals
    have htl := (List.getElem?_eq_some_iff.mp ht).1
    have h8 := hk.1
    obtain ⟨a1, a2, a3⟩ := hy.2.2.2.2 t e ht
    obtain ⟨o1, o2, o3, o4⟩ := hk.2 t e ht
  · rw [h.1 15 t (by unfold kdom; omega)]
    exact a1
  · rw [h.1 16 t (by unfold kdom; omega)]
    exact a2
  · have hkl := (List.getElem?_eq_some_iff.mp hk').1
    rw [h.1 17 _ (by unfold kdom; omega)]
    exact a3 k w hk'
theorem k_copy {j j2 : Nat} (hj : j2 ≠ j) {μ : mT} {y : yT} (hy : cY μ j2 y) (hg : gY y) : ∃ μ', f_X6_copyFrom j j2 μ = some (0, μ') ∧ cY μ' j y ∧ only μ μ' (Yd j) := by
  obtain ⟨μ', g1, g2⟩ := k_copyFrom hj μ
  exact ⟨μ', g1, hy.copy g2 hg, g2.2⟩
theorem cY.cong {μ μ' : mT} {j : Nat} {y : yT} (h : cY μ j y) (e : ∀ κ, κ < 18 → μ' κ j = μ κ j) : cY μ' j y :=
  ⟨h.1.cong (fun κ h1 _ _ => e κ (by omega)), h.2.1.cong (e _ (by omega)) (e _ (by omega)), h.2.2.1.cong (e _ (by omega)) (e _ (by omega)) (e _ (by omega)), h.2.2.2.cong (e _ (by omega)) (e _ (by omega)) (e _ (by omega)) (e _ (by omega))⟩
theorem cY.only {μ μ' : mT} {j j' : Nat} {y : yT} (h : cY μ j y) (e : only μ μ' (Yd j')) (hj : j ≠ j') : cY μ' j y := h.cong (fun κ hκ => e κ j (fun z => hj z.2))
theorem td_dis {l : List Nat} (h : l.Nodup) {n w : Nat} (h1 : w ∈ l.take n) (h2 : w ∈ l.drop n) : False := by
  rw [← List.take_append_drop n l, List.nodup_append] at h
  exact h.2.2 w h1 w h2 rfl
theorem rwD_mem {rw : Nat → List Nat} {t n r w : Nat} (ht : t < 8) : w ∈ rwD rw t n r → (r = t ∧ w ∈ (rw t).drop n) ∨ (r = 8 ∧ (w ∈ rw 8 ∨ w ∈ (rw t).take n)) ∨ (r ≠ t ∧ r ≠ 8 ∧ w ∈ rw r) := by
  unfold rwD
  intro h
  by_cases e : r = t
  · rw [if_pos e] at h
    exact Or.inl ⟨e, h⟩
  · rw [if_neg e] at h
    by_cases e8 : r = 8
    · rw [if_pos e8] at h
      exact Or.inr (Or.inl ⟨e8, List.mem_append.mp h⟩)
    · rw [if_neg e8] at h
      exact Or.inr (Or.inr ⟨e, e8, h⟩)
theorem rwB_mem {rw : Nat → List Nat} {t n r w : Nat} (ht : t < 8) : w ∈ rwB rw t n r → (r = t ∧ (w ∈ rw t ∨ w ∈ (rw 8).drop ((rw 8).length - n))) ∨ (r = 8 ∧ w ∈ (rw 8).take ((rw 8).length - n)) ∨ (r ≠ t ∧ r ≠ 8 ∧ w ∈ rw r) := by
  unfold rwB
  intro h
  by_cases e : r = t
  · rw [if_pos e] at h
    exact Or.inl ⟨e, (List.mem_append.mp h).symm⟩
  · rw [if_neg e] at h
    by_cases e8 : r = 8
    · rw [if_pos e8] at h
      exact Or.inr (Or.inl ⟨e8, h⟩)
    · rw [if_neg e8] at h
      exact Or.inr (Or.inr ⟨e, e8, h⟩)
theorem rwD_dis {rw : Nat → List Nat} {t n : Nat} (ho : rOK rw) (hD : rDis rw) (ht : t < 8) : rDis (rwD rw t n) := by
  intro r r' w hr hr' h h'
  have a := rwD_mem ht h
  have b := rwD_mem ht h'
  have hn := (ho t (by omega)).2.2
  rcases a with ⟨a1, a2⟩ | ⟨a1, a2 | a2⟩ | ⟨a1, a2, a3⟩ <;> rcases b with ⟨b1, b2⟩ | ⟨b1, b2 | b2⟩ | ⟨b1, b2, b3⟩
  · omega
  · have := hD t 8 w (by omega) (by omega) (List.mem_of_mem_drop a2) b2; omega
  · exact (td_dis hn b2 a2).elim
  · have := hD t r' w (by omega) (by omega) (List.mem_of_mem_drop a2) b3; omega
  · have := hD 8 t w (by omega) (by omega) a2 (List.mem_of_mem_drop b2); omega
  · omega
  · omega
  · have := hD 8 r' w (by omega) (by omega) a2 b3; omega
  · exact (td_dis hn a2 b2).elim
  · omega
  · omega
  · have := hD t r' w (by omega) (by omega) (List.mem_of_mem_take a2) b3; omega
  · have := hD r t w (by omega) (by omega) a3 (List.mem_of_mem_drop b2); omega
  · have := hD r 8 w (by omega) (by omega) a3 b2; omega
  · have := hD r t w (by omega) (by omega) a3 (List.mem_of_mem_take b2); omega
  · exact hD r r' w hr hr' a3 b3
theorem rwB_dis {rw : Nat → List Nat} {t n : Nat} (ho : rOK rw) (hD : rDis rw) (ht : t < 8) : rDis (rwB rw t n) := by
  intro r r' w hr hr' h h'
  have a := rwB_mem ht h
  have b := rwB_mem ht h'
  have hn := (ho 8 (by omega)).2.2
  rcases a with ⟨a1, a2 | a2⟩ | ⟨a1, a2⟩ | ⟨a1, a2, a3⟩ <;> rcases b with ⟨b1, b2 | b2⟩ | ⟨b1, b2⟩ | ⟨b1, b2, b3⟩
  · omega
  · omega
  · have := hD t 8 w (by omega) (by omega) a2 (List.mem_of_mem_take b2); omega
  · have := hD t r' w (by omega) (by omega) a2 b3; omega
  · omega
  · omega
  · exact (td_dis hn b2 a2).elim
  · have := hD 8 r' w (by omega) (by omega) (List.mem_of_mem_drop a2) b3; omega
  · have := hD 8 t w (by omega) (by omega) (List.mem_of_mem_take a2) b2; omega
  · exact (td_dis hn a2 b2).elim
  · omega
  · have := hD 8 r' w (by omega) (by omega) (List.mem_of_mem_take a2) b3; omega
  · have := hD r t w (by omega) (by omega) a3 b2; omega
  · have := hD r 8 w (by omega) (by omega) a3 (List.mem_of_mem_drop b2); omega
  · have := hD r 8 w (by omega) (by omega) a3 (List.mem_of_mem_take b2); omega
  · exact hD r r' w hr hr' a3 b3
theorem rwD_tot {rw : Nat → List Nat} {t n : Nat} (ht : t < 8) (hn : n ≤ (rw t).length) : tot (rwD rw t n) = tot rw := by
  unfold tot
  rw [rwD_8 ht]
  have hne : ∀ r, r < 8 → r ≠ t → rwD rw t n r = rw r := fun r hr hr' => by
    unfold rwD
    rw [if_neg hr', if_neg (by omega)]
  rcases (show t = 0 ∨ t = 1 ∨ t = 2 ∨ t = 3 ∨ t = 4 ∨ t = 5 ∨ t = 6 ∨ t = 7 by omega) with rfl | rfl | rfl | rfl | rfl | rfl | rfl | rfl <;>
    (rw [rwD_t]
     simp (disch := omega) only [hne, List.length_append, List.length_take, List.length_drop]
     omega)
theorem rwB_t {rw : Nat → List Nat} {t n : Nat} : rwB rw t n t = (rw 8).drop ((rw 8).length - n) ++ rw t := if_pos rfl
theorem rwB_tot {rw : Nat → List Nat} {t n : Nat} (ht : t < 8) (hn : n ≤ (rw 8).length) : tot (rwB rw t n) = tot rw := by
  unfold tot
  rw [rwB_8 ht]
  have hne : ∀ r, r < 8 → r ≠ t → rwB rw t n r = rw r := fun r hr hr' => by
    unfold rwB
    rw [if_neg hr', if_neg (by omega)]
  rcases (show t = 0 ∨ t = 1 ∨ t = 2 ∨ t = 3 ∨ t = 4 ∨ t = 5 ∨ t = 6 ∨ t = 7 by omega) with rfl | rfl | rfl | rfl | rfl | rfl | rfl | rfl <;>
    (rw [rwB_t]
     simp (disch := omega) only [hne, List.length_append, List.length_take, List.length_drop]
     omega)
theorem rwD_ok {rw : Nat → List Nat} {t n : Nat} (ho : rOK rw) (hD : rDis rw) (hT : tot rw ≤ 30) (ht : t < 8) (hn : n ≤ (rw t).length) : rOK (rwD rw t n) := by
  intro r hr
  have hT' : tot (rwD rw t n) ≤ 30 := by rw [rwD_tot ht hn]; exact hT
  refine ⟨Nat.le_trans (tot_one hr) hT', fun w hw => ?_, ?_⟩
  · rcases rwD_mem ht hw with ⟨a1, a2⟩ | ⟨a1, a2 | a2⟩ | ⟨a1, a2, a3⟩
    · exact (ho t (by omega)).2.1 w (List.mem_of_mem_drop a2)
    · exact (ho 8 (by omega)).2.1 w a2
    · exact (ho t (by omega)).2.1 w (List.mem_of_mem_take a2)
    · exact (ho r hr).2.1 w a3
  · unfold rwD
    by_cases e : r = t
    · rw [if_pos e]
      exact List.Nodup.sublist (List.drop_sublist _ _) (ho t (by omega)).2.2
    · rw [if_neg e]
      by_cases e8 : r = 8
      · rw [if_pos e8]
        exact nd_take ho hD ht
      · rw [if_neg e8]
        exact (ho r hr).2.2
theorem rwB_ok {rw : Nat → List Nat} {t n : Nat} (ho : rOK rw) (hD : rDis rw) (hT : tot rw ≤ 30) (ht : t < 8) (hn : n ≤ (rw 8).length) : rOK (rwB rw t n) := by
  intro r hr
  have hT' : tot (rwB rw t n) ≤ 30 := by rw [rwB_tot ht hn]; exact hT
  refine ⟨Nat.le_trans (tot_one hr) hT', fun w hw => ?_, ?_⟩
  · rcases rwB_mem ht hw with ⟨a1, a2 | a2⟩ | ⟨a1, a2⟩ | ⟨a1, a2, a3⟩
    · exact (ho t (by omega)).2.1 w a2
    · exact (ho 8 (by omega)).2.1 w (List.mem_of_mem_drop a2)
    · exact (ho 8 (by omega)).2.1 w (List.mem_of_mem_take a2)
    · exact (ho r hr).2.1 w a3
  · unfold rwB
    by_cases e : r = t
    · rw [if_pos e, List.nodup_append]
      refine ⟨List.Nodup.sublist (List.drop_sublist _ _) (ho 8 (by omega)).2.2, (ho t (by omega)).2.2, fun a ha b hb q => ?_⟩
      subst q
      have := hD 8 t a (by omega) (by omega) (List.mem_of_mem_drop ha) hb
      omega
    · rw [if_neg e]
      by_cases e8 : r = 8
      · rw [if_pos e8]
        exact List.Nodup.sublist (List.take_sublist _ _) (ho 8 (by omega)).2.2
      · rw [if_neg e8]
        exact (ho r hr).2.2
theorem rwR_mem {rw : Nat → List Nat} {r w : Nat} : w ∈ rwR rw r ↔ w ∈ rw r := by
  unfold rwR
  by_cases e : r = 8
  · subst e; simp
  · rw [if_neg e]
theorem rwR_len {rw : Nat → List Nat} {r : Nat} : (rwR rw r).length = (rw r).length := by
  unfold rwR
  by_cases e : r = 8
  · subst e; simp
  · rw [if_neg e]
theorem rwR_dis {rw : Nat → List Nat} (hD : rDis rw) : rDis (rwR rw) := fun r r' w hr hr' h h' => hD r r' w hr hr' (rwR_mem.mp h) (rwR_mem.mp h')
theorem rwR_tot {rw : Nat → List Nat} : tot (rwR rw) = tot rw := by
  unfold tot
  simp only [rwR_len]
theorem rwR_ok {rw : Nat → List Nat} (ho : rOK rw) : rOK (rwR rw) := by
  intro r hr
  refine ⟨by rw [rwR_len]; exact (ho r hr).1, fun w hw => (ho r hr).2.1 w (rwR_mem.mp hw), ?_⟩
  unfold rwR
  by_cases e : r = 8
  · subst e
    rw [if_pos rfl]
    exact cw_nd (r := 0) (ho 8 hr).2.2
  · rw [if_neg e]
    exact (ho r hr).2.2
def gN (y : yT) (nt : Nat) : Prop := gY y ∧ nt ≤ 8 ∧ y.1 0 7 = nI nt ∧ ∀ t, nt ≤ t → t < 8 → y.2.1 t = []
theorem iY.gn {y : yT} {nt nw tm B : Nat} (h : iY y nt nw tm B) : gN y nt := ⟨h.g, h.nt8, h.hnt, h.2.2.2.2.2.1⟩
theorem gN_of {y : yT} {nt : Nat} (h : gN y nt) {s : sT} {rw : Nat → List Nat} {bl : List (Int32 × Int32)} (h7 : s 0 7 = y.1 0 7) (ho : rOK rw) (hD : rDis rw) (hT : tot rw = tot y.2.1) (he : ∀ t, nt ≤ t → t < 8 → rw t = []) (hb : bl.length ≤ 10) : gN (s, rw, bl, y.2.2.2) nt :=
  ⟨⟨ho, hD, by rw [show tot (s, rw, bl, y.2.2.2).2.1 = tot rw from rfl, hT]; exact h.1.2.2.1, hb, h.1.2.2.2.2⟩, h.2.1, by rw [← h.2.2.1]; exact h7, he⟩
theorem gN_D {y : yT} {nt t n : Nat} {s : sT} {bl : List (Int32 × Int32)} (h : gN y nt) (h7 : s 0 7 = y.1 0 7) (ht : t < nt) (hn : n ≤ (y.2.1 t).length) (hb : bl.length ≤ 10) : gN (s, rwD y.2.1 t n, bl, y.2.2.2) nt := by
  have h8 := h.2.1
  refine gN_of h h7 (rwD_ok h.1.1 h.1.2.1 h.1.2.2.1 (by omega) hn) (rwD_dis h.1.1 h.1.2.1 (by omega)) (rwD_tot (by omega) hn) (fun t' h1 h2 => ?_) hb
  unfold rwD
  rw [if_neg (by omega), if_neg (by omega)]
  exact h.2.2.2 t' h1 h2
theorem gN_B {y : yT} {nt t n : Nat} {s : sT} {bl : List (Int32 × Int32)} (h : gN y nt) (h7 : s 0 7 = y.1 0 7) (ht : t < nt) (hn : n ≤ (y.2.1 8).length) (hb : bl.length ≤ 10) : gN (s, rwB y.2.1 t n, bl, y.2.2.2) nt := by
  have h8 := h.2.1
  refine gN_of h h7 (rwB_ok h.1.1 h.1.2.1 h.1.2.2.1 (by omega) hn) (rwB_dis h.1.1 h.1.2.1 (by omega)) (rwB_tot (by omega) hn) (fun t' h1 h2 => ?_) hb
  unfold rwB
  rw [if_neg (by omega), if_neg (by omega)]
  exact h.2.2.2 t' h1 h2
theorem gN_R {y : yT} {nt : Nat} {s : sT} {bl : List (Int32 × Int32)} (h : gN y nt) (h7 : s 0 7 = y.1 0 7) (hb : bl.length ≤ 10) : gN (s, rwR y.2.1, bl, y.2.2.2) nt := by
  refine gN_of h h7 (rwR_ok h.1.1) (rwR_dis h.1.2.1) rwR_tot (fun t' h1 h2 => ?_) hb
  unfold rwR
  rw [if_neg (by omega)]
  exact h.2.2.2 t' h1 h2
theorem rwD_B {rw : Nat → List Nat} {t n : Nat} (ht : t < 8) (hn : n ≤ (rw t).length) : rwB (rwD rw t n) t n = rw := by
  funext r
  have e8 : rwD rw t n 8 = rw 8 ++ (rw t).take n := rwD_8 ht
  unfold rwB
  rw [e8]
  have hl : (rw 8 ++ (rw t).take n).length - n = (rw 8).length := by
    rw [List.length_append, List.length_take]
    omega
  rw [hl]
  by_cases e : r = t
  · subst e
    rw [if_pos rfl, rwD_t, List.drop_append_of_le_length (Nat.le_refl _), List.drop_length, List.nil_append, List.take_append_drop]
  · rw [if_neg e]
    by_cases e8 : r = 8
    · subst e8
      rw [if_pos rfl, List.take_append_of_le_length (Nat.le_refl _), List.take_length]
    · rw [if_neg e8]
      unfold rwD
      rw [if_neg e, if_neg e8]
theorem rwB_D {rw : Nat → List Nat} {t n : Nat} (ht : t < 8) (hn : n ≤ (rw 8).length) : rwD (rwB rw t n) t n = rw := by
  funext r
  have e8 : rwB rw t n 8 = (rw 8).take ((rw 8).length - n) := rwB_8 ht
  unfold rwD
  rw [e8, rwB_t]
  have hl : ((rw 8).drop ((rw 8).length - n)).length = n := by
    rw [List.length_drop]
    omega
  by_cases e : r = t
  · subst e
    rw [if_pos rfl, List.drop_append_of_le_length (by omega), List.drop_eq_nil_of_le (by omega), List.nil_append]
  · rw [if_neg e]
    by_cases e8 : r = 8
    · subst e8
      have e2 : List.take n (List.drop ((rw 8).length - n) (rw 8) ++ rw t) = List.drop ((rw 8).length - n) (rw 8) := by
        rw [List.take_append_of_le_length (by omega), List.take_of_length_le (by omega)]
      rw [if_pos rfl, e2, List.take_append_drop]
    · rw [if_neg e8]
      unfold rwB
      rw [if_neg e, if_neg e8]
theorem rwR_R {rw : Nat → List Nat} : rwR (rwR rw) = rw := by
  funext r
  unfold rwR
  by_cases e : r = 8
  · subst e; simp
  · rw [if_neg e, if_neg e]
theorem k_isT {t : Nat} {e : Int32 × List Nat} {y : yT} {μ : mT} (h : cY μ 1 y) (hg : gY y) (ht : y.2.2.2[t]? = some e) (hl : (y.2.1 8).length = e.2.length) : ∀ (d f i : Nat), i + d = e.2.length → d < f →
    (f_X4_isTurned_L14 (nI t) (nI e.2.length) f (nI i) μ = some (1, μ) ∧ (y.2.1 8).reverse.drop i = e.2.drop i) ∨ (f_X4_isTurned_L14 (nI t) (nI e.2.length) f (nI i) μ = some (0, μ) ∧ (y.2.1 8).reverse ≠ e.2) := by
  obtain ⟨ho, hD, hT, hl10, hk⟩ := hg
  have h30 := ho 8 (by omega)
  obtain ⟨o1, o2, o3, o4⟩ := hk.2 t e ht
  intro d
  induction d with
  | zero =>
    intro f i hi hf
    obtain ⟨f, rfl⟩ : ∃ n', f = n' + 1 := ⟨f - 1, by omega⟩
    left
    rw [f_X4_isTurned_L14, if_pos (nI_le (by omega) (by omega)), List.drop_eq_nil_of_le (by rw [List.length_reverse]; omega), List.drop_eq_nil_of_le (by omega)]
    exact ⟨rfl, rfl⟩
  | succ d ih =>
    intro f i hi hf
    obtain ⟨f, rfl⟩ : ∃ n', f = n' + 1 := ⟨f - 1, by omega⟩
    obtain ⟨w, hw⟩ : ∃ w, e.2[i]? = some w := ⟨_, List.getElem?_eq_getElem (by omega)⟩
    obtain ⟨v, hv⟩ : ∃ v, (y.2.1 8)[e.2.length - 1 - i]? = some v := ⟨_, List.getElem?_eq_getElem (by omega)⟩
    have hv30 := h30.2.1 v (List.mem_of_getElem? hv)
    have hw30 := o4 w (List.mem_of_getElem? hw)
    have hv' : (y.2.1 8).reverse[i]? = some v := by
      rw [List.getElem?_reverse (by omega), hl]
      exact hv
    rw [f_X4_isTurned_L14, if_neg (nI_ge (by omega) (by omega)), z_l1, q_sub (by omega), q_sub (by omega), z_l8, k_wagonAt (by omega) (h.2.1 8 (by omega)) h30.1 (by omega), q_bd, k_wagonOf h.2.2.2 hk.1 ht o2 (by omega), q_bd, atN_at hv, atN_at hw]
    by_cases q : v = w
    · subst q
      rw [if_pos rfl, q_lt, q_add]
      rcases ih f (i + 1) (by omega) (by omega) with ⟨a, b⟩ | ⟨a, b⟩
      · left
        refine ⟨a, ?_⟩
        rw [drop_cons_of hv', drop_cons_of hw, b]
      · right
        exact ⟨a, b⟩
    · right
      rw [if_neg (by rw [nI_eq (by omega) (by omega)]; exact q)]
      refine ⟨rfl, fun z => q ?_⟩
      rw [z, hw] at hv'
      exact (Option.some.inj hv').symm
theorem k_isTurned {t : Nat} {e : Int32 × List Nat} {y : yT} {μ : mT} (h : cY μ 1 y) (hg : gY y) (ht : y.2.2.2[t]? = some e) (hl : (y.2.1 8).length = e.2.length) : f_X4_isTurned (nI t) μ = some (if (y.2.1 8).reverse = e.2 then 1 else 0, μ) := by
  unfold f_X4_isTurned
  obtain ⟨o1, o2, o3, o4⟩ := hg.2.2.2.2.2 t e ht
  rw [k_sizeOf h.2.2.2 hg.2.2.2.2.1 ht, q_bd, z_l0]
  rcases k_isT h hg ht hl e.2.length fu 0 (Nat.zero_add _) (by unfold fu; omega) with ⟨a, b⟩ | ⟨a, b⟩
  · rw [a, if_pos (by simpa using b)]
  · rw [a, if_neg b]
    rfl
theorem k_mn {t got r : Nat} {e : Int32 × List Nat} {y : yT} {μ : mT} (h : cY μ 1 y) (hg : gY y) (ht : y.2.2.2[t]? = some e) (hr : r < 9) (hgot : got ≤ e.2.length) : ∀ (d f i : Nat), i + d = min (e.2.length - got) (y.2.1 r).length → d < f →
    f_X4_manyNext_L32 (nI t) (nI got) (nI r) (nI (min (e.2.length - got) (y.2.1 r).length)) f (nI i) μ = some (nI (i + lcp ((y.2.1 r).drop i) (e.2.drop (got + i))), μ) := by
  obtain ⟨ho, hD, hT, hl10, hk⟩ := hg
  have h30 := ho r hr
  obtain ⟨o1, o2, o3, o4⟩ := hk.2 t e ht
  intro d
  induction d with
  | zero =>
    intro f i hi hf
    obtain ⟨f, rfl⟩ : ∃ n', f = n' + 1 := ⟨f - 1, by omega⟩
    rw [f_X4_manyNext_L32, if_pos (nI_le (by omega) (by omega))]
    have : lcp ((y.2.1 r).drop i) (e.2.drop (got + i)) = 0 := by
      have := lcp_le (a := (y.2.1 r).drop i) (b := e.2.drop (got + i))
      simp only [List.length_drop] at this
      omega
    rw [this]
    congr 3
    omega
  | succ d ih =>
    intro f i hi hf
    obtain ⟨f, rfl⟩ : ∃ n', f = n' + 1 := ⟨f - 1, by omega⟩
    obtain ⟨v, hv⟩ : ∃ v, (y.2.1 r)[i]? = some v := ⟨_, List.getElem?_eq_getElem (by omega)⟩
    obtain ⟨w, hw⟩ : ∃ w, e.2[got + i]? = some w := ⟨_, List.getElem?_eq_getElem (by omega)⟩
    have hv30 := h30.2.1 v (List.mem_of_getElem? hv)
    have hw30 := o4 w (List.mem_of_getElem? hw)
    rw [f_X4_manyNext_L32, if_neg (nI_ge (by omega) (by omega)), k_wagonAt hr (h.2.1 r hr) h30.1 (by omega), q_bd, q_add, k_wagonOf h.2.2.2 hk.1 ht o2 (by omega), q_bd, atN_at hv, atN_at hw, drop_cons_of hv, drop_cons_of hw]
    unfold lcp
    by_cases q : v = w
    · rw [if_pos (by rw [q]), if_pos q, q_lt, z_l1, q_add, ih f (i + 1) (by omega) (by omega)]
      rw [show got + (i + 1) = got + i + 1 by omega]
      congr 3
      omega
    · rw [if_neg (by rw [nI_eq (by omega) (by omega)]; exact q), if_neg q]
      rfl
theorem k_manyNext {t got r : Nat} {e : Int32 × List Nat} {y : yT} {μ : mT} (h : cY μ 1 y) (hg : gY y) (ht : y.2.2.2[t]? = some e) (hr : r < 9) (hgot : got ≤ e.2.length) : f_X4_manyNext (nI t) (nI got) (nI r) μ = some (nI (lcp (y.2.1 r) (e.2.drop got)), μ) := by
  unfold f_X4_manyNext
  have h30 := hg.1 r hr
  obtain ⟨o1, o2, o3, o4⟩ := hg.2.2.2.2.2 t e ht
  rw [k_manyIn hr, q_bd, k_sizeOf h.2.2.2 hg.2.2.2.2.1 ht, q_bd, cRow.nl h.2.1 hr, q_sub hgot, min_nI (by omega) (by omega), q_lt, z_l0, k_mn h hg ht hr hgot _ fu 0 (Nat.zero_add _) (by unfold fu; omega)]
  simp
/-- the row of the next wagon of a list, none at the engine -/
def nxt (y : yT) (l : List Nat) (got : Nat) : Int32 := match l[got]? with
  | none => -6
  | some w => if rOf y.2.1 w = 8 then -6 else rOf y.2.1 w
theorem k_trackOfNext {t got : Nat} {e : Int32 × List Nat} {y : yT} {μ : mT} (h : cY μ 1 y) (hg : gY y) (ht : y.2.2.2[t]? = some e) (hgot : got < 2147483648) : f_X4_trackOfNext (nI t) (nI got) μ = some (nxt y e.2 got, μ) := by
  unfold f_X4_trackOfNext nxt
  obtain ⟨o1, o2, o3, o4⟩ := hg.2.2.2.2.2 t e ht
  rw [k_wagonOf h.2.2.2 hg.2.2.2.2.1 ht o2 hgot, q_bd]
  cases hw : e.2[got]? with
  | none =>
    unfold atN
    rw [hw]
    dsimp only
    rw [k_rowOfN h.2.1 hg.1, q_bd, if_neg (by decide)]
  | some w =>
    have hw30 := o4 w (List.mem_of_getElem? hw)
    rw [atN_at hw, k_rowOf h.2.1 hg.1 (by omega), q_bd]
    dsimp only
    split <;> rfl
/-- one move more makes the wagons at the engine those of a list -/
def one (y : yT) (nt : Nat) (l : List Nat) : Prop :=
  (∃ t n, t < nt ∧ 1 ≤ n ∧ n ≤ 30 ∧ canP y t n = true ∧ y.2.1 8 ++ (y.2.1 t).take n = l) ∨ (∃ t n, t < nt ∧ 1 ≤ n ∧ n ≤ 30 ∧ canQ y t n = true ∧ (y.2.1 8).take ((y.2.1 8).length - n) = l) ∨ (canR y = true ∧ (y.2.1 8).reverse = l)
theorem canP_le {y : yT} {t n : Nat} (h : canP y t n = true) : n ≤ (y.2.1 t).length := by
  unfold canP at h
  rw [Bool.and_eq_true, decide_eq_true_eq] at h
  exact h.1
theorem canQ_le {y : yT} {t n : Nat} (h : canQ y t n = true) : n ≤ (y.2.1 8).length := by
  unfold canQ at h
  rw [Bool.and_eq_true, decide_eq_true_eq] at h
  exact h.1
theorem lcp_pre : ∀ {a b : List Nat}, lcp a (a ++ b) = a.length
  | [], b => by unfold lcp; simp
  | x :: a, b => by
    simp only [List.cons_append, lcp, if_pos, List.length_cons, lcp_pre (a := a)]
theorem lcp_pre' : ∀ {a b : List Nat}, lcp (a ++ b) a = a.length
  | [], b => by cases b <;> simp [lcp]
  | x :: a, b => by
    simp only [List.cons_append, lcp, if_pos, List.length_cons, lcp_pre' (a := a)]
theorem lcp_take : ∀ {a b : List Nat}, a.take (lcp a b) = b.take (lcp a b)
  | [], b => by simp [lcp]
  | x :: a, [] => by simp [lcp]
  | x :: a, z :: b => by
    unfold lcp
    by_cases h : x = z
    · rw [if_pos h, h]
      simp [lcp_take (a := a) (b := b)]
    · rw [if_neg h]
      simp
theorem bit_ne : ∀ t, t < 8 → ∀ v : Int32, ¬ (v ||| bit t) = 0 := by
  intro t ht v e
  have hb : bit t = 0 := by
    apply Int32.toBitVec_inj.mp
    have := congrArg Int32.toBitVec e
    rw [Int32.toBitVec_or] at this
    exact (BitVec.or_eq_zero_iff.mp this).2
  rcases (show t = 0 ∨ t = 1 ∨ t = 2 ∨ t = 3 ∨ t = 4 ∨ t = 5 ∨ t = 6 ∨ t = 7 by omega) with rfl | rfl | rfl | rfl | rfl | rfl | rfl | rfl <;> exact absurd hb (by decide)
theorem or_ne {v x : Int32} (h : ¬ v = 0) : ¬ (v ||| x) = 0 := by
  intro e
  apply h
  apply Int32.toBitVec_inj.mp
  have := congrArg Int32.toBitVec e
  rw [Int32.toBitVec_or] at this
  exact (BitVec.or_eq_zero_iff.mp this).1
theorem trF_ne {y : yT} {n : Nat} : ∀ (d t : Nat) (v : Int32), t + d ≤ 8 → ¬ v = 0 → ¬ trF y n d t v = 0
  | 0, t, v, _, h => h
  | d + 1, t, v, ht, h => by
    unfold trF
    refine trF_ne d (t + 1) _ (by omega) ?_
    split
    · exact h
    · split
      · exact or_ne h
      · exact h
theorem trF_iff {y : yT} {n : Nat} (hn : n ≠ 0) : ∀ (d t : Nat), t + d ≤ 8 → (¬ trF y n d t 0 = 0 ↔ ∃ t', t ≤ t' ∧ t' < t + d ∧ canQ y t' n = true)
  | 0, t, _ => by
    unfold trF
    exact ⟨fun h => absurd rfl h, fun ⟨t', h1, h2, _⟩ => by omega⟩
  | d + 1, t, ht => by
    unfold trF
    rw [if_neg hn]
    by_cases hc : canQ y t n = true
    · rw [if_pos hc]
      exact ⟨fun _ => ⟨t, Nat.le_refl _, by omega, hc⟩, fun _ => trF_ne d (t + 1) _ (by omega) (bit_ne t (by omega) 0)⟩
    · rw [if_neg hc, trF_iff hn d (t + 1) (by omega)]
      constructor
      · rintro ⟨t', h1, h2, h3⟩
        exact ⟨t', by omega, by omega, h3⟩
      · rintro ⟨t', h1, h2, h3⟩
        refine ⟨t', ?_, by omega, h3⟩
        rcases Nat.lt_or_ge t t' with q | q
        · exact q
        · rw [show t' = t by omega] at h3
          exact absurd h3 hc
theorem k_tracksFor' {j nt n : Nat} {y : yT} {μ : mT} (h : cY μ j y) (hg : gN y nt) (hn : n < 2147483648) : ∀ (d f t : Nat) (v : Int32), t + d = nt → d < f →
    f_X6_tracksFor_L4 j (nI n) f v (nI t) μ = some (trF y n d t v, μ) := by
  have hn8 := hg.2.1
  have e7 : μ 0 j 7 = nI nt := by rw [h.1.tracks, hg.2.2.1]
  intro d
  induction d with
  | zero =>
    intro f t v ht hf
    obtain ⟨f, rfl⟩ : ∃ n', f = n' + 1 := ⟨f - 1, by omega⟩
    rw [f_X6_tracksFor_L4, e7, if_pos (nI_le (by omega) (by omega))]
    rfl
  | succ d ih =>
    intro f t v ht hf
    obtain ⟨f, rfl⟩ : ∃ n', f = n' + 1 := ⟨f - 1, by omega⟩
    rw [f_X6_tracksFor_L4, e7, if_neg (nI_ge (by omega) (by omega)), q_lt, k_canBringIn h hg.1.1 (by omega) hn, q_bd]
    unfold trF
    rw [z_l1, q_add]
    by_cases e0 : n = 0
    · subst e0
      rw [if_pos (show nI 0 ≤ 0 from by decide), if_pos rfl]
      dsimp only
      rw [q_lt]
      exact ih f (t + 1) v (by omega) (by omega)
    · rw [if_neg (show ¬ nI n ≤ 0 from by rw [z_l0]; exact nI_ge (by omega) hn), if_neg e0]
      by_cases hc : canQ y t n = true
      · rw [if_pos hc, if_pos hc, if_neg (by decide), q_lt]
        dsimp only
        rw [q_lt]
        exact ih f (t + 1) _ (by omega) (by omega)
      · rw [if_neg hc, if_neg hc, if_pos rfl]
        dsimp only
        rw [q_lt]
        exact ih f (t + 1) v (by omega) (by omega)
theorem k_one {nt t : Nat} {e : Int32 × List Nat} {y : yT} {μ : mT} (h : cY μ 1 y) (hg : gN y nt) (ht : y.2.2.2[t]? = some e) : f_X4_couldAfterOne (nI t) μ = some (cIf (one y nt e.2) 1 0, μ) := by
  have hn8 := hg.2.1
  obtain ⟨ho, hD, hT, hl10, hk⟩ := hg.1
  have h30 := (ho 8 (by omega)).1
  obtain ⟨o1, o2, o3, o4⟩ := hk.2 t e ht
  unfold f_X4_couldAfterOne
  rw [z_l8, k_manyIn (by omega), q_bd, k_sizeOf h.2.2.2 hk.1 ht, q_bd, cRow.nl h.2.1 (by omega)]
  by_cases hl : (y.2.1 8).length = e.2.length
  · rw [if_pos (by rw [hl]), k_canGoRound h ho, q_bd]
    by_cases hc : canR y = true
    · rw [if_pos hc, if_neg (by decide), k_isTurned h hg.1 ht hl, q_bd]
      by_cases hr : (y.2.1 8).reverse = e.2
      · rw [if_pos hr, if_neg (by decide), cIf_t (show one y nt e.2 from Or.inr (Or.inr ⟨hc, hr⟩))]
      · rw [if_neg hr, if_pos rfl, cIf_f]
        rintro (⟨t', n, h1, h2, h3, h4, h5⟩ | ⟨t', n, h1, h2, h3, h4, h5⟩ | ⟨h1, h2⟩)
        · have := congrArg List.length h5
          have := canP_le h4
          simp only [List.length_append, List.length_take] at *
          omega
        · have := congrArg List.length h5
          have := canQ_le h4
          simp only [List.length_take] at *
          omega
        · exact hr h2
    · rw [if_neg hc, if_pos rfl, cIf_f]
      rintro (⟨t', n, h1, h2, h3, h4, h5⟩ | ⟨t', n, h1, h2, h3, h4, h5⟩ | ⟨h1, h2⟩)
      · have := congrArg List.length h5
        have := canP_le h4
        simp only [List.length_append, List.length_take] at *
        omega
      · have := congrArg List.length h5
        have := canQ_le h4
        simp only [List.length_take] at *
        omega
      · exact hc h1
  rw [if_neg (by rw [nI_eq (by omega) (by omega)]; exact hl), k_manyAlike h hg.1 ht, q_bd, min_nI (by omega) (by omega)]
  have hlc := lcp_le (a := y.2.1 8) (b := e.2)
  have hrev : ¬ (canR y = true ∧ (y.2.1 8).reverse = e.2) := fun z => hl (by rw [← z.2, List.length_reverse])
  by_cases hm : min e.2.length (y.2.1 8).length ≤ lcp (y.2.1 8) e.2
  case neg =>
    rw [if_neg (nI_ge (by omega) (by omega)), cIf_f]
    rintro (⟨t', n, h1, h2, h3, h4, h5⟩ | ⟨t', n, h1, h2, h3, h4, h5⟩ | z)
    · apply hm
      rw [← h5, lcp_pre]
      omega
    · apply hm
      rw [← h5]
      have := lcp_pre' (a := (y.2.1 8).take ((y.2.1 8).length - n)) (b := (y.2.1 8).drop ((y.2.1 8).length - n))
      rw [List.take_append_drop] at this
      rw [this]
      omega
    · exact hrev z
  rw [if_pos (nI_le hm (by omega))]
  by_cases hlt : (y.2.1 8).length ≤ e.2.length
  · rw [if_pos (nI_le hlt (by omega)), k_trackOfNext h hg.1 ht (by omega), q_bd, q_sub hlt, q_lt]
    obtain ⟨w, hw⟩ : ∃ w, e.2[(y.2.1 8).length]? = some w := ⟨_, List.getElem?_eq_getElem (by omega)⟩
    have hpre : e.2.take (y.2.1 8).length = y.2.1 8 := by
      have := lcp_take (a := y.2.1 8) (b := e.2)
      rw [show lcp (y.2.1 8) e.2 = (y.2.1 8).length by omega, List.take_length] at this
      exact this.symm
    -- a pull that does it takes what is wanting from the track of the next one
    have hpull : ∀ t' n, t' < nt → 1 ≤ n → canP y t' n = true → y.2.1 8 ++ (y.2.1 t').take n = e.2 → n = e.2.length - (y.2.1 8).length ∧ (y.2.1 t').take n = e.2.drop (y.2.1 8).length ∧ w ∈ y.2.1 t' := by
      intro t' n h1 h2 h4 h5
      have h6 := canP_le h4
      have h7 := congrArg List.length h5
      simp only [List.length_append, List.length_take] at h7
      have h8 : (y.2.1 t').take n = e.2.drop (y.2.1 8).length := by
        rw [← h5, List.drop_append_of_le_length (Nat.le_refl _), List.drop_length, List.nil_append]
      refine ⟨by omega, h8, ?_⟩
      have : w ∈ (y.2.1 t').take n := by
        rw [h8, drop_cons_of hw]
        exact List.mem_cons_self
      exact List.mem_of_mem_take this
    have hpush : ¬ ∃ t' n, t' < nt ∧ 1 ≤ n ∧ n ≤ 30 ∧ canQ y t' n = true ∧ (y.2.1 8).take ((y.2.1 8).length - n) = e.2 := by
      rintro ⟨t', n, h1, h2, h3, h4, h5⟩
      have := congrArg List.length h5
      simp only [List.length_take] at this
      omega
    have hnx : nxt y e.2 (y.2.1 8).length = if rOf y.2.1 w = 8 then -6 else rOf y.2.1 w := by
      unfold nxt
      rw [hw]
    rw [hnx]
    by_cases hr : rOf y.2.1 w = 8
    · rw [if_pos hr, if_pos rfl, cIf_f]
      rintro (⟨t', n, h1, h2, h3, h4, h5⟩ | z | z)
      · obtain ⟨a1, a2, a3⟩ := hpull t' n h1 h2 h4 h5
        obtain ⟨r, b1, b2, b3⟩ := rOf_in (rw := y.2.1) (w := w) (by rw [hr]; decide)
        rw [hr, z_l8, nI_eq (by omega) (by omega)] at b2
        have := hD r t' w b1 (by omega) b3 a3
        omega
      · exact hpush z
      · exact hrev z
    rw [if_neg hr]
    by_cases h6 : rOf y.2.1 w = -6
    · rw [if_pos h6, cIf_f]
      rintro (⟨t', n, h1, h2, h3, h4, h5⟩ | z | z)
      · obtain ⟨a1, a2, a3⟩ := hpull t' n h1 h2 h4 h5
        exact rOf_out h6 t' (by omega) a3
      · exact hpush z
      · exact hrev z
    obtain ⟨r, b1, b2, b3⟩ := rOf_in h6
    have hr8 : r ≠ 8 := fun z => hr (by rw [b2, z]; rfl)
    have hrnt : r < nt := by
      rcases Nat.lt_or_ge r nt with q | q
      · exact q
      · have := hg.2.2.2 r q (by omega)
        rw [this] at b3
        simp at b3
    rw [if_neg h6, b2, k_manyNext h hg.1 ht b1 hlt, q_bd]
    have hln := lcp_le (a := y.2.1 r) (b := e.2.drop (y.2.1 8).length)
    rw [List.length_drop] at hln
    have hr30 := (ho r b1).1
    by_cases hmm : lcp (y.2.1 r) (e.2.drop (y.2.1 8).length) = e.2.length - (y.2.1 8).length
    · rw [if_pos (by rw [hmm]), k_canTakeOut h ho (by omega) (by omega), q_bd]
      have htk : y.2.1 8 ++ (y.2.1 r).take (e.2.length - (y.2.1 8).length) = e.2 := by
        have := lcp_take (a := y.2.1 r) (b := e.2.drop (y.2.1 8).length)
        rw [hmm] at this
        rw [this, List.take_of_length_le (by rw [List.length_drop]; omega)]
        conv => lhs; lhs; rw [← hpre]
        rw [List.take_append_drop]
      by_cases hc : canP y r (e.2.length - (y.2.1 8).length) = true
      · rw [if_pos hc, if_neg (by decide), cIf_t (show one y nt e.2 from Or.inl ⟨r, _, hrnt, by omega, by omega, hc, htk⟩)]
      · rw [if_neg hc, if_pos rfl, cIf_f]
        rintro (⟨t', n, h1, h2, h3, h4, h5⟩ | z | z)
        · obtain ⟨a1, a2, a3⟩ := hpull t' n h1 h2 h4 h5
          have := hD r t' w b1 (by omega) b3 a3
          subst this
          rw [a1] at h4
          exact hc h4
        · exact hpush z
        · exact hrev z
    · rw [if_neg (by rw [nI_eq (by omega) (by omega)]; exact hmm), cIf_f]
      rintro (⟨t', n, h1, h2, h3, h4, h5⟩ | z | z)
      · obtain ⟨a1, a2, a3⟩ := hpull t' n h1 h2 h4 h5
        have := hD r t' w b1 (by omega) b3 a3
        subst this
        apply hmm
        have hq := lcp_pre' (a := (y.2.1 r).take n) (b := (y.2.1 r).drop n)
        rw [List.take_append_drop, a2] at hq
        rw [hq, List.length_drop]
      · exact hpush z
      · exact hrev z
  · rw [if_neg (nI_ge (by omega) (by omega)), q_sub (by omega)]
    unfold f_X6_tracksFor
    rw [z_l0, k_tracksFor' h hg (by omega) nt fu 0 (nI 0) (Nat.zero_add _) (by unfold fu; omega), q_bd, ← z_l0]
    have hpre : (y.2.1 8).take e.2.length = e.2 := by
      have := lcp_take (a := y.2.1 8) (b := e.2)
      rw [show lcp (y.2.1 8) e.2 = e.2.length by omega, List.take_length] at this
      exact this
    have hiff := trF_iff (y := y) (n := (y.2.1 8).length - e.2.length) (by omega) nt 0 (by omega)
    by_cases hz : trF y ((y.2.1 8).length - e.2.length) nt 0 0 = 0
    · rw [if_pos hz, cIf_f]
      rintro (⟨t', n, h1, h2, h3, h4, h5⟩ | ⟨t', n, h1, h2, h3, h4, h5⟩ | z)
      · have := congrArg List.length h5
        simp only [List.length_append] at this
        omega
      · have := congrArg List.length h5
        simp only [List.length_take] at this
        have := canQ_le h4
        rw [show n = (y.2.1 8).length - e.2.length by omega] at h4
        exact (hiff.mpr ⟨t', Nat.zero_le _, by omega, h4⟩) hz
      · exact hrev z
    · obtain ⟨t', h1, h2, h3⟩ := hiff.mp hz
      rw [if_neg hz, cIf_t (show one y nt e.2 from Or.inr (Or.inl ⟨t', _, by omega, by omega, by omega, h3, by
        rw [show (y.2.1 8).length - ((y.2.1 8).length - e.2.length) = e.2.length by omega]
        exact hpre⟩))]
theorem k_L18 {nt t r : Nat} {y : yT} (e : Int32 × List Nat) (hg : gN y nt) (ht : y.2.2.2[t]? = some e) (hr : r < nt) : ∀ (d f m : Nat) (μ : mT), m + d = (y.2.1 r).length + 1 → 1 ≤ m → d + 1 < f → cY μ 1 y →
    ∃ μ', f_X4_couldAfterTakingOut_L18 (nI t) (nI r) (nI (y.2.1 r).length) f 0 (nI m) μ = some (cIf (∃ n, m ≤ n ∧ n ≤ 30 ∧ canP y r n = true ∧ one (y.1, rwD y.2.1 r n, y.2.2) nt e.2) 1 0, μ') ∧ cY μ' 1 y ∧ only μ μ' (Yd 1) := by
  have hn8 := hg.2.1
  obtain ⟨ho, hD, hT, hl10, hk⟩ := hg.1
  have h30 := (ho r (by omega)).1
  intro d
  induction d with
  | zero =>
    intro f m μ hm h1 hf h
    obtain ⟨f, rfl⟩ : ∃ n', f = n' + 1 := ⟨f - 1, by omega⟩
    refine ⟨μ, ?_, h, only.rf⟩
    rw [f_X4_couldAfterTakingOut_L18, if_pos (nI_lt (by omega) (by omega)), q_gd (by decide), cIf_f]
    rintro ⟨n, a1, a2, a3, a4⟩
    have := canP_le a3
    omega
  | succ d ih =>
    intro f m μ hm h1 hf h
    obtain ⟨f, rfl⟩ : ∃ n', f = n' + 1 := ⟨f - 1, by omega⟩
    rw [f_X4_couldAfterTakingOut_L18, if_neg (nI_nlt (by omega) (by omega)), if_pos rfl, k_canTakeOut h ho (by omega) (by omega), q_bd, q_lt]
    by_cases hc : canP y r m = true
    · rw [if_pos hc, if_neg (by decide)]
      have hle := canP_le hc
      obtain ⟨μ1, a1, a2, a3⟩ := k_shiftD h.2.1 ho hT (t := r) (by omega) hle
      have h1' : cY μ1 1 (y.1, rwD y.2.1 r m, y.2.2) := ⟨h.1.cong (fun κ _ _ _ => a3 κ 1 (by omega)), a2, h.2.2.1.cong (a3 _ 1 (by omega)) (a3 _ 1 (by omega)) (a3 _ 1 (by omega)), h.2.2.2.cong (a3 _ 1 (by omega)) (a3 _ 1 (by omega)) (a3 _ 1 (by omega)) (a3 _ 1 (by omega))⟩
      have hg1 : gN (y.1, rwD y.2.1 r m, y.2.2) nt := gN_D hg rfl hr hle hl10
      have hle1 : m ≤ (rwD y.2.1 r m 8).length := by
        rw [rwD_8 (by omega), List.length_append, List.length_take]
        omega
      obtain ⟨μ2, b1, b2, b3⟩ := k_shiftB h1'.2.1 hg1.1.1 hg1.1.2.2.1 (t := r) (by omega) hle1
      have h2' : cY μ2 1 y := by
        have := rwD_B (rw := y.2.1) (t := r) (n := m) (by omega) hle
        rw [show (y.1, rwD y.2.1 r m, y.2.2).2.1 = rwD y.2.1 r m from rfl, this] at b2
        exact ⟨h1'.1.cong (fun κ _ _ _ => b3 κ 1 (by omega)), b2, h1'.2.2.1.cong (b3 _ 1 (by omega)) (b3 _ 1 (by omega)) (b3 _ 1 (by omega)), h1'.2.2.2.cong (b3 _ 1 (by omega)) (b3 _ 1 (by omega)) (b3 _ 1 (by omega)) (b3 _ 1 (by omega))⟩
      have ho2 : only μ μ2 (Yd 1) := (a3.w (by unfold Yd; omega)).tr (b3.w (by unfold Yd; omega))
      rw [a1, q_bd, k_one h1' hg1 ht, q_bd, b1, q_bd]
      dsimp only
      rw [q_lt, z_l1, q_add]
      by_cases ho1 : one (y.1, rwD y.2.1 r m, y.2.2) nt e.2
      · refine ⟨μ2, ?_, h2', ho2⟩
        rw [cIf_t ho1, cIf_t ⟨m, Nat.le_refl _, by omega, hc, ho1⟩]
        obtain ⟨f, rfl⟩ : ∃ n', f = n' + 1 := ⟨f - 1, by omega⟩
        rw [f_X4_couldAfterTakingOut_L18]
        by_cases q : nI (y.2.1 r).length < nI (m + 1)
        · rw [if_pos q, q_gd (by decide)]
        · rw [if_neg q, if_neg (by decide), q_gd (by decide)]
      · rw [cIf_f ho1]
        obtain ⟨μ3, c1, c2, c3⟩ := ih f (m + 1) μ2 (by omega) (by omega) (by omega) h2'
        refine ⟨μ3, ?_, c2, ho2.tr c3⟩
        rw [← z_l1]
        rw [c1]
        by_cases q : ∃ n, m + 1 ≤ n ∧ n ≤ 30 ∧ canP y r n = true ∧ one (y.1, rwD y.2.1 r n, y.2.2) nt e.2
        · rw [cIf_t q, cIf_t (by obtain ⟨n, q1, q2⟩ := q; exact ⟨n, by omega, q2⟩)]
        · rw [cIf_f q, cIf_f]
          rintro ⟨n, q1, q2, q3, q4⟩
          by_cases z : n = m
          · subst z; exact ho1 q4
          · exact q ⟨n, by omega, q2, q3, q4⟩
    · rw [if_neg hc, if_pos rfl]
      dsimp only
      rw [q_lt, z_l1, q_add]
      obtain ⟨μ3, c1, c2, c3⟩ := ih f (m + 1) μ (by omega) (by omega) (by omega) h
      refine ⟨μ3, ?_, c2, c3⟩
      rw [← z_l1]
      rw [c1]
      by_cases q : ∃ n, m + 1 ≤ n ∧ n ≤ 30 ∧ canP y r n = true ∧ one (y.1, rwD y.2.1 r n, y.2.2) nt e.2
      · rw [cIf_t q, cIf_t (by obtain ⟨n, q1, q2⟩ := q; exact ⟨n, by omega, q2⟩)]
      · rw [cIf_f q, cIf_f]
        rintro ⟨n, q1, q2, q3, q4⟩
        by_cases z : n = m
        · subst z; exact hc q3
        · exact q ⟨n, by omega, q2, q3, q4⟩
theorem k_L19 {nt t r : Nat} {y : yT} (e : Int32 × List Nat) (hg : gN y nt) (ht : y.2.2.2[t]? = some e) (hr : r < nt) : ∀ (d f m : Nat) (μ : mT), m + d = (y.2.1 8).length + 1 → 1 ≤ m → d + 1 < f → cY μ 1 y →
    ∃ μ', f_X4_couldAfterBringingIn_L19 (nI t) (nI r) (nI (y.2.1 8).length) f 0 (nI m) μ = some (cIf (∃ n, m ≤ n ∧ n ≤ 30 ∧ canQ y r n = true ∧ one (y.1, rwB y.2.1 r n, y.2.2) nt e.2) 1 0, μ') ∧ cY μ' 1 y ∧ only μ μ' (Yd 1) := by
  have hn8 := hg.2.1
  obtain ⟨ho, hD, hT, hl10, hk⟩ := hg.1
  have h30 := (ho 8 (by omega)).1
  intro d
  induction d with
  | zero =>
    intro f m μ hm h1 hf h
    obtain ⟨f, rfl⟩ : ∃ n', f = n' + 1 := ⟨f - 1, by omega⟩
    refine ⟨μ, ?_, h, only.rf⟩
    rw [f_X4_couldAfterBringingIn_L19, if_pos (nI_lt (by omega) (by omega)), q_gd (by decide), cIf_f]
    rintro ⟨n, a1, a2, a3, a4⟩
    have := canQ_le a3
    omega
  | succ d ih =>
    intro f m μ hm h1 hf h
    obtain ⟨f, rfl⟩ : ∃ n', f = n' + 1 := ⟨f - 1, by omega⟩
    rw [f_X4_couldAfterBringingIn_L19, if_neg (nI_nlt (by omega) (by omega)), if_pos rfl, k_canBringIn h ho (by omega) (by omega), q_bd, q_lt]
    by_cases hc : canQ y r m = true
    · rw [if_pos hc, if_neg (by decide)]
      have hle := canQ_le hc
      obtain ⟨μ1, a1, a2, a3⟩ := k_shiftB h.2.1 ho hT (t := r) (by omega) hle
      have h1' : cY μ1 1 (y.1, rwB y.2.1 r m, y.2.2) := ⟨h.1.cong (fun κ _ _ _ => a3 κ 1 (by omega)), a2, h.2.2.1.cong (a3 _ 1 (by omega)) (a3 _ 1 (by omega)) (a3 _ 1 (by omega)), h.2.2.2.cong (a3 _ 1 (by omega)) (a3 _ 1 (by omega)) (a3 _ 1 (by omega)) (a3 _ 1 (by omega))⟩
      have hg1 : gN (y.1, rwB y.2.1 r m, y.2.2) nt := gN_B hg rfl hr hle hl10
      have hle1 : m ≤ (rwB y.2.1 r m r).length := by
        rw [rwB_t, List.length_append, List.length_drop]
        omega
      obtain ⟨μ2, b1, b2, b3⟩ := k_shiftD h1'.2.1 hg1.1.1 hg1.1.2.2.1 (t := r) (by omega) hle1
      have h2' : cY μ2 1 y := by
        have := rwB_D (rw := y.2.1) (t := r) (n := m) (by omega) hle
        rw [show (y.1, rwB y.2.1 r m, y.2.2).2.1 = rwB y.2.1 r m from rfl, this] at b2
        exact ⟨h1'.1.cong (fun κ _ _ _ => b3 κ 1 (by omega)), b2, h1'.2.2.1.cong (b3 _ 1 (by omega)) (b3 _ 1 (by omega)) (b3 _ 1 (by omega)), h1'.2.2.2.cong (b3 _ 1 (by omega)) (b3 _ 1 (by omega)) (b3 _ 1 (by omega)) (b3 _ 1 (by omega))⟩
      have ho2 : only μ μ2 (Yd 1) := (a3.w (by unfold Yd; omega)).tr (b3.w (by unfold Yd; omega))
      rw [a1, q_bd, k_one h1' hg1 ht, q_bd, b1, q_bd]
      dsimp only
      rw [q_lt, z_l1, q_add]
      by_cases ho1 : one (y.1, rwB y.2.1 r m, y.2.2) nt e.2
      · refine ⟨μ2, ?_, h2', ho2⟩
        rw [cIf_t ho1, cIf_t ⟨m, Nat.le_refl _, by omega, hc, ho1⟩]
        obtain ⟨f, rfl⟩ : ∃ n', f = n' + 1 := ⟨f - 1, by omega⟩
        rw [f_X4_couldAfterBringingIn_L19]
        by_cases q : nI (y.2.1 8).length < nI (m + 1)
        · rw [if_pos q, q_gd (by decide)]
        · rw [if_neg q, if_neg (by decide), q_gd (by decide)]
      · rw [cIf_f ho1]
        obtain ⟨μ3, c1, c2, c3⟩ := ih f (m + 1) μ2 (by omega) (by omega) (by omega) h2'
        refine ⟨μ3, ?_, c2, ho2.tr c3⟩
        rw [← z_l1]
        rw [c1]
        by_cases q : ∃ n, m + 1 ≤ n ∧ n ≤ 30 ∧ canQ y r n = true ∧ one (y.1, rwB y.2.1 r n, y.2.2) nt e.2
        · rw [cIf_t q, cIf_t (by obtain ⟨n, q1, q2⟩ := q; exact ⟨n, by omega, q2⟩)]
        · rw [cIf_f q, cIf_f]
          rintro ⟨n, q1, q2, q3, q4⟩
          by_cases z : n = m
          · subst z; exact ho1 q4
          · exact q ⟨n, by omega, q2, q3, q4⟩
    · rw [if_neg hc, if_pos rfl]
      dsimp only
      rw [q_lt, z_l1, q_add]
      obtain ⟨μ3, c1, c2, c3⟩ := ih f (m + 1) μ (by omega) (by omega) (by omega) h
      refine ⟨μ3, ?_, c2, c3⟩
      rw [← z_l1]
      rw [c1]
      by_cases q : ∃ n, m + 1 ≤ n ∧ n ≤ 30 ∧ canQ y r n = true ∧ one (y.1, rwB y.2.1 r n, y.2.2) nt e.2
      · rw [cIf_t q, cIf_t (by obtain ⟨n, q1, q2⟩ := q; exact ⟨n, by omega, q2⟩)]
      · rw [cIf_f q, cIf_f]
        rintro ⟨n, q1, q2, q3, q4⟩
        by_cases z : n = m
        · subst z; exact hc q3
        · exact q ⟨n, by omega, q2, q3, q4⟩
def twoP (y : yT) (nt : Nat) (l : List Nat) (r : Nat) : Prop := ∃ n, 1 ≤ n ∧ n ≤ 30 ∧ canP y r n = true ∧ one (y.1, rwD y.2.1 r n, y.2.2) nt l
def twoQ (y : yT) (nt : Nat) (l : List Nat) (r : Nat) : Prop := ∃ n, 1 ≤ n ∧ n ≤ 30 ∧ canQ y r n = true ∧ one (y.1, rwB y.2.1 r n, y.2.2) nt l
def twoR (y : yT) (nt : Nat) (l : List Nat) : Prop := canR y = true ∧ one (y.1, rwR y.2.1, y.2.2) nt l
def two (y : yT) (nt : Nat) (l : List Nat) : Prop := (∃ r, r < nt ∧ (twoP y nt l r ∨ twoQ y nt l r)) ∨ twoR y nt l
theorem k_cto {nt t r : Nat} {y : yT} {μ : mT} {e : Int32 × List Nat} (h : cY μ 1 y) (hg : gN y nt) (ht : y.2.2.2[t]? = some e) (hr : r < nt) :
    ∃ μ', f_X4_couldAfterTakingOut (nI t) (nI r) μ = some (cIf (twoP y nt e.2 r) 1 0, μ') ∧ cY μ' 1 y ∧ only μ μ' (Yd 1) := by
  have hn8 := hg.2.1
  have h30 := (hg.1.1 r (by omega)).1
  unfold f_X4_couldAfterTakingOut
  rw [k_manyIn (by omega), q_bd, cRow.nl h.2.1 (by omega), z_l1]
  exact k_L18 e hg ht hr (y.2.1 r).length fu 1 μ (by omega) (by omega) (by unfold fu; omega) h
theorem k_cbi {nt t r : Nat} {y : yT} {μ : mT} {e : Int32 × List Nat} (h : cY μ 1 y) (hg : gN y nt) (ht : y.2.2.2[t]? = some e) (hr : r < nt) :
    ∃ μ', f_X4_couldAfterBringingIn (nI t) (nI r) μ = some (cIf (twoQ y nt e.2 r) 1 0, μ') ∧ cY μ' 1 y ∧ only μ μ' (Yd 1) := by
  have hn8 := hg.2.1
  have h30 := (hg.1.1 8 (by omega)).1
  unfold f_X4_couldAfterBringingIn
  rw [z_l8, k_manyIn (by omega), q_bd, cRow.nl h.2.1 (by omega), z_l1]
  exact k_L19 e hg ht hr (y.2.1 8).length fu 1 μ (by omega) (by omega) (by unfold fu; omega) h
theorem k_turn' {j : Nat} {y : yT} {μ : mT} (h : cY μ j y) (ho : rOK y.2.1) :
    ∃ μ', f_X5_turnEngine j μ = some (0, μ') ∧ cY μ' j (y.1, rwR y.2.1, y.2.2) ∧ only μ μ' (Yd j) := by
  have c8 : cRow μ j 8 (y.2.1 8) := by
    have := h.2.1 8 (by omega)
    unfold cw at this
    rwa [if_pos rfl] at this
  obtain ⟨μ1, a1, a2, a3, a4⟩ := k_turnEngine (j := j) (ho 8 (by omega)).1 c8
  refine ⟨μ1, a1, ⟨h.1.cong (fun κ _ _ _ => a4 κ j (by omega)), fun r hr => ?_, h.2.2.1.cong (a4 _ j (by omega)) (a4 _ j (by omega)) (a4 _ j (by omega)), h.2.2.2.cong (a4 _ j (by omega)) (a4 _ j (by omega)) (a4 _ j (by omega)) (a4 _ j (by omega))⟩, a4.w (by unfold Yd; omega)⟩
  show cRow μ1 j r (cw r (rwR y.2.1 r))
  unfold rwR
  by_cases e : r = 8
  · subst e
    unfold cw
    rw [if_pos rfl, if_pos rfl]
    exact a2
  · rw [if_neg e]
    exact a3 r _ (by omega) (rwl ho hr) (h.2.1 r hr)
theorem isB_c {p : Prop} : isB (cIf p 1 0) = true := by
  by_cases h : p
  · rw [cIf_t h]; decide
  · rw [cIf_f h]; decide
theorem k_cgr {nt t : Nat} {y : yT} {μ : mT} {e : Int32 × List Nat} (h : cY μ 1 y) (hg : gN y nt) (ht : y.2.2.2[t]? = some e) :
    ∃ μ', f_X4_couldAfterGoingRound (nI t) μ = some (cIf (twoR y nt e.2) 1 0, μ') ∧ cY μ' 1 y ∧ only μ μ' (Yd 1) := by
  unfold f_X4_couldAfterGoingRound
  rw [k_canGoRound h hg.1.1, q_bd]
  by_cases hc : canR y = true
  · rw [if_pos hc, if_neg (by decide)]
    obtain ⟨μ1, a1, a2, a3⟩ := k_turn' h hg.1.1
    have hg1 : gN (y.1, rwR y.2.1, y.2.2) nt := gN_R hg rfl hg.1.2.2.2.1
    obtain ⟨μ2, b1, b2, b3⟩ := k_turn' a2 hg1.1.1
    rw [show ((y.1, rwR y.2.1, y.2.2) : yT).2.1 = rwR y.2.1 from rfl, rwR_R] at b2
    refine ⟨μ2, ?_, b2, a3.tr b3⟩
    rw [a1, q_bd, k_one a2 hg1 ht, q_bd, b1, q_bd, q_gd isB_c]
    by_cases q : one (y.1, rwR y.2.1, y.2.2) nt e.2
    · rw [cIf_t q, cIf_t ⟨hc, q⟩]
    · rw [cIf_f q, cIf_f (fun z => q z.2)]
  · rw [if_neg hc, if_pos rfl, cIf_f (fun z => hc z.1)]
    exact ⟨μ, rfl, h, only.rf⟩
theorem k_L33 {nt t : Nat} {y : yT} (e : Int32 × List Nat) (hg : gN y nt) (ht : y.2.2.2[t]? = some e) {K : mT → Option (Int32 × mT)} : ∀ (d f r : Nat) (μ : mT), r + d = nt → d < f → cY μ 1 y →
    ∃ μ', ((f_X4_fewestMoves_L33 (nI t) K f (nI r) μ = K μ' ∧ ∀ r', r ≤ r' → r' < nt → ¬ (twoP y nt e.2 r' ∨ twoQ y nt e.2 r')) ∨ (f_X4_fewestMoves_L33 (nI t) K f (nI r) μ = some (2, μ') ∧ ∃ r', r' < nt ∧ (twoP y nt e.2 r' ∨ twoQ y nt e.2 r'))) ∧ cY μ' 1 y ∧ only μ μ' (Yd 1) := by
  have hn8 := hg.2.1
  intro d
  induction d with
  | zero =>
    intro f r μ hr hf h
    obtain ⟨f, rfl⟩ : ∃ n', f = n' + 1 := ⟨f - 1, by omega⟩
    refine ⟨μ, Or.inl ⟨?_, fun r' a b => by omega⟩, h, only.rf⟩
    rw [f_X4_fewestMoves_L33, h.1.tracks, hg.2.2.1, if_pos (nI_le (by omega) (by omega))]
  | succ d ih =>
    intro f r μ hr hf h
    obtain ⟨f, rfl⟩ : ∃ n', f = n' + 1 := ⟨f - 1, by omega⟩
    rw [f_X4_fewestMoves_L33, h.1.tracks, hg.2.2.1, if_neg (nI_ge (by omega) (by omega))]
    obtain ⟨μ1, a1, a2, a3⟩ := k_cto h hg ht (r := r) (by omega)
    rw [a1, q_bd]
    by_cases p1 : twoP y nt e.2 r
    · rw [cIf_t p1, if_neg (by decide)]
      exact ⟨μ1, Or.inr ⟨rfl, r, by omega, Or.inl p1⟩, a2, a3⟩
    rw [cIf_f p1, if_pos rfl]
    obtain ⟨μ2, b1, b2, b3⟩ := k_cbi a2 hg ht (r := r) (by omega)
    rw [b1, q_bd]
    by_cases p2 : twoQ y nt e.2 r
    · rw [cIf_t p2, if_neg (by decide)]
      exact ⟨μ2, Or.inr ⟨rfl, r, by omega, Or.inr p2⟩, b2, a3.tr b3⟩
    rw [cIf_f p2, if_pos rfl, q_lt, z_l1, q_add]
    obtain ⟨μ3, c1, c2, c3⟩ := ih f (r + 1) μ2 (by omega) (by omega) b2
    refine ⟨μ3, ?_, c2, (a3.tr b3).tr c3⟩
    rcases c1 with ⟨x1, x2⟩ | x
    · left
      refine ⟨x1, fun r' q1 q2 z => ?_⟩
      by_cases er : r' = r
      · subst er
        rcases z with z | z
        · exact p1 z
        · exact p2 z
      · exact x2 r' (by omega) q2 z
    · exact Or.inr x
noncomputable def mvS (y : yT) (nt : Nat) (l : List Nat) : Int32 := if y.2.1 8 = l then 0 else cIf (one y nt l) 1 (cIf (two y nt l) 2 (-6))
theorem k_fewestMoves {j nt t : Nat} {y : yT} {μ : mT} {e : Int32 × List Nat} (hj : j ≠ 1) (h : cY μ j y) (hg : gN y nt) (ht : y.2.2.2[t]? = some e) :
    ∃ μ', f_X4_fewestMoves j (nI t) μ = some (mvS y nt e.2, μ') ∧ only μ μ' (Yd 1) := by
  unfold f_X4_fewestMoves mvS
  obtain ⟨μ1, a1, a2, a3⟩ := k_copy (j := 1) (j2 := j) hj h hg.1
  rw [a1, q_bd, k_couldLeave a2 hg.1 ht, q_bd]
  by_cases hq : y.2.1 8 = e.2
  · rw [if_pos hq, if_pos hq, if_neg (by decide)]
    exact ⟨μ1, rfl, a3⟩
  rw [if_neg hq, if_neg hq, if_pos rfl, k_one a2 hg ht, q_bd]
  by_cases ho : one y nt e.2
  · rw [cIf_t ho, cIf_t ho, if_neg (by decide)]
    exact ⟨μ1, rfl, a3⟩
  rw [cIf_f ho, cIf_f ho, if_pos rfl, q_lt, z_l0]
  have hn8 := hg.2.1
  obtain ⟨μ2, b1, b2, b3⟩ := k_L33 e hg ht (K := fun μ10 => bd (f_X4_couldAfterGoingRound (nI t) μ10) (fun v11 μ12 => if v11 = nI 0 then some ((-6), μ12) else some (2, μ12))) nt fu 0 μ1 (Nat.zero_add _) (by unfold fu; omega) a2
  rcases b1 with ⟨x1, x2⟩ | ⟨x1, r', x2, x3⟩
  · obtain ⟨μ3, c1, c2, c3⟩ := k_cgr b2 hg ht
    refine ⟨μ3, ?_, (a3.tr b3).tr c3⟩
    rw [x1, c1, q_bd]
    by_cases q : twoR y nt e.2
    · rw [cIf_t q, if_neg (by decide), cIf_t (show two y nt e.2 from Or.inr q)]
    · rw [cIf_f q, if_pos (show (0 : Int32) = nI 0 from rfl), cIf_f]
      rintro (⟨r', z1, z2⟩ | z)
      · exact x2 r' (Nat.zero_le _) z1 z2
      · exact q z
  · refine ⟨μ2, ?_, a3.tr b3⟩
    rw [x1, cIf_t (show two y nt e.2 from Or.inl ⟨r', x2, x3⟩)]
def nxtR (rw : Nat → List Nat) (l : List Nat) (got : Nat) : Option Nat := match l[got]? with
  | none => none
  | some w => match rFind rw w 9 0 with
    | none => none
    | some r => if r = 8 then none else some r
theorem nxt_R {y : yT} {l : List Nat} {got : Nat} : nxt y l got = match nxtR y.2.1 l got with | none => -6 | some r => nI r := by
  unfold nxt nxtR rOf
  cases l[got]? with
  | none => rfl
  | some w =>
    dsimp only
    cases e : rFind y.2.1 w 9 0 with
    | none => rfl
    | some r =>
      obtain ⟨a, b, c, d⟩ := rFind_some e
      dsimp only
      by_cases h : r = 8
      · subst h
        rfl
      · rw [if_neg h, if_neg (by rw [z_l8, nI_eq (by omega) (by omega)]; exact h)]
theorem nxtR_some {rw : Nat → List Nat} {l : List Nat} {got r : Nat} (h : nxtR rw l got = some r) : r < 8 ∧ ∃ w, l[got]? = some w ∧ w ∈ rw r := by
  unfold nxtR at h
  cases e1 : l[got]? with
  | none => rw [e1] at h; cases h
  | some w =>
    rw [e1] at h
    dsimp only at h
    cases e : rFind rw w 9 0 with
    | none => rw [e] at h; cases h
    | some r' =>
      rw [e] at h
      dsimp only at h
      obtain ⟨a, b, c, d⟩ := rFind_some e
      split at h
      · cases h
      · cases h
        exact ⟨by omega, w, rfl, c⟩
def layC : Nat → (Nat → List Nat) → List Nat → Nat → Option (List (Nat × Nat))
  | 0, _, _, _ => none
  | f + 1, rw, l, got => if got = l.length then some [] else match nxtR rw l got with
    | none => none
    | some r => if lcp (rw r) (l.drop got) = 0 then none else (layC f (rwD rw r (lcp (rw r) (l.drop got))) l (got + lcp (rw r) (l.drop got))).map ((r, lcp (rw r) (l.drop got)) :: ·)
def drS (y : yT) (ps : List (Nat × Nat)) : yT := ps.foldl (fun y p => sDraw y p.1 p.2) y
def fpS (y : yT) (l : List Nat) : Option (List (Nat × Nat)) := if lcp (y.2.1 8) l = (y.2.1 8).length then layC 9 y.2.1 l (y.2.1 8).length else none
theorem sDraw_7 {y : yT} {t n : Nat} : (sDraw y t n).1 0 7 = y.1 0 7 := by
  unfold sDraw mvm ctm dO nP
  dsimp only
  rw [sU_n (by omega), sU_n (by omega), sU_n (by omega), sU_n (by omega), sU_n (by omega), if_neg (by omega)]
theorem sDraw_bl {y : yT} {t n : Nat} : (sDraw y t n).2.2.1.length ≤ y.2.2.1.length := List.length_filter_le _ _
theorem gN_dr {y : yT} {nt t n : Nat} (h : gN y nt) (ht : t < nt) (hn : n ≤ (y.2.1 t).length) : gN (sDraw y t n) nt :=
  gN_D (s := (sDraw y t n).1) (bl := (sDraw y t n).2.2.1) h sDraw_7 ht hn (Nat.le_trans sDraw_bl h.1.2.2.2.1)
theorem k_L36 {nt t : Nat} (e : Int32 × List Nat) : ∀ (d f F c : Nat) (y : yT) (μ : mT), gN y nt → y.2.2.2[t]? = some e → (y.2.1 8).length + d = e.2.length → c ≤ (y.2.1 8).length → d < f → d < F → cY μ 1 y →
    ∃ μ', f_X4_fewestPulls_L36 (nI t) f (nI c) μ = some ((match layC F y.2.1 e.2 (y.2.1 8).length with | none => -6 | some ps => nI (c + ps.length)), μ') ∧ only μ μ' (Yd 1) ∧ ∀ ps, layC F y.2.1 e.2 (y.2.1 8).length = some ps → cY μ' 1 (drS y ps) := by
  intro d
  induction d using Nat.strongRecOn with
  | ind d ih =>
  intro f F c y μ hg ht hd hc hf hF h
  have hn8 := hg.2.1
  obtain ⟨o1, o2, o3, o4⟩ := hg.1.2.2.2.2.2 t e ht
  obtain ⟨f, rfl⟩ : ∃ n', f = n' + 1 := ⟨f - 1, by omega⟩
  obtain ⟨F, rfl⟩ : ∃ n', F = n' + 1 := ⟨F - 1, by omega⟩
  have h30 := (hg.1.1 8 (by omega)).1
  rw [f_X4_fewestPulls_L36, z_l8, if_neg (nI_nlt (by omega) (by omega)), k_manyIn (by omega), q_bd, k_sizeOf h.2.2.2 hg.1.2.2.2.2.1 ht, q_bd, cRow.nl h.2.1 (by omega)]
  unfold layC
  by_cases q : (y.2.1 8).length = e.2.length
  · rw [if_pos (by rw [q]), if_pos q]
    exact ⟨μ, rfl, only.rf, fun ps hp => by cases hp; exact h⟩
  rw [if_neg (by rw [nI_eq (by omega) (by omega)]; exact q), if_neg q, k_trackOfNext h hg.1 ht (by omega), q_bd, q_lt, nxt_R]
  cases en : nxtR y.2.1 e.2 (y.2.1 8).length with
  | none =>
    dsimp only
    rw [if_pos rfl, if_pos rfl]
    exact ⟨μ, rfl, only.rf, fun ps hp => by cases hp⟩
  | some r =>
    obtain ⟨hr8, w, hw, hwr⟩ := nxtR_some en
    have hrnt : r < nt := by
      rcases Nat.lt_or_ge r nt with q | q
      · exact q
      · have := hg.2.2.2 r q (by omega)
        rw [this] at hwr
        simp at hwr
    dsimp only
    rw [if_neg (q_n6 (by omega)), k_manyNext h hg.1 ht (by omega) (by omega), q_bd]
    have hlc := lcp_le (a := y.2.1 r) (b := e.2.drop (y.2.1 8).length)
    rw [List.length_drop] at hlc
    generalize hm : lcp (y.2.1 r) (e.2.drop (y.2.1 8).length) = m at hlc ⊢
    by_cases hm0 : m = 0
    · rw [if_pos hm0, if_pos (by rw [hm0]; rfl)]
      exact ⟨μ, rfl, only.rf, fun ps hp => by cases hp⟩
    rw [if_neg hm0, if_neg (by rw [z_l0, nI_eq (by omega) (by omega)]; exact hm0)]
    obtain ⟨μ1, a1, a2, a3⟩ := k_drawOut h hg.1 (t := r) hr8 hlc.1
    have hg1 := gN_dr hg hrnt hlc.1
    have h8 : ((sDraw y r m).2.1 8).length = (y.2.1 8).length + m := by
      show (rwD y.2.1 r m 8).length = _
      rw [rwD_8 hr8, List.length_append, List.length_take]
      omega
    obtain ⟨μ2, b1, b2, b3⟩ := ih (d - m) (by omega) f F (c + 1) (sDraw y r m) μ1 hg1 ht (by omega) (by omega) (by omega) (by omega) a2
    refine ⟨μ2, ?_, a3.tr b2, fun ps hp => ?_⟩
    · rw [a1, q_bd, q_lt, z_l1, q_add, b1, h8]
      show some ((match layC F (rwD y.2.1 r m) e.2 ((y.2.1 8).length + m) with | none => -6 | some ps => nI (c + 1 + ps.length)), μ2) = _
      cases layC F (rwD y.2.1 r m) e.2 ((y.2.1 8).length + m) with
      | none => rfl
      | some ps =>
        simp only [Option.map_some, List.length_cons]
        congr 3
        omega
    · rw [h8] at b3
      rw [show (sDraw y r m).2.1 = rwD y.2.1 r m from rfl] at b3
      cases hq : layC F (rwD y.2.1 r m) e.2 ((y.2.1 8).length + m) with
      | none => rw [hq] at hp; cases hp
      | some ps' =>
        rw [hq] at hp
        cases hp
        exact b3 ps' hq
theorem k_fewestPulls {j nt t : Nat} {y : yT} {μ : mT} {e : Int32 × List Nat} (hj : j ≠ 1) (h : cY μ j y) (hg : gN y nt) (ht : y.2.2.2[t]? = some e) :
    ∃ μ', f_X4_fewestPulls j (nI t) μ = some ((match fpS y e.2 with | none => -6 | some ps => nI ps.length), μ') ∧ only μ μ' (Yd 1) ∧ ∀ ps, fpS y e.2 = some ps → cY μ' 1 (drS y ps) := by
  have hn8 := hg.2.1
  obtain ⟨o1, o2, o3, o4⟩ := hg.1.2.2.2.2.2 t e ht
  have h30 := (hg.1.1 8 (by omega)).1
  unfold f_X4_fewestPulls fpS
  obtain ⟨μ1, a1, a2, a3⟩ := k_copy (j := 1) (j2 := j) hj h hg.1
  have hlc := lcp_le (a := y.2.1 8) (b := e.2)
  rw [a1, q_bd, k_manyAlike a2 hg.1 ht, q_bd, z_l8, k_manyIn (by omega), q_bd, cRow.nl a2.2.1 (by omega)]
  by_cases q : lcp (y.2.1 8) e.2 = (y.2.1 8).length
  · rw [if_pos (by rw [q]), if_pos q, z_l0]
    obtain ⟨μ2, b1, b2, b3⟩ := k_L36 e (e.2.length - (y.2.1 8).length) fu 9 0 y μ1 hg ht (by omega) (Nat.zero_le _) (by unfold fu; omega) (by omega) a2
    refine ⟨μ2, ?_, a3.tr b2, b3⟩
    rw [b1]
    cases layC 9 y.2.1 e.2 (y.2.1 8).length with
    | none => rfl
    | some ps => simp
  · rw [if_neg (by rw [nI_eq (by omega) (by omega)]; exact q), if_neg q]
    exact ⟨μ1, rfl, a3, fun ps hp => by cases hp⟩
