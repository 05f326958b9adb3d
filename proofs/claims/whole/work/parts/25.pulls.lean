def nxtR (rw : Nat → List Nat) (l : List Nat) (got : Nat) : Option Nat := match l[got]? with
  | none => none
  | some w => match rFind rw w 9 0 with
    | none => none
    | some r => if r = 8 then none else some r
theorem nxt_R {y : yT} {l : List Nat} {got : Nat} : nxt y l got = match nxtR y.2.1 l got with | none => -6 | some r => nI r := by
  unfold nxt nxtR rOf
  cases l[got]? with
  | none => rfl
  | some w =>
    dsimp only
    cases e : rFind y.2.1 w 9 0 with
    | none => rfl
    | some r =>
      obtain ⟨a, b, c, d⟩ := rFind_some e
      dsimp only
      by_cases h : r = 8
      · subst h
        rfl
      · rw [if_neg h, if_neg (by rw [z_l8, nI_eq (by omega) (by omega)]; exact h)]
theorem nxtR_some {rw : Nat → List Nat} {l : List Nat} {got r : Nat} (h : nxtR rw l got = some r) : r < 8 ∧ ∃ w, l[got]? = some w ∧ w ∈ rw r := by
  unfold nxtR at h
  cases e1 : l[got]? with
  | none => rw [e1] at h; cases h
  | some w =>
    rw [e1] at h
    dsimp only at h
    cases e : rFind rw w 9 0 with
    | none => rw [e] at h; cases h
    | some r' =>
      rw [e] at h
      dsimp only at h
      obtain ⟨a, b, c, d⟩ := rFind_some e
      split at h
      · cases h
      · cases h
        exact ⟨by omega, w, rfl, c⟩
def layC : Nat → (Nat → List Nat) → List Nat → Nat → Option (List (Nat × Nat))
  | 0, _, _, _ => none
  | f + 1, rw, l, got => if got = l.length then some [] else match nxtR rw l got with
    | none => none
    | some r => if lcp (rw r) (l.drop got) = 0 then none else (layC f (rwD rw r (lcp (rw r) (l.drop got))) l (got + lcp (rw r) (l.drop got))).map ((r, lcp (rw r) (l.drop got)) :: ·)
def drS (y : yT) (ps : List (Nat × Nat)) : yT := ps.foldl (fun y p => sDraw y p.1 p.2) y
def fpS (y : yT) (l : List Nat) : Option (List (Nat × Nat)) := if lcp (y.2.1 8) l = (y.2.1 8).length then layC 9 y.2.1 l (y.2.1 8).length else none
theorem sDraw_7 {y : yT} {t n : Nat} : (sDraw y t n).1 0 7 = y.1 0 7 := by
  unfold sDraw mvm ctm dO nP
  dsimp only
  rw [sU_n (by omega), sU_n (by omega), sU_n (by omega), sU_n (by omega), sU_n (by omega), if_neg (by omega)]
theorem sDraw_bl {y : yT} {t n : Nat} : (sDraw y t n).2.2.1.length ≤ y.2.2.1.length := List.length_filter_le _ _
theorem gN_dr {y : yT} {nt t n : Nat} (h : gN y nt) (ht : t < nt) (hn : n ≤ (y.2.1 t).length) : gN (sDraw y t n) nt :=
  gN_D (s := (sDraw y t n).1) (bl := (sDraw y t n).2.2.1) h sDraw_7 ht hn (Nat.le_trans sDraw_bl h.1.2.2.2.1)
theorem k_L36 {nt t : Nat} (e : Int32 × List Nat) : ∀ (d f F c : Nat) (y : yT) (μ : mT), gN y nt → y.2.2.2[t]? = some e → (y.2.1 8).length + d = e.2.length → c ≤ (y.2.1 8).length → d < f → d < F → cY μ 1 y →
    ∃ μ', f_X4_fewestPulls_L36 (nI t) f (nI c) μ = some ((match layC F y.2.1 e.2 (y.2.1 8).length with | none => -6 | some ps => nI (c + ps.length)), μ') ∧ only μ μ' (Yd 1) ∧ ∀ ps, layC F y.2.1 e.2 (y.2.1 8).length = some ps → cY μ' 1 (drS y ps) := by
  intro d
  induction d using Nat.strongRecOn with
  | ind d ih =>
  intro f F c y μ hg ht hd hc hf hF h
  have hn8 := hg.2.1
  obtain ⟨o1, o2, o3, o4⟩ := hg.1.2.2.2.2.2 t e ht
  obtain ⟨f, rfl⟩ : ∃ n', f = n' + 1 := ⟨f - 1, by omega⟩
  obtain ⟨F, rfl⟩ : ∃ n', F = n' + 1 := ⟨F - 1, by omega⟩
  have h30 := (hg.1.1 8 (by omega)).1
  rw [f_X4_fewestPulls_L36, z_l8, if_neg (nI_nlt (by omega) (by omega)), k_manyIn (by omega), q_bd, k_sizeOf h.2.2.2 hg.1.2.2.2.2.1 ht, q_bd, cRow.nl h.2.1 (by omega)]
  unfold layC
  by_cases q : (y.2.1 8).length = e.2.length
  · rw [if_pos (by rw [q]), if_pos q]
    exact ⟨μ, rfl, only.rf, fun ps hp => by cases hp; exact h⟩
  rw [if_neg (by rw [nI_eq (by omega) (by omega)]; exact q), if_neg q, k_trackOfNext h hg.1 ht (by omega), q_bd, q_lt, nxt_R]
  cases en : nxtR y.2.1 e.2 (y.2.1 8).length with
  | none =>
    dsimp only
    rw [if_pos rfl, if_pos rfl]
    exact ⟨μ, rfl, only.rf, fun ps hp => by cases hp⟩
  | some r =>
    obtain ⟨hr8, w, hw, hwr⟩ := nxtR_some en
    have hrnt : r < nt := by
      rcases Nat.lt_or_ge r nt with q | q
      · exact q
      · have := hg.2.2.2 r q (by omega)
        rw [this] at hwr
        simp at hwr
    dsimp only
    rw [if_neg (q_n6 (by omega)), k_manyNext h hg.1 ht (by omega) (by omega), q_bd]
    have hlc := lcp_le (a := y.2.1 r) (b := e.2.drop (y.2.1 8).length)
    rw [List.length_drop] at hlc
    generalize hm : lcp (y.2.1 r) (e.2.drop (y.2.1 8).length) = m at hlc ⊢
    by_cases hm0 : m = 0
    · rw [if_pos hm0, if_pos (by rw [hm0]; rfl)]
      exact ⟨μ, rfl, only.rf, fun ps hp => by cases hp⟩
    rw [if_neg hm0, if_neg (by rw [z_l0, nI_eq (by omega) (by omega)]; exact hm0)]
    obtain ⟨μ1, a1, a2, a3⟩ := k_drawOut h hg.1 (t := r) hr8 hlc.1
    have hg1 := gN_dr hg hrnt hlc.1
    have h8 : ((sDraw y r m).2.1 8).length = (y.2.1 8).length + m := by
      show (rwD y.2.1 r m 8).length = _
      rw [rwD_8 hr8, List.length_append, List.length_take]
      omega
    obtain ⟨μ2, b1, b2, b3⟩ := ih (d - m) (by omega) f F (c + 1) (sDraw y r m) μ1 hg1 ht (by omega) (by omega) (by omega) (by omega) a2
    refine ⟨μ2, ?_, a3.tr b2, fun ps hp => ?_⟩
    · rw [a1, q_bd, q_lt, z_l1, q_add, b1, h8]
      show some ((match layC F (rwD y.2.1 r m) e.2 ((y.2.1 8).length + m) with | none => -6 | some ps => nI (c + 1 + ps.length)), μ2) = _
      cases layC F (rwD y.2.1 r m) e.2 ((y.2.1 8).length + m) with
      | none => rfl
      | some ps =>
        simp only [Option.map_some, List.length_cons]
        congr 3
        omega
    · rw [h8] at b3
      rw [show (sDraw y r m).2.1 = rwD y.2.1 r m from rfl] at b3
      cases hq : layC F (rwD y.2.1 r m) e.2 ((y.2.1 8).length + m) with
      | none => rw [hq] at hp; cases hp
      | some ps' =>
        rw [hq] at hp
        cases hp
        exact b3 ps' hq
theorem k_fewestPulls {j nt t : Nat} {y : yT} {μ : mT} {e : Int32 × List Nat} (hj : j ≠ 1) (h : cY μ j y) (hg : gN y nt) (ht : y.2.2.2[t]? = some e) :
    ∃ μ', f_X4_fewestPulls j (nI t) μ = some ((match fpS y e.2 with | none => -6 | some ps => nI ps.length), μ') ∧ only μ μ' (Yd 1) ∧ ∀ ps, fpS y e.2 = some ps → cY μ' 1 (drS y ps) := by
  have hn8 := hg.2.1
  obtain ⟨o1, o2, o3, o4⟩ := hg.1.2.2.2.2.2 t e ht
  have h30 := (hg.1.1 8 (by omega)).1
  unfold f_X4_fewestPulls fpS
  obtain ⟨μ1, a1, a2, a3⟩ := k_copy (j := 1) (j2 := j) hj h hg.1
  have hlc := lcp_le (a := y.2.1 8) (b := e.2)
  rw [a1, q_bd, k_manyAlike a2 hg.1 ht, q_bd, z_l8, k_manyIn (by omega), q_bd, cRow.nl a2.2.1 (by omega)]
  by_cases q : lcp (y.2.1 8) e.2 = (y.2.1 8).length
  · rw [if_pos (by rw [q]), if_pos q, z_l0]
    obtain ⟨μ2, b1, b2, b3⟩ := k_L36 e (e.2.length - (y.2.1 8).length) fu 9 0 y μ1 hg ht (by omega) (Nat.zero_le _) (by unfold fu; omega) (by omega) a2
    refine ⟨μ2, ?_, a3.tr b2, b3⟩
    rw [b1]
    cases layC 9 y.2.1 e.2 (y.2.1 8).length with
    | none => rfl
    | some ps => simp
  · rw [if_neg (by rw [nI_eq (by omega) (by omega)]; exact q), if_neg q]
    exact ⟨μ1, rfl, a3, fun ps hp => by cases hp⟩
