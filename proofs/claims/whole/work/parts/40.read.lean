def rd : Nat → Nat → Option (List Nat)
  | 0, N => if N = 0 then some [] else none
  | F + 1, N => if N = 0 then some [] else if N % 31 = 0 then none else (rd F (N / 31)).map (fun l => (N % 31 - 1) :: l)
theorem rd_len : ∀ (F N : Nat) (l : List Nat), rd F N = some l → l.length ≤ F ∧ ∀ w ∈ l, w < 30
  | 0, N, l, h => by
    unfold rd at h
    split at h
    · cases h; exact ⟨Nat.le_refl _, fun w q => (List.not_mem_nil q).elim⟩
    · cases h
  | F + 1, N, l, h => by
    unfold rd at h
    split at h
    · cases h; exact ⟨by simp, fun w q => (List.not_mem_nil q).elim⟩
    · split at h
      · cases h
      · cases e : rd F (N / 31) with
        | none => rw [e] at h; cases h
        | some l' =>
          rw [e] at h
          cases h
          obtain ⟨a, b⟩ := rd_len F (N / 31) l' e
          refine ⟨by rw [List.length_cons]; omega, fun w q => ?_⟩
          rcases List.mem_cons.mp q with rfl | q
          · have := Nat.mod_lt N (show 0 < 31 by decide)
            omega
          · exact b w q
def tLs (a : Int64) : List Nat := if a < 0 then [] else (rd 8 a.toInt.toNat).getD []
theorem tLs_len (a : Int64) : (tLs a).length ≤ 8 ∧ ∀ w ∈ tLs a, w < 30 := by
  unfold tLs
  split
  · exact ⟨by simp, fun w q => (List.not_mem_nil q).elim⟩
  · cases e : rd 8 a.toInt.toNat with
    | none => exact ⟨by simp, fun w q => (List.not_mem_nil q).elim⟩
    | some l => exact rd_len _ _ _ e
theorem lg_le {N : Nat} (h : N < 2 ^ 63) : lg_cmp (lN N) 0 ≤ 0 ↔ N = 0 := by
  unfold lg_cmp
  by_cases c : N = 0
  · subst c
    exact ⟨fun _ => rfl, fun _ => by decide⟩
  · rw [if_pos (show lN N > 0 from (pk_lLT (a := 0) (by omega) h).mpr (by omega))]
    exact ⟨fun q => absurd q (by decide), fun q => absurd q c⟩
theorem lg_eq {N : Nat} (h : N < 2 ^ 63) : lg_cmp (lN N) 0 = 0 ↔ N = 0 := by
  unfold lg_cmp
  by_cases c : N = 0
  · subst c
    exact ⟨fun _ => rfl, fun _ => by decide⟩
  · rw [if_pos (show lN N > 0 from (pk_lLT (a := 0) (by omega) h).mpr (by omega))]
    exact ⟨fun q => absurd q (by decide), fun q => absurd q c⟩
theorem lg_neg {v : Int64} (h : v < 0) : lg_cmp v 0 = -1 := by
  unfold lg_cmp
  have h1 := h
  rw [Int64.lt_iff_toInt_lt] at h1
  rw [if_neg (show ¬ v > 0 from fun q => by
    have q' : (0 : Int64) < v := q
    rw [Int64.lt_iff_toInt_lt] at q'
    omega), if_neg (fun q => by
    rw [q] at h1
    omega)]
theorem q_dig {N : Nat} (h : N < 2 ^ 63) : (lN N - lN N / 31 * 31).toInt32 = nI (N % 31) := by
  rw [show (31 : Int64) = lN 31 from rfl, pk_lRem h (by omega) (by omega), lN_i]
theorem q_nxt {N : Nat} (h : N < 2 ^ 63) : lN N / 31 = lN (N / 31) := by
  rw [show (31 : Int64) = lN 31 from rfl, pk_lDiv h (by omega) (by omega)]
theorem k_rd : ∀ (F n i N : Nat) (μ : mT), i + F = 8 → F < n → N < 2 ^ 63 →
    ∃ μ', f_X7_readList_L8 (fun v6 v7 μ8 => if lg_cmp v6 0 = 0 then some (v7, μ8) else some (0, μ8)) n (lN N) (nI i) (nI i) μ = some ((match rd F N with | some l => nI (i + l.length) | none => 0), μ') ∧ (∀ x, x < i → μ' 26 0 x = μ 26 0 x) ∧ (∀ l, rd F N = some l → ∀ k w, l[k]? = some w → μ' 26 0 (i + k) = nI w) ∧ only μ μ' (fun κ j => κ = 26 ∧ j = 0) := by
  intro F
  induction F with
  | zero =>
    intro n i N μ hi hn hN
    obtain ⟨n, rfl⟩ : ∃ n', n = n' + 1 := ⟨n - 1, by omega⟩
    rw [f_X7_readList_L8, z_l8, if_pos (nI_le (by omega) (by omega))]
    refine ⟨μ, ?_, fun _ _ => rfl, fun l e k w q => ?_, only.rf⟩
    · unfold rd
      by_cases c : N = 0
      · rw [if_pos c, if_pos ((lg_eq hN).mpr c)]
        rfl
      · rw [if_neg c, if_neg (fun q => c ((lg_eq hN).mp q))]
    · unfold rd at e
      split at e
      · cases e; simp at q
      · cases e
  | succ F ih =>
    intro n i N μ hi hn hN
    obtain ⟨n, rfl⟩ : ∃ n', n = n' + 1 := ⟨n - 1, by omega⟩
    rw [f_X7_readList_L8, z_l8, if_neg (nI_ge (by omega) (by omega))]
    unfold rd
    by_cases c : N = 0
    · rw [if_pos ((lg_le hN).mpr c), if_pos c, if_pos ((lg_eq hN).mpr c)]
      refine ⟨μ, rfl, fun _ _ => rfl, fun l e k w q => ?_, only.rf⟩
      cases e
      simp at q
    · rw [if_neg (fun q => c ((lg_le hN).mp q)), if_neg c, q_lt, q_dig hN]
      have hm := Nat.mod_lt N (show 0 < 31 by decide)
      by_cases c2 : N % 31 = 0
      · rw [if_pos (by rw [c2]; rfl), if_pos c2]
        exact ⟨μ, rfl, fun _ _ => rfl, fun l e => (by cases e), only.rf⟩
      · rw [if_neg (nI_ne0 (by omega) (by omega)), if_neg c2, q_gdi (by omega) (by omega), z_l1, q_sub (by omega), q_cl (by omega), q_lt, q_lt, q_lt, q_lt, q_nxt hN, q_add]
        obtain ⟨μ', a1, a2, a3, a4⟩ := ih n (i + 1) (N / 31) (upM μ 26 0 i (nI (N % 31 - 1))) (by omega) (by omega) (Nat.lt_of_le_of_lt (Nat.div_le_self _ _) hN)
        refine ⟨μ', ?_, fun x hx => ?_, fun l e k w q => ?_, only.tr (q_uple rfl) a4⟩
        · rw [a1]
          cases e : rd F (N / 31) with
          | none => rfl
          | some l =>
            dsimp only [Option.map_some]
            rw [List.length_cons, show i + 1 + l.length = i + (l.length + 1) by omega]
        · rw [a2 x (by omega), q_up, if_neg (by omega)]
        · cases e' : rd F (N / 31) with
          | none => rw [e'] at e; cases e
          | some l' =>
            rw [e'] at e
            cases e
            cases k with
            | zero =>
              simp at q
              rw [Nat.add_zero, a2 i (by omega), q_up, if_pos ⟨rfl, rfl, rfl⟩, q]
            | succ k =>
              rw [List.getElem?_cons_succ] at q
              have := a3 l' e' k w q
              rw [show i + (k + 1) = i + 1 + k by omega]
              exact this
theorem k_readList (a : Int64) (μ : mT) : ∃ μ', f_X7_readList a μ = some (nI (tLs a).length, μ') ∧ (∀ k w, (tLs a)[k]? = some w → μ' 26 0 k = nI w) ∧ only μ μ' (fun κ j => κ = 26 ∧ j = 0) := by
  unfold f_X7_readList
  rw [q_lt]
  by_cases c : a < 0
  · refine ⟨μ, ?_, ?_, only.rf⟩
    · rw [show fu = 3999 + 1 from rfl, f_X7_readList_L8, if_neg (by decide), lg_neg c, if_pos (by decide)]
      unfold tLs
      rw [if_pos c]
      rfl
    · unfold tLs
      rw [if_pos c]
      intro k w q
      simp at q
  · obtain ⟨N, hN, rfl⟩ := pk_lOf c
    obtain ⟨μ', a1, a2, a3, a4⟩ := k_rd 8 fu 0 N μ rfl (by unfold fu; omega) hN
    refine ⟨μ', ?_, ?_, a4⟩
    · rw [z_l0] at a1 ⊢
      rw [a1]
      unfold tLs
      rw [if_neg c, pk_lT hN, Int.toNat_natCast]
      cases rd 8 N with
      | none => rfl
      | some l => dsimp only [Option.getD_some]; rw [Nat.zero_add]
    · unfold tLs
      rw [if_neg c, pk_lT hN, Int.toNat_natCast]
      cases e : rd 8 N with
      | none => intro k w q; simp at q
      | some l =>
        intro k w q
        have := a3 l e k w q
        rwa [Nat.zero_add] at this
