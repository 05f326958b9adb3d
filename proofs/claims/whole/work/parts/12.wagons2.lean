def idx (w : Nat) : List Nat → Option Nat
  | [] => none
  | v :: l => if v = w then some 0 else (idx w l).map (· + 1)
theorem idx_some {w : Nat} : ∀ {l : List Nat} {i : Nat}, idx w l = some i → l[i]? = some w
  | [], i, h => by cases h
  | v :: l, i, h => by
    unfold idx at h
    split at h
    · cases h
      simp
      assumption
    · cases hl : idx w l with
      | none => rw [hl] at h; cases h
      | some k =>
        rw [hl] at h
        cases h
        simpa using idx_some hl
theorem idx_none {w : Nat} : ∀ {l : List Nat}, idx w l = none → w ∉ l
  | [], _ => by simp
  | v :: l, h => by
    unfold idx at h
    split at h
    · cases h
    · cases hl : idx w l with
      | some k => rw [hl] at h; cases h
      | none => simp; exact ⟨fun e => by rename_i hv; exact hv e.symm, idx_none hl⟩
def plc (d : List Nat) (w : Nat) : Int32 := match idx w d with
  | some i => nI i
  | none => -6
theorem nd_inj {d : List Nat} (h : d.Nodup) {i i' w : Nat} (h1 : d[i]? = some w) (h2 : d[i']? = some w) : i = i' := by
  exact (List.getElem?_inj (List.getElem?_eq_some_iff.mp h1).1 h).mp (h1.trans h2.symm)
theorem plc_at {d : List Nat} (h : d.Nodup) {i w : Nat} (h1 : d[i]? = some w) : plc d w = nI i := by
  unfold plc
  cases e : idx w d with
  | none => exact absurd (List.mem_of_getElem? h1) (idx_none e)
  | some k => rw [nd_inj h (idx_some e) h1]
theorem plc_out {d : List Nat} {w : Nat} (h : w ∉ d) : plc d w = -6 := by
  unfold plc
  cases e : idx w d with
  | none => rfl
  | some k => exact absurd (List.mem_of_getElem? (idx_some e)) h
def cw (r : Nat) (d : List Nat) : List Nat := if r = 8 then d else d.reverse
theorem cw_len (r : Nat) (d : List Nat) : (cw r d).length = d.length := by unfold cw; split <;> simp
theorem cw_mem {r : Nat} {d : List Nat} {w : Nat} : w ∈ cw r d ↔ w ∈ d := by unfold cw; split <;> simp
theorem cw_nd {r : Nat} {d : List Nat} (h : d.Nodup) : (cw r d).Nodup := by
  unfold cw
  split
  · exact h
  · exact List.pairwise_reverse.mpr (List.Pairwise.imp (fun h => Ne.symm h) h)
theorem k_place_in {j r : Nat} {μ : mT} {l : List Nat} (h : r < 9) (c : cRow μ j r l) (hl : l.length ≤ 30) (hw : ∀ w ∈ l, w < 30) (hn : l.Nodup) {K : Int32 → mT → Option (Int32 × mT)} {w k : Nat} (hk : l[k]? = some w) : ∀ (d n i : Nat), i + d = k → d < n →
    f_X5_placeIn_L10 j (nI r) (nI w) (nI l.length) K n (nI i) μ = K (nI k) μ := by
  have hw30 := hw w (List.mem_of_getElem? hk)
  have hkl := (List.getElem?_eq_some_iff.mp hk).1
  intro d
  induction d with
  | zero =>
    intro n i hi hd
    obtain ⟨n, rfl⟩ : ∃ n', n = n' + 1 := ⟨n - 1, by omega⟩
    rw [Nat.add_zero] at hi
    subst hi
    have hni : ¬ l.length ≤ i := by omega
    rw [f_X5_placeIn_L10]
    simp (disch := omega) only [q_n6b, q_lt, q_bd, q_gdi, q_cl, q_add, q_mul, ↓reduceIte, nI_eq, nI_leI, nI_ltI, z_l0, z_l1, z_l2, z_l3, z_l4, z_l5, z_l6, z_l7, z_l8, z_l9, z_l10, z_l11, z_l12, z_l13, z_l14, z_l15, z_l16, z_l17, z_l18, z_l19, z_l20, z_l21, z_l22, z_l23, z_l240, z_l270, z_l24, z_l30, z_l31, z_l32, z_l33, z_l40, z_l48, z_l57, z_l59, z_l60, z_l65, z_l80, z_l97, z_l112, z_l113, z_l114, z_l116, z_l119, z_l126, z_l255, z_l300, z_l330, z_l331, z_l332, z_l450, z_l500, z_l530, z_l531, z_l560, z_l999, z_l1000, z_l2000, z_l2800, z_l5000, hni, c.2 i w hk]
  | succ d ih =>
    intro n i hi hd
    obtain ⟨n, rfl⟩ : ∃ n', n = n' + 1 := ⟨n - 1, by omega⟩
    have hni : ¬ l.length ≤ i := by omega
    obtain ⟨v, hv⟩ : ∃ v, l[i]? = some v := ⟨_, List.getElem?_eq_getElem (by omega)⟩
    have hv30 := hw v (List.mem_of_getElem? hv)
    have hne : ¬ v = w := by
      rintro rfl
      have := nd_inj hn hv hk
      omega
    rw [f_X5_placeIn_L10]
    simp (disch := omega) only [q_n6b, q_lt, q_bd, q_gdi, q_cl, q_add, q_mul, ↓reduceIte, nI_eq, nI_leI, nI_ltI, z_l0, z_l1, z_l2, z_l3, z_l4, z_l5, z_l6, z_l7, z_l8, z_l9, z_l10, z_l11, z_l12, z_l13, z_l14, z_l15, z_l16, z_l17, z_l18, z_l19, z_l20, z_l21, z_l22, z_l23, z_l240, z_l270, z_l24, z_l30, z_l31, z_l32, z_l33, z_l40, z_l48, z_l57, z_l59, z_l60, z_l65, z_l80, z_l97, z_l112, z_l113, z_l114, z_l116, z_l119, z_l126, z_l255, z_l300, z_l330, z_l331, z_l332, z_l450, z_l500, z_l530, z_l531, z_l560, z_l999, z_l1000, z_l2000, z_l2800, z_l5000, hni, c.2 i v hv, hne]
    exact ih n (i + 1) (by omega) (by omega)
theorem k_place_out {j r : Nat} {μ : mT} {l : List Nat} (h : r < 9) (c : cRow μ j r l) (hl : l.length ≤ 30) (hw : ∀ w ∈ l, w < 30) {K : Int32 → mT → Option (Int32 × mT)} {a : Int32} (hk : ∀ w ∈ l, ¬ nI w = a) : ∀ (d n i : Nat), i + d = l.length → d < n →
    f_X5_placeIn_L10 j (nI r) a (nI l.length) K n (nI i) μ = some (-6, μ) := by
  intro d
  induction d with
  | zero =>
    intro n i hi hd
    obtain ⟨n, rfl⟩ : ∃ n', n = n' + 1 := ⟨n - 1, by omega⟩
    rw [f_X5_placeIn_L10, if_pos (nI_le (by omega) (by omega))]
  | succ d ih =>
    intro n i hi hd
    obtain ⟨n, rfl⟩ : ∃ n', n = n' + 1 := ⟨n - 1, by omega⟩
    have hni : ¬ l.length ≤ i := by omega
    obtain ⟨v, hv⟩ : ∃ v, l[i]? = some v := ⟨_, List.getElem?_eq_getElem (by omega)⟩
    have hv30 := hw v (List.mem_of_getElem? hv)
    have hne := hk v (List.mem_of_getElem? hv)
    rw [f_X5_placeIn_L10]
    simp (disch := omega) only [q_n6b, q_lt, q_bd, q_gdi, q_cl, q_add, q_mul, ↓reduceIte, nI_eq, nI_leI, nI_ltI, z_l0, z_l1, z_l2, z_l3, z_l4, z_l5, z_l6, z_l7, z_l8, z_l9, z_l10, z_l11, z_l12, z_l13, z_l14, z_l15, z_l16, z_l17, z_l18, z_l19, z_l20, z_l21, z_l22, z_l23, z_l240, z_l270, z_l24, z_l30, z_l31, z_l32, z_l33, z_l40, z_l48, z_l57, z_l59, z_l60, z_l65, z_l80, z_l97, z_l112, z_l113, z_l114, z_l116, z_l119, z_l126, z_l255, z_l300, z_l330, z_l331, z_l332, z_l450, z_l500, z_l530, z_l531, z_l560, z_l999, z_l1000, z_l2000, z_l2800, z_l5000, hni, c.2 i v hv, hne]
    exact ih n (i + 1) (by omega) (by omega)
theorem k_placeIn {j r w : Nat} {μ : mT} {d : List Nat} (h : r < 9) (c : cRow μ j r (cw r d)) (hl : d.length ≤ 30) (hw : ∀ w ∈ d, w < 30) (hn : d.Nodup) (hw30 : w < 2147483648) : f_X5_placeIn j (nI r) (nI w) μ = some (plc d w, μ) := by
  unfold f_X5_placeIn
  have hw' : ∀ w ∈ cw r d, w < 30 := fun w hh => hw w (cw_mem.mp hh)
  have hl' : (cw r d).length ≤ 30 := by rw [cw_len]; exact hl
  simp (disch := omega) only [q_lt, q_gdi, q_cl, c.1, z_l0]
  cases e : idx w d with
  | none =>
    rw [k_place_out h c hl' hw' (a := nI w) (fun v hv q => ?_) _ fu 0 (Nat.zero_add _) (by unfold fu; omega), plc_out (idx_none e)]
    rw [nI_eq (by have := hw' v hv; omega) hw30] at q
    subst q
    exact idx_none e (cw_mem.mp hv)
  | some p =>
    have hp := idx_some e
    have hpl := (List.getElem?_eq_some_iff.mp hp).1
    rw [plc_at hn hp]
    by_cases h8 : r = 8
    · have hk : (cw r d)[p]? = some w := by unfold cw; rw [if_pos h8]; exact hp
      rw [k_place_in h c hl' hw' (cw_nd hn) hk p fu 0 (Nat.zero_add _) (by unfold fu; omega)]
      subst h8
      rfl
    · have hk : (cw r d)[d.length - 1 - p]? = some w := by
        unfold cw
        rw [if_neg h8, List.getElem?_reverse (by omega)]
        rw [show d.length - 1 - (d.length - 1 - p) = p by omega]
        exact hp
      rw [k_place_in h c hl' hw' (cw_nd hn) hk _ fu 0 (Nat.zero_add _) (by unfold fu; omega), if_neg, cw_len]
      · simp (disch := omega) only [z_l0, z_l1, z_l2, z_l3, z_l4, z_l5, z_l6, z_l7, z_l8, z_l9, z_l10, z_l11, z_l12, z_l13, z_l14, z_l15, z_l16, z_l17, z_l18, z_l19, z_l20, z_l21, z_l22, z_l23, z_l240, z_l270, z_l24, z_l30, z_l31, z_l32, z_l33, z_l40, z_l48, z_l57, z_l59, z_l60, z_l65, z_l80, z_l97, z_l112, z_l113, z_l114, z_l116, z_l119, z_l126, z_l255, z_l300, z_l330, z_l331, z_l332, z_l450, z_l500, z_l530, z_l531, z_l560, z_l999, z_l1000, z_l2000, z_l2800, z_l5000, q_sub]
        congr 3
        omega
      · rw [z_l8, nI_eq (by omega) (by omega)]
        exact h8
theorem k_placeIn_n6 {j r : Nat} {μ : mT} {d : List Nat} (h : r < 9) (c : cRow μ j r (cw r d)) (hl : d.length ≤ 30) (hw : ∀ w ∈ d, w < 30) : f_X5_placeIn j (nI r) (-6) μ = some (-6, μ) := by
  unfold f_X5_placeIn
  have hw' : ∀ w ∈ cw r d, w < 30 := fun w hh => hw w (cw_mem.mp hh)
  have hl' : (cw r d).length ≤ 30 := by rw [cw_len]; exact hl
  simp (disch := omega) only [q_lt, q_gdi, q_cl, c.1, z_l0]
  rw [k_place_out h c hl' hw' (a := -6) (fun v hv q => ?_) _ fu 0 (Nat.zero_add _) (by unfold fu; omega)]
  exact q_n6 (by have := hw' v hv; omega) q
def cRows (μ : mT) (j : Nat) (rw : Nat → List Nat) : Prop := ∀ r, r < 9 → cRow μ j r (cw r (rw r))
def rOK (rw : Nat → List Nat) : Prop := ∀ r, r < 9 → (rw r).length ≤ 30 ∧ (∀ w ∈ rw r, w < 30) ∧ (rw r).Nodup
theorem k_rowOf_in {j w r : Nat} {μ : mT} {rw : Nat → List Nat} (c : cRows μ j rw) (ho : rOK rw) (hr : r < 9) (hw : w ∈ rw r) (hu : ∀ r', r' < r → w ∉ rw r') : ∀ (d n i : Nat), i + d = r → d < n →
    f_X5_rowOf_L2 j (nI w) n (nI i) μ = some (nI r, μ) := by
  intro d
  have hw30 := (ho r hr).2.1 w hw
  induction d with
  | zero =>
    intro n i hi hd
    obtain ⟨n, rfl⟩ : ∃ n', n = n' + 1 := ⟨n - 1, by omega⟩
    rw [Nat.add_zero] at hi
    subst hi
    obtain ⟨p, hp⟩ := List.getElem?_of_mem hw
    have hpl := (List.getElem?_eq_some_iff.mp hp).1
    have h30 := (ho i hr).1
    have hni : ¬ 9 ≤ i := by omega
    rw [f_X5_rowOf_L2, k_placeIn hr (c i hr) h30 (ho i hr).2.1 (ho i hr).2.2 (by omega), plc_at (ho i hr).2.2 hp]
    simp (disch := omega) only [q_n6b, q_lt, q_bd, q_gdi, q_cl, q_add, q_mul, ↓reduceIte, nI_eq, nI_leI, nI_ltI, z_l0, z_l1, z_l2, z_l3, z_l4, z_l5, z_l6, z_l7, z_l8, z_l9, z_l10, z_l11, z_l12, z_l13, z_l14, z_l15, z_l16, z_l17, z_l18, z_l19, z_l20, z_l21, z_l22, z_l23, z_l240, z_l270, z_l24, z_l30, z_l31, z_l32, z_l33, z_l40, z_l48, z_l57, z_l59, z_l60, z_l65, z_l80, z_l97, z_l112, z_l113, z_l114, z_l116, z_l119, z_l126, z_l255, z_l300, z_l330, z_l331, z_l332, z_l450, z_l500, z_l530, z_l531, z_l560, z_l999, z_l1000, z_l2000, z_l2800, z_l5000, hni, q_n6]
  | succ d ih =>
    intro n i hi hd
    obtain ⟨n, rfl⟩ : ∃ n', n = n' + 1 := ⟨n - 1, by omega⟩
    have hni : ¬ 9 ≤ i := by omega
    rw [f_X5_rowOf_L2, k_placeIn (by omega) (c i (by omega)) (ho i (by omega)).1 (ho i (by omega)).2.1 (ho i (by omega)).2.2 (by omega), plc_out (hu i (by omega))]
    simp (disch := omega) only [q_n6b, q_lt, q_bd, q_gdi, q_cl, q_add, q_mul, ↓reduceIte, nI_eq, nI_leI, nI_ltI, z_l0, z_l1, z_l2, z_l3, z_l4, z_l5, z_l6, z_l7, z_l8, z_l9, z_l10, z_l11, z_l12, z_l13, z_l14, z_l15, z_l16, z_l17, z_l18, z_l19, z_l20, z_l21, z_l22, z_l23, z_l240, z_l270, z_l24, z_l30, z_l31, z_l32, z_l33, z_l40, z_l48, z_l57, z_l59, z_l60, z_l65, z_l80, z_l97, z_l112, z_l113, z_l114, z_l116, z_l119, z_l126, z_l255, z_l300, z_l330, z_l331, z_l332, z_l450, z_l500, z_l530, z_l531, z_l560, z_l999, z_l1000, z_l2000, z_l2800, z_l5000, hni]
    exact ih n (i + 1) (by omega) (by omega)
theorem k_rowOf_out {j w : Nat} {μ : mT} {rw : Nat → List Nat} (c : cRows μ j rw) (ho : rOK rw) (hw : w < 2147483648) (hu : ∀ r', r' < 9 → w ∉ rw r') : ∀ (d n i : Nat), i + d = 9 → d < n →
    f_X5_rowOf_L2 j (nI w) n (nI i) μ = some (-6, μ) := by
  intro d
  induction d with
  | zero =>
    intro n i hi hd
    obtain ⟨n, rfl⟩ : ∃ n', n = n' + 1 := ⟨n - 1, by omega⟩
    rw [f_X5_rowOf_L2, if_pos]
    rw [z_l9]
    exact nI_le (by omega) (by omega)
  | succ d ih =>
    intro n i hi hd
    obtain ⟨n, rfl⟩ : ∃ n', n = n' + 1 := ⟨n - 1, by omega⟩
    have hni : ¬ 9 ≤ i := by omega
    rw [f_X5_rowOf_L2, k_placeIn (by omega) (c i (by omega)) (ho i (by omega)).1 (ho i (by omega)).2.1 (ho i (by omega)).2.2 (by omega), plc_out (hu i (by omega))]
    simp (disch := omega) only [q_n6b, q_lt, q_bd, q_gdi, q_cl, q_add, q_mul, ↓reduceIte, nI_eq, nI_leI, nI_ltI, z_l0, z_l1, z_l2, z_l3, z_l4, z_l5, z_l6, z_l7, z_l8, z_l9, z_l10, z_l11, z_l12, z_l13, z_l14, z_l15, z_l16, z_l17, z_l18, z_l19, z_l20, z_l21, z_l22, z_l23, z_l240, z_l270, z_l24, z_l30, z_l31, z_l32, z_l33, z_l40, z_l48, z_l57, z_l59, z_l60, z_l65, z_l80, z_l97, z_l112, z_l113, z_l114, z_l116, z_l119, z_l126, z_l255, z_l300, z_l330, z_l331, z_l332, z_l450, z_l500, z_l530, z_l531, z_l560, z_l999, z_l1000, z_l2000, z_l2800, z_l5000, hni]
    exact ih n (i + 1) (by omega) (by omega)
theorem k_rowOf_n6 {j : Nat} {μ : mT} {rw : Nat → List Nat} (c : cRows μ j rw) (ho : rOK rw) : ∀ (d n i : Nat), i + d = 9 → d < n →
    f_X5_rowOf_L2 j (-6) n (nI i) μ = some (-6, μ) := by
  intro d
  induction d with
  | zero =>
    intro n i hi hd
    obtain ⟨n, rfl⟩ : ∃ n', n = n' + 1 := ⟨n - 1, by omega⟩
    rw [f_X5_rowOf_L2, if_pos]
    rw [z_l9]
    exact nI_le (by omega) (by omega)
  | succ d ih =>
    intro n i hi hd
    obtain ⟨n, rfl⟩ : ∃ n', n = n' + 1 := ⟨n - 1, by omega⟩
    have hni : ¬ 9 ≤ i := by omega
    rw [f_X5_rowOf_L2, k_placeIn_n6 (by omega) (c i (by omega)) (ho i (by omega)).1 (ho i (by omega)).2.1]
    simp (disch := omega) only [q_n6b, q_lt, q_bd, q_gdi, q_cl, q_add, q_mul, ↓reduceIte, nI_eq, nI_leI, nI_ltI, z_l0, z_l1, z_l2, z_l3, z_l4, z_l5, z_l6, z_l7, z_l8, z_l9, z_l10, z_l11, z_l12, z_l13, z_l14, z_l15, z_l16, z_l17, z_l18, z_l19, z_l20, z_l21, z_l22, z_l23, z_l240, z_l270, z_l24, z_l30, z_l31, z_l32, z_l33, z_l40, z_l48, z_l57, z_l59, z_l60, z_l65, z_l80, z_l97, z_l112, z_l113, z_l114, z_l116, z_l119, z_l126, z_l255, z_l300, z_l330, z_l331, z_l332, z_l450, z_l500, z_l530, z_l531, z_l560, z_l999, z_l1000, z_l2000, z_l2800, z_l5000, hni]
    exact ih n (i + 1) (by omega) (by omega)
def rFind (rw : Nat → List Nat) (w : Nat) : Nat → Nat → Option Nat
  | 0, _ => none
  | n + 1, r => if w ∈ rw r then some r else rFind rw w n (r + 1)
theorem rFind_some {rw : Nat → List Nat} {w : Nat} : ∀ {n r k : Nat}, rFind rw w n r = some k → r ≤ k ∧ k < r + n ∧ w ∈ rw k ∧ ∀ r', r ≤ r' → r' < k → w ∉ rw r'
  | 0, r, k, h => by cases h
  | n + 1, r, k, h => by
    unfold rFind at h
    split at h
    · cases h
      exact ⟨Nat.le_refl _, by omega, by assumption, fun r' h1 h2 => by omega⟩
    · obtain ⟨a, b, c, d⟩ := rFind_some h
      refine ⟨by omega, by omega, c, fun r' h1 h2 => ?_⟩
      by_cases e : r' = r
      · subst e; assumption
      · exact d r' (by omega) h2
theorem rFind_none {rw : Nat → List Nat} {w : Nat} : ∀ {n r : Nat}, rFind rw w n r = none → ∀ r', r ≤ r' → r' < r + n → w ∉ rw r'
  | 0, r, h => fun r' h1 h2 => by omega
  | n + 1, r, h => fun r' h1 h2 => by
    unfold rFind at h
    split at h
    · cases h
    · by_cases e : r' = r
      · subst e; assumption
      · exact rFind_none h r' (by omega) (by omega)
/-- the row of a wagon (8: the engine), as the class tells it -/
def rOf (rw : Nat → List Nat) (w : Nat) : Int32 := match rFind rw w 9 0 with
  | some r => nI r
  | none => -6
theorem k_rowOf {j w : Nat} {μ : mT} {rw : Nat → List Nat} (c : cRows μ j rw) (ho : rOK rw) (hw : w < 2147483648) : f_X5_rowOf j (nI w) μ = some (rOf rw w, μ) := by
  unfold f_X5_rowOf rOf
  cases e : rFind rw w 9 0 with
  | none => exact k_rowOf_out c ho hw (fun r' h => rFind_none e r' (Nat.zero_le _) (by omega)) 9 fu 0 rfl (by unfold fu; omega)
  | some r =>
    obtain ⟨a, b, h1, h2⟩ := rFind_some e
    exact k_rowOf_in c ho (by omega) h1 (fun r' h => h2 r' (Nat.zero_le _) h) r fu 0 (Nat.zero_add _) (by unfold fu; omega)
theorem k_rowOfN {j : Nat} {μ : mT} {rw : Nat → List Nat} (c : cRows μ j rw) (ho : rOK rw) : f_X5_rowOf j (-6) μ = some (-6, μ) := by
  unfold f_X5_rowOf
  exact k_rowOf_n6 c ho 9 fu 0 rfl (by unfold fu; omega)
def atN (d : List Nat) (p : Nat) : Int32 := match d[p]? with
  | some w => nI w
  | none => -6
theorem k_wagonAt {j r p : Nat} {μ : mT} {d : List Nat} (h : r < 9) (c : cRow μ j r (cw r d)) (hl : d.length ≤ 30) (hp : p < 2147483648) : f_X5_wagonAt j (nI r) (nI p) μ = some (atN d p, μ) := by
  unfold f_X5_wagonAt atN
  have h0 : ¬ p < 0 := Nat.not_lt_zero p
  by_cases hpl : p < d.length
  · obtain ⟨w, hw⟩ : ∃ w, d[p]? = some w := ⟨_, List.getElem?_eq_getElem hpl⟩
    simp (disch := omega) only [q_n6b, q_lt, q_bd, q_gdi, q_cl, q_add, q_mul, ↓reduceIte, nI_eq, nI_leI, nI_ltI, z_l0, z_l1, z_l2, z_l3, z_l4, z_l5, z_l6, z_l7, z_l8, z_l9, z_l10, z_l11, z_l12, z_l13, z_l14, z_l15, z_l16, z_l17, z_l18, z_l19, z_l20, z_l21, z_l22, z_l23, z_l240, z_l270, z_l24, z_l30, z_l31, z_l32, z_l33, z_l40, z_l48, z_l57, z_l59, z_l60, z_l65, z_l80, z_l97, z_l112, z_l113, z_l114, z_l116, z_l119, z_l126, z_l255, z_l300, z_l330, z_l331, z_l332, z_l450, z_l500, z_l530, z_l531, z_l560, z_l999, z_l1000, z_l2000, z_l2800, z_l5000, c.1, cw_len, h0, hpl, hw]
    by_cases h8 : r = 8
    · have hk : (cw r d)[p]? = some w := by unfold cw; rw [if_pos h8]; exact hw
      simp (disch := omega) only [q_n6b, q_lt, q_bd, q_gdi, q_cl, q_add, q_mul, ↓reduceIte, nI_eq, nI_leI, nI_ltI, z_l0, z_l1, z_l2, z_l3, z_l4, z_l5, z_l6, z_l7, z_l8, z_l9, z_l10, z_l11, z_l12, z_l13, z_l14, z_l15, z_l16, z_l17, z_l18, z_l19, z_l20, z_l21, z_l22, z_l23, z_l240, z_l270, z_l24, z_l30, z_l31, z_l32, z_l33, z_l40, z_l48, z_l57, z_l59, z_l60, z_l65, z_l80, z_l97, z_l112, z_l113, z_l114, z_l116, z_l119, z_l126, z_l255, z_l300, z_l330, z_l331, z_l332, z_l450, z_l500, z_l530, z_l531, z_l560, z_l999, z_l1000, z_l2000, z_l2800, z_l5000, h8]
      subst h8
      rw [c.2 p w hk]
    · have hk : (cw r d)[d.length - 1 - p]? = some w := by
        unfold cw
        rw [if_neg h8, List.getElem?_reverse (by omega)]
        rw [show d.length - 1 - (d.length - 1 - p) = p by omega]
        exact hw
      simp (disch := omega) only [q_n6b, q_lt, q_bd, q_gdi, q_cl, q_add, q_mul, ↓reduceIte, nI_eq, nI_leI, nI_ltI, z_l0, z_l1, z_l2, z_l3, z_l4, z_l5, z_l6, z_l7, z_l8, z_l9, z_l10, z_l11, z_l12, z_l13, z_l14, z_l15, z_l16, z_l17, z_l18, z_l19, z_l20, z_l21, z_l22, z_l23, z_l240, z_l270, z_l24, z_l30, z_l31, z_l32, z_l33, z_l40, z_l48, z_l57, z_l59, z_l60, z_l65, z_l80, z_l97, z_l112, z_l113, z_l114, z_l116, z_l119, z_l126, z_l255, z_l300, z_l330, z_l331, z_l332, z_l450, z_l500, z_l530, z_l531, z_l560, z_l999, z_l1000, z_l2000, z_l2800, z_l5000, h8, q_sub]
      rw [c.2 _ w hk]
  · simp (disch := omega) only [q_n6b, q_lt, q_bd, q_gdi, q_cl, q_add, q_mul, ↓reduceIte, nI_eq, nI_leI, nI_ltI, z_l0, z_l1, z_l2, z_l3, z_l4, z_l5, z_l6, z_l7, z_l8, z_l9, z_l10, z_l11, z_l12, z_l13, z_l14, z_l15, z_l16, z_l17, z_l18, z_l19, z_l20, z_l21, z_l22, z_l23, z_l240, z_l270, z_l24, z_l30, z_l31, z_l32, z_l33, z_l40, z_l48, z_l57, z_l59, z_l60, z_l65, z_l80, z_l97, z_l112, z_l113, z_l114, z_l116, z_l119, z_l126, z_l255, z_l300, z_l330, z_l331, z_l332, z_l450, z_l500, z_l530, z_l531, z_l560, z_l999, z_l1000, z_l2000, z_l2800, z_l5000, c.1, cw_len, h0, hpl, List.getElem?_eq_none (Nat.le_of_not_lt hpl)]
theorem k_wagonAt_neg {j : Nat} {a p : Int32} {μ : mT} (hp : p < 0) : f_X5_wagonAt j a p μ = some (-6, μ) := by
  unfold f_X5_wagonAt
  rw [if_pos hp]
theorem k_lenWagon {j w n : Nat} {μ : mT} (hn : μ 1 j 0 = nI n) (hn30 : n ≤ 30) (hw : w < n) : f_X5_lengthOfWagon j (nI w) μ = some (μ 8 j w, μ) := by
  unfold f_X5_lengthOfWagon
  have h0 : ¬ w < 0 := Nat.not_lt_zero w
  have h1 : ¬ n ≤ w := by omega
  simp (disch := omega) only [q_n6b, q_lt, q_bd, q_gdi, q_cl, q_add, q_mul, ↓reduceIte, nI_eq, nI_leI, nI_ltI, z_l0, z_l1, z_l2, z_l3, z_l4, z_l5, z_l6, z_l7, z_l8, z_l9, z_l10, z_l11, z_l12, z_l13, z_l14, z_l15, z_l16, z_l17, z_l18, z_l19, z_l20, z_l21, z_l22, z_l23, z_l240, z_l270, z_l24, z_l30, z_l31, z_l32, z_l33, z_l40, z_l48, z_l57, z_l59, z_l60, z_l65, z_l80, z_l97, z_l112, z_l113, z_l114, z_l116, z_l119, z_l126, z_l255, z_l300, z_l330, z_l331, z_l332, z_l450, z_l500, z_l530, z_l531, z_l560, z_l999, z_l1000, z_l2000, z_l2800, z_l5000, hn, h0, h1]
