def cB (μ : mT) (j : Nat) (bl : List (Int32 × Int32)) : Prop := μ 2 j 0 = nI bl.length ∧ ∀ i b, bl[i]? = some b → μ 13 j i = b.1 ∧ μ 14 j i = b.2
theorem cB.cong {μ μ' : mT} {j : Nat} {bl : List (Int32 × Int32)} (h : cB μ j bl) (h1 : μ' 2 j = μ 2 j) (h2 : μ' 13 j = μ 13 j) (h3 : μ' 14 j = μ 14 j) : cB μ' j bl := by
  unfold cB
  rw [h1, h2, h3]
  exact h
def ob (m t : Int32) (b : Int32 × Int32) : Int32 := if t + m ≤ b.1 then t else if b.2 ≤ t then t else b.2
def pas (m t : Int32) (bl : List (Int32 × Int32)) : Int32 := bl.foldl (ob m) t
def pasN (m : Int32) (bl : List (Int32 × Int32)) : Nat → Int32 → Int32
  | 0, t => t
  | n + 1, t => pasN m bl n (pas m t bl)
def free (m : Int32) (bl : List (Int32 × Int32)) (t : Int32) : Int32 := pasN m bl bl.length t
theorem drop_cons_of' {α : Type} {l : List α} {i : Nat} {w : α} (h : l[i]? = some w) : l.drop i = w :: l.drop (i + 1) := by
  obtain ⟨h1, h2⟩ := List.getElem?_eq_some_iff.mp h
  rw [← h2]
  exact List.drop_eq_getElem_cons h1
theorem k_ff1 {j : Nat} {m v2 : Int32} {bl : List (Int32 × Int32)} {μ : mT} (c : cB μ j bl) (hl : bl.length ≤ 10) {K : Int32 → mT → Option (Int32 × mT)} : ∀ (d n i : Nat) (t : Int32), i + d = bl.length → d < n →
    f_X0_firstFree_L17 j m v2 K n t (nI i) μ = K ((bl.drop i).foldl (ob m) t) μ := by
  intro d
  induction d with
  | zero =>
    intro n i t hi hd
    obtain ⟨n, rfl⟩ : ∃ n', n = n' + 1 := ⟨n - 1, by omega⟩
    rw [f_X0_firstFree_L17, if_pos (by rw [c.1]; exact nI_le (by omega) (by omega)), List.drop_eq_nil_of_le (by omega)]
    rfl
  | succ d ih =>
    intro n i t hi hd
    obtain ⟨n, rfl⟩ : ∃ n', n = n' + 1 := ⟨n - 1, by omega⟩
    have hni : ¬ bl.length ≤ i := by omega
    obtain ⟨b, hb⟩ : ∃ b, bl[i]? = some b := ⟨_, List.getElem?_eq_getElem (by omega)⟩
    obtain ⟨b1, b2⟩ := c.2 i b hb
    rw [f_X0_firstFree_L17, drop_cons_of' hb, List.foldl_cons]
    simp (disch := omega) only [q_n6b, q_lt, q_bd, q_gdi, q_cl, q_add, q_mul, ↓reduceIte, nI_eq, nI_leI, nI_ltI, z_l0, z_l1, z_l2, z_l3, z_l4, z_l5, z_l6, z_l7, z_l8, z_l9, z_l10, z_l11, z_l12, z_l13, z_l14, z_l15, z_l16, z_l17, z_l18, z_l19, z_l20, z_l21, z_l22, z_l23, z_l240, z_l270, z_l24, z_l30, z_l31, z_l32, z_l33, z_l40, z_l48, z_l57, z_l59, z_l60, z_l65, z_l80, z_l97, z_l112, z_l113, z_l114, z_l116, z_l119, z_l126, z_l255, z_l300, z_l330, z_l331, z_l332, z_l450, z_l500, z_l530, z_l531, z_l560, z_l999, z_l1000, z_l2000, z_l2800, z_l5000, c.1, hni, b1, b2]
    by_cases e1 : t + m ≤ b.1
    · rw [if_pos e1, ih n (i + 1) _ (by omega) (by omega)]
      unfold ob
      rw [if_pos e1]
    · rw [if_neg e1]
      by_cases e2 : b.2 ≤ t
      · rw [if_pos e2, ih n (i + 1) _ (by omega) (by omega)]
        unfold ob
        rw [if_neg e1, if_pos e2]
      · rw [if_neg e2, ih n (i + 1) _ (by omega) (by omega)]
        unfold ob
        rw [if_neg e1, if_neg e2]
theorem k_ff2 {j : Nat} {m : Int32} {bl : List (Int32 × Int32)} {μ : mT} (c : cB μ j bl) (hl : bl.length ≤ 10) : ∀ (d n i : Nat) (t : Int32), i + d = bl.length → d < n →
    f_X0_firstFree_L5 j m n t (nI i) μ = some (pasN m bl d t, μ) := by
  intro d
  induction d with
  | zero =>
    intro n i t hi hd
    obtain ⟨n, rfl⟩ : ∃ n', n = n' + 1 := ⟨n - 1, by omega⟩
    rw [f_X0_firstFree_L5, if_pos (by rw [c.1]; exact nI_le (by omega) (by omega))]
    rfl
  | succ d ih =>
    intro n i t hi hd
    obtain ⟨n, rfl⟩ : ∃ n', n = n' + 1 := ⟨n - 1, by omega⟩
    have hni : ¬ bl.length ≤ i := by omega
    rw [f_X0_firstFree_L5]
    simp (disch := omega) only [q_n6b, q_lt, q_bd, q_gdi, q_cl, q_add, q_mul, ↓reduceIte, nI_eq, nI_leI, nI_ltI, z_l0, z_l1, z_l2, z_l3, z_l4, z_l5, z_l6, z_l7, z_l8, z_l9, z_l10, z_l11, z_l12, z_l13, z_l14, z_l15, z_l16, z_l17, z_l18, z_l19, z_l20, z_l21, z_l22, z_l23, z_l240, z_l270, z_l24, z_l30, z_l31, z_l32, z_l33, z_l40, z_l48, z_l57, z_l59, z_l60, z_l65, z_l80, z_l97, z_l112, z_l113, z_l114, z_l116, z_l119, z_l126, z_l255, z_l300, z_l330, z_l331, z_l332, z_l450, z_l500, z_l530, z_l531, z_l560, z_l999, z_l1000, z_l2000, z_l2800, z_l5000, c.1, hni]
    rw [k_ff1 c hl bl.length fu 0 t (by omega) (by unfold fu; omega), ih n (i + 1) _ (by omega) (by omega)]
    rfl
theorem k_firstFree {j : Nat} {m t : Int32} {bl : List (Int32 × Int32)} {μ : mT} (c : cB μ j bl) (hl : bl.length ≤ 10) : f_X0_firstFree j t m μ = some (free m bl t, μ) := by
  unfold f_X0_firstFree
  exact k_ff2 c hl bl.length fu 0 t (by omega) (by unfold fu; omega)
theorem k_badd {j : Nat} {x y : Int32} {bl : List (Int32 × Int32)} {μ : mT} (c : cB μ j bl) (hl : bl.length < 10) :
    ∃ μ', f_X0_add j x y μ = some (nI (bl.length + 1), μ') ∧ cB μ' j (bl ++ [(x, y)]) ∧ only μ μ' (fun κ j' => (κ = 2 ∨ κ = 13 ∨ κ = 14) ∧ j' = j) := by
  refine ⟨upM (upM (upM μ 13 j bl.length x) 14 j bl.length y) 2 j 0 (nI (bl.length + 1)), ?_, ⟨?_, fun i b hi => ?_⟩, only.tr ((q_uple rfl).w (by omega)) (only.tr ((q_uple rfl).w (by omega)) ((q_uple rfl).w (by omega)))⟩
  · unfold f_X0_add
    simp (disch := omega) only [q_n6b, q_lt, q_bd, q_gdi, q_cl, q_add, q_mul, ↓reduceIte, nI_eq, nI_leI, nI_ltI, z_l0, z_l1, z_l2, z_l3, z_l4, z_l5, z_l6, z_l7, z_l8, z_l9, z_l10, z_l11, z_l12, z_l13, z_l14, z_l15, z_l16, z_l17, z_l18, z_l19, z_l20, z_l21, z_l22, z_l23, z_l240, z_l270, z_l24, z_l30, z_l31, z_l32, z_l33, z_l40, z_l48, z_l57, z_l59, z_l60, z_l65, z_l80, z_l97, z_l112, z_l113, z_l114, z_l116, z_l119, z_l126, z_l255, z_l300, z_l330, z_l331, z_l332, z_l450, z_l500, z_l530, z_l531, z_l560, z_l999, z_l1000, z_l2000, z_l2800, z_l5000, c.1, q_up, Nat.reduceEqDiff, false_and, and_false, true_and, and_true, ↓reduceIte]
  · simp [q_up]
  · simp only [q_up, Nat.reduceEqDiff, false_and, and_false, true_and, and_true, ↓reduceIte]
    by_cases e : i = bl.length
    · subst e
      simp at hi
      simp [← hi]
    · have hil := (List.getElem?_eq_some_iff.mp hi).1
      simp at hil
      rw [List.getElem?_append_left (by omega)] at hi
      rw [if_neg (by omega), if_neg (by omega)]
      exact c.2 i b hi
def kp (t : Int32) (b : Int32 × Int32) : Bool := !decide (b.2 ≤ t)
theorem k_drop {j : Nat} {t : Int32} {bl : List (Int32 × Int32)} (hl : bl.length ≤ 10) : ∀ (d n i : Nat) (μ : mT) (kl : List (Int32 × Int32)), i + d = bl.length → d < n → kl.length ≤ i → μ 2 j 0 = nI bl.length → (∀ k b, kl[k]? = some b → μ 13 j k = b.1 ∧ μ 14 j k = b.2) → (∀ k b, i ≤ k → bl[k]? = some b → μ 13 j k = b.1 ∧ μ 14 j k = b.2) →
    ∃ μ', f_X0_dropEnded_L4 j t n (nI kl.length) (nI i) μ = some (0, μ') ∧ cB μ' j (kl ++ (bl.drop i).filter (kp t)) ∧ only μ μ' (fun κ j' => (κ = 2 ∨ κ = 13 ∨ κ = 14) ∧ j' = j) := by
  intro d
  induction d with
  | zero =>
    intro n i μ kl hi hd hk h2 c1 c2
    obtain ⟨n, rfl⟩ : ∃ n', n = n' + 1 := ⟨n - 1, by omega⟩
    refine ⟨upM μ 2 j 0 (nI kl.length), ?_, ⟨?_, fun k b hkb => ?_⟩, (q_uple rfl).w (by omega)⟩
    · rw [f_X0_dropEnded_L4, if_pos (by rw [h2]; exact nI_le (by omega) (by omega))]
      rfl
    · rw [List.drop_eq_nil_of_le (by omega)]
      simp [q_up]
    · rw [List.drop_eq_nil_of_le (by omega)] at hkb
      simp at hkb
      simp only [q_up, Nat.reduceEqDiff, false_and, and_false, true_and, and_true, ↓reduceIte]
      exact c1 k b hkb
  | succ d ih =>
    intro n i μ kl hi hd hk h2 c1 c2
    obtain ⟨n, rfl⟩ : ∃ n', n = n' + 1 := ⟨n - 1, by omega⟩
    have hni : ¬ bl.length ≤ i := by omega
    obtain ⟨b, hb⟩ : ∃ b, bl[i]? = some b := ⟨_, List.getElem?_eq_getElem (by omega)⟩
    obtain ⟨b1, b2⟩ := c2 i b (Nat.le_refl _) hb
    rw [f_X0_dropEnded_L4, drop_cons_of' hb, List.filter_cons]
    simp (disch := omega) only [q_n6b, q_lt, q_bd, q_gdi, q_cl, q_add, q_mul, ↓reduceIte, nI_eq, nI_leI, nI_ltI, z_l0, z_l1, z_l2, z_l3, z_l4, z_l5, z_l6, z_l7, z_l8, z_l9, z_l10, z_l11, z_l12, z_l13, z_l14, z_l15, z_l16, z_l17, z_l18, z_l19, z_l20, z_l21, z_l22, z_l23, z_l240, z_l270, z_l24, z_l30, z_l31, z_l32, z_l33, z_l40, z_l48, z_l57, z_l59, z_l60, z_l65, z_l80, z_l97, z_l112, z_l113, z_l114, z_l116, z_l119, z_l126, z_l255, z_l300, z_l330, z_l331, z_l332, z_l450, z_l500, z_l530, z_l531, z_l560, z_l999, z_l1000, z_l2000, z_l2800, z_l5000, h2, hni, b1, b2]
    by_cases e : b.2 ≤ t
    · rw [if_pos e, if_neg (by simp [kp, e])]
      exact ih n (i + 1) μ kl (by omega) (by omega) (by omega) h2 c1 (fun k b hk => c2 k b (by omega))
    · rw [if_neg e, if_pos (by simp [kp, e])]
      simp only [q_up, Nat.reduceEqDiff, false_and, and_false, true_and, and_true, ↓reduceIte, b2]
      generalize hμ : upM (upM μ 13 j kl.length b.1) 14 j kl.length b.2 = μ1
      have ho : only μ μ1 (fun κ j' => (κ = 2 ∨ κ = 13 ∨ κ = 14) ∧ j' = j) := by
        rw [← hμ]
        exact only.tr ((q_uple rfl).w (by omega)) ((q_uple rfl).w (by omega))
      obtain ⟨μ', g1, g2, g3⟩ := ih n (i + 1) μ1 (kl ++ [b]) (by omega) (by omega) (by simp; omega) (by rw [← hμ]; simp [q_up, h2]) (fun k b' hkb => by
        rw [← hμ]
        simp only [q_up, Nat.reduceEqDiff, false_and, and_false, true_and, and_true, ↓reduceIte]
        by_cases e' : k = kl.length
        · subst e'
          simp at hkb
          simp [hkb]
        · have hil := (List.getElem?_eq_some_iff.mp hkb).1
          simp at hil
          rw [List.getElem?_append_left (by omega)] at hkb
          rw [if_neg (by omega), if_neg (by omega)]
          exact c1 k b' hkb) (fun k b' hk' hkb => by
        rw [← hμ]
        simp only [q_up, Nat.reduceEqDiff, false_and, and_false, true_and, and_true, ↓reduceIte]
        rw [if_neg (by omega), if_neg (by omega)]
        exact c2 k b' (by omega) hkb)
      refine ⟨μ', ?_, ?_, ho.tr g3⟩
      · rw [List.length_append] at g1
        exact g1
      · simpa using g2
theorem k_dropEnded {j : Nat} {t : Int32} {bl : List (Int32 × Int32)} {μ : mT} (hl : bl.length ≤ 10) (c : cB μ j bl) :
    ∃ μ', f_X0_dropEnded j t μ = some (0, μ') ∧ cB μ' j (bl.filter (kp t)) ∧ only μ μ' (fun κ j' => (κ = 2 ∨ κ = 13 ∨ κ = 14) ∧ j' = j) := by
  obtain ⟨μ', g1, g2, g3⟩ := k_drop (j := j) (t := t) hl bl.length fu 0 μ [] (by omega) (by unfold fu; omega) (Nat.le_refl _) c.1 (fun k b h => by simp at h) (fun k b _ h => c.2 k b h)
  exact ⟨μ', g1, by simpa using g2, g3⟩
def cE (μ : mT) (j t : Nat) (e : Int32 × List Nat) : Prop := μ 15 j t = e.1 ∧ μ 16 j t = nI e.2.length ∧ ∀ k w, e.2[k]? = some w → μ 17 j (t * 8 + k) = nI w
def cT (μ : mT) (j : Nat) (tn : List (Int32 × List Nat)) : Prop := μ 3 j 0 = nI tn.length ∧ ∀ t e, tn[t]? = some e → cE μ j t e
theorem cT.cong {μ μ' : mT} {j : Nat} {tn : List (Int32 × List Nat)} (h : cT μ j tn) (h1 : μ' 3 j = μ 3 j) (h2 : μ' 15 j = μ 15 j) (h3 : μ' 16 j = μ 16 j) (h4 : μ' 17 j = μ 17 j) : cT μ' j tn := by
  unfold cT cE
  rw [h1, h2, h3, h4]
  exact h
def tOK (tn : List (Int32 × List Nat)) : Prop := tn.length ≤ 8 ∧ ∀ (t : Nat) (e : Int32 × List Nat), tn[t]? = some e → 1 ≤ e.2.length ∧ e.2.length ≤ 8 ∧ e.2.Nodup ∧ ∀ w ∈ e.2, w < 30
theorem k_has_in {j t : Nat} {tn : List (Int32 × List Nat)} {μ : mT} (c : cT μ j tn) (hl : tn.length ≤ 8) (ht : t < tn.length) : f_X3_has j (nI t) μ = some (1, μ) := by
  unfold f_X3_has
  have h0 : ¬ t < 0 := Nat.not_lt_zero t
  have h1 : ¬ tn.length ≤ t := by omega
  simp (disch := omega) only [q_n6b, q_lt, q_bd, q_gdi, q_cl, q_add, q_mul, ↓reduceIte, nI_eq, nI_leI, nI_ltI, z_l0, z_l1, z_l2, z_l3, z_l4, z_l5, z_l6, z_l7, z_l8, z_l9, z_l10, z_l11, z_l12, z_l13, z_l14, z_l15, z_l16, z_l17, z_l18, z_l19, z_l20, z_l21, z_l22, z_l23, z_l240, z_l270, z_l24, z_l30, z_l31, z_l32, z_l33, z_l40, z_l48, z_l57, z_l59, z_l60, z_l65, z_l80, z_l97, z_l112, z_l113, z_l114, z_l116, z_l119, z_l126, z_l255, z_l300, z_l330, z_l331, z_l332, z_l450, z_l500, z_l530, z_l531, z_l560, z_l999, z_l1000, z_l2000, z_l2800, z_l5000, c.1, h0, h1]
theorem k_has_out {j : Nat} {a : Int32} {tn : List (Int32 × List Nat)} {μ : mT} (c : cT μ j tn) (hl : tn.length ≤ 8) (ht : ∀ t, t < tn.length → ¬ a = nI t) : f_X3_has j a μ = some (0, μ) := by
  unfold f_X3_has
  by_cases h0 : a < 0
  · rw [if_pos h0]
  · rw [if_neg h0, if_pos]
    obtain ⟨t, h1, rfl⟩ := nI_of h0
    rw [c.1]
    refine nI_le ?_ h1
    rcases Nat.lt_or_ge t tn.length with h | h
    · exact absurd rfl (ht t h)
    · exact h
theorem k_sizeOf {j t : Nat} {e : Int32 × List Nat} {tn : List (Int32 × List Nat)} {μ : mT} (c : cT μ j tn) (hl : tn.length ≤ 8) (ht : tn[t]? = some e) : f_X3_sizeOf j (nI t) μ = some (nI e.2.length, μ) := by
  have htl := (List.getElem?_eq_some_iff.mp ht).1
  unfold f_X3_sizeOf
  rw [k_has_in c hl htl]
  have h1 : ¬ (1 = 0) := by omega
  simp (disch := omega) only [q_n6b, q_lt, q_bd, q_gdi, q_cl, q_add, q_mul, ↓reduceIte, nI_eq, nI_leI, nI_ltI, z_l0, z_l1, z_l2, z_l3, z_l4, z_l5, z_l6, z_l7, z_l8, z_l9, z_l10, z_l11, z_l12, z_l13, z_l14, z_l15, z_l16, z_l17, z_l18, z_l19, z_l20, z_l21, z_l22, z_l23, z_l240, z_l270, z_l24, z_l30, z_l31, z_l32, z_l33, z_l40, z_l48, z_l57, z_l59, z_l60, z_l65, z_l80, z_l97, z_l112, z_l113, z_l114, z_l116, z_l119, z_l126, z_l255, z_l300, z_l330, z_l331, z_l332, z_l450, z_l500, z_l530, z_l531, z_l560, z_l999, z_l1000, z_l2000, z_l2800, z_l5000, (c.2 t e ht).2.1, h1]
theorem k_wagonOf {j t p : Nat} {e : Int32 × List Nat} {tn : List (Int32 × List Nat)} {μ : mT} (c : cT μ j tn) (hl : tn.length ≤ 8) (ht : tn[t]? = some e) (he : e.2.length ≤ 8) (hp : p < 2147483648) : f_X3_wagonOf j (nI t) (nI p) μ = some (atN e.2 p, μ) := by
  have htl := (List.getElem?_eq_some_iff.mp ht).1
  unfold f_X3_wagonOf atN
  rw [k_has_in c hl htl]
  have h1 : ¬ (1 = 0) := by omega
  have h0 : ¬ p < 0 := Nat.not_lt_zero p
  by_cases hpl : p < e.2.length
  · obtain ⟨w, hw⟩ : ∃ w, e.2[p]? = some w := ⟨_, List.getElem?_eq_getElem hpl⟩
    have h2 : ¬ e.2.length ≤ p := by omega
    simp (disch := omega) only [q_n6b, q_lt, q_bd, q_gdi, q_cl, q_add, q_mul, ↓reduceIte, nI_eq, nI_leI, nI_ltI, z_l0, z_l1, z_l2, z_l3, z_l4, z_l5, z_l6, z_l7, z_l8, z_l9, z_l10, z_l11, z_l12, z_l13, z_l14, z_l15, z_l16, z_l17, z_l18, z_l19, z_l20, z_l21, z_l22, z_l23, z_l240, z_l270, z_l24, z_l30, z_l31, z_l32, z_l33, z_l40, z_l48, z_l57, z_l59, z_l60, z_l65, z_l80, z_l97, z_l112, z_l113, z_l114, z_l116, z_l119, z_l126, z_l255, z_l300, z_l330, z_l331, z_l332, z_l450, z_l500, z_l530, z_l531, z_l560, z_l999, z_l1000, z_l2000, z_l2800, z_l5000, (c.2 t e ht).2.1, h1, h0, h2, hw, (c.2 t e ht).2.2 p w hw]
  · have h2 : e.2.length ≤ p := by omega
    simp (disch := omega) only [q_n6b, q_lt, q_bd, q_gdi, q_cl, q_add, q_mul, ↓reduceIte, nI_eq, nI_leI, nI_ltI, z_l0, z_l1, z_l2, z_l3, z_l4, z_l5, z_l6, z_l7, z_l8, z_l9, z_l10, z_l11, z_l12, z_l13, z_l14, z_l15, z_l16, z_l17, z_l18, z_l19, z_l20, z_l21, z_l22, z_l23, z_l240, z_l270, z_l24, z_l30, z_l31, z_l32, z_l33, z_l40, z_l48, z_l57, z_l59, z_l60, z_l65, z_l80, z_l97, z_l112, z_l113, z_l114, z_l116, z_l119, z_l126, z_l255, z_l300, z_l330, z_l331, z_l332, z_l450, z_l500, z_l530, z_l531, z_l560, z_l999, z_l1000, z_l2000, z_l2800, z_l5000, (c.2 t e ht).2.1, h1, h0, h2, List.getElem?_eq_none h2]
theorem k_to_in {j t w k : Nat} {e : Int32 × List Nat} {tn : List (Int32 × List Nat)} {μ : mT} (c : cT μ j tn) (ho : tOK tn) (ht : tn[t]? = some e) {K : mT → Option (Int32 × mT)} (hk : e.2[k]? = some w) : ∀ (d n i : Nat), i + d = k → d < n →
    f_X3_trainOf_L12 j (nI w) (nI t) K n (nI i) μ = some (nI t, μ) := by
  have htl := (List.getElem?_eq_some_iff.mp ht).1
  have htl8 := ho.1
  obtain ⟨o1, o2, o3, o4⟩ := ho.2 t e ht
  have hkl := (List.getElem?_eq_some_iff.mp hk).1
  have hw30 := o4 w (List.mem_of_getElem? hk)
  intro d
  induction d with
  | zero =>
    intro n i hi hd
    obtain ⟨n, rfl⟩ : ∃ n', n = n' + 1 := ⟨n - 1, by omega⟩
    rw [Nat.add_zero] at hi
    subst hi
    have hni : ¬ e.2.length ≤ i := by omega
    rw [f_X3_trainOf_L12]
    simp (disch := omega) only [q_n6b, q_lt, q_bd, q_gdi, q_cl, q_add, q_mul, ↓reduceIte, nI_eq, nI_leI, nI_ltI, z_l0, z_l1, z_l2, z_l3, z_l4, z_l5, z_l6, z_l7, z_l8, z_l9, z_l10, z_l11, z_l12, z_l13, z_l14, z_l15, z_l16, z_l17, z_l18, z_l19, z_l20, z_l21, z_l22, z_l23, z_l240, z_l270, z_l24, z_l30, z_l31, z_l32, z_l33, z_l40, z_l48, z_l57, z_l59, z_l60, z_l65, z_l80, z_l97, z_l112, z_l113, z_l114, z_l116, z_l119, z_l126, z_l255, z_l300, z_l330, z_l331, z_l332, z_l450, z_l500, z_l530, z_l531, z_l560, z_l999, z_l1000, z_l2000, z_l2800, z_l5000, (c.2 t e ht).2.1, hni, (c.2 t e ht).2.2 i w hk]
  | succ d ih =>
    intro n i hi hd
    obtain ⟨n, rfl⟩ : ∃ n', n = n' + 1 := ⟨n - 1, by omega⟩
    have hni : ¬ e.2.length ≤ i := by omega
    obtain ⟨v, hv⟩ : ∃ v, e.2[i]? = some v := ⟨_, List.getElem?_eq_getElem (by omega)⟩
    have hv30 := o4 v (List.mem_of_getElem? hv)
    have hne : ¬ v = w := by
      rintro rfl
      have := nd_inj o3 hv hk
      omega
    rw [f_X3_trainOf_L12]
    simp (disch := omega) only [q_n6b, q_lt, q_bd, q_gdi, q_cl, q_add, q_mul, ↓reduceIte, nI_eq, nI_leI, nI_ltI, z_l0, z_l1, z_l2, z_l3, z_l4, z_l5, z_l6, z_l7, z_l8, z_l9, z_l10, z_l11, z_l12, z_l13, z_l14, z_l15, z_l16, z_l17, z_l18, z_l19, z_l20, z_l21, z_l22, z_l23, z_l240, z_l270, z_l24, z_l30, z_l31, z_l32, z_l33, z_l40, z_l48, z_l57, z_l59, z_l60, z_l65, z_l80, z_l97, z_l112, z_l113, z_l114, z_l116, z_l119, z_l126, z_l255, z_l300, z_l330, z_l331, z_l332, z_l450, z_l500, z_l530, z_l531, z_l560, z_l999, z_l1000, z_l2000, z_l2800, z_l5000, (c.2 t e ht).2.1, hni, (c.2 t e ht).2.2 i v hv, hne]
    exact ih n (i + 1) (by omega) (by omega)
theorem k_to_out {j t w : Nat} {e : Int32 × List Nat} {tn : List (Int32 × List Nat)} {μ : mT} (c : cT μ j tn) (ho : tOK tn) (ht : tn[t]? = some e) {K : mT → Option (Int32 × mT)} (hw : w < 2147483648) (hk : w ∉ e.2) : ∀ (d n i : Nat), i + d = e.2.length → d < n →
    f_X3_trainOf_L12 j (nI w) (nI t) K n (nI i) μ = K μ := by
  have htl := (List.getElem?_eq_some_iff.mp ht).1
  have htl8 := ho.1
  obtain ⟨o1, o2, o3, o4⟩ := ho.2 t e ht
  intro d
  induction d with
  | zero =>
    intro n i hi hd
    obtain ⟨n, rfl⟩ : ∃ n', n = n' + 1 := ⟨n - 1, by omega⟩
    have hni : e.2.length ≤ i := by omega
    rw [f_X3_trainOf_L12]
    simp (disch := omega) only [q_n6b, q_lt, q_bd, q_gdi, q_cl, q_add, q_mul, ↓reduceIte, nI_eq, nI_leI, nI_ltI, z_l0, z_l1, z_l2, z_l3, z_l4, z_l5, z_l6, z_l7, z_l8, z_l9, z_l10, z_l11, z_l12, z_l13, z_l14, z_l15, z_l16, z_l17, z_l18, z_l19, z_l20, z_l21, z_l22, z_l23, z_l240, z_l270, z_l24, z_l30, z_l31, z_l32, z_l33, z_l40, z_l48, z_l57, z_l59, z_l60, z_l65, z_l80, z_l97, z_l112, z_l113, z_l114, z_l116, z_l119, z_l126, z_l255, z_l300, z_l330, z_l331, z_l332, z_l450, z_l500, z_l530, z_l531, z_l560, z_l999, z_l1000, z_l2000, z_l2800, z_l5000, (c.2 t e ht).2.1, hni]
  | succ d ih =>
    intro n i hi hd
    obtain ⟨n, rfl⟩ : ∃ n', n = n' + 1 := ⟨n - 1, by omega⟩
    have hni : ¬ e.2.length ≤ i := by omega
    obtain ⟨v, hv⟩ : ∃ v, e.2[i]? = some v := ⟨_, List.getElem?_eq_getElem (by omega)⟩
    have hv30 := o4 v (List.mem_of_getElem? hv)
    have hne : ¬ v = w := by
      rintro rfl
      exact hk (List.mem_of_getElem? hv)
    rw [f_X3_trainOf_L12]
    simp (disch := omega) only [q_n6b, q_lt, q_bd, q_gdi, q_cl, q_add, q_mul, ↓reduceIte, nI_eq, nI_leI, nI_ltI, z_l0, z_l1, z_l2, z_l3, z_l4, z_l5, z_l6, z_l7, z_l8, z_l9, z_l10, z_l11, z_l12, z_l13, z_l14, z_l15, z_l16, z_l17, z_l18, z_l19, z_l20, z_l21, z_l22, z_l23, z_l240, z_l270, z_l24, z_l30, z_l31, z_l32, z_l33, z_l40, z_l48, z_l57, z_l59, z_l60, z_l65, z_l80, z_l97, z_l112, z_l113, z_l114, z_l116, z_l119, z_l126, z_l255, z_l300, z_l330, z_l331, z_l332, z_l450, z_l500, z_l530, z_l531, z_l560, z_l999, z_l1000, z_l2000, z_l2800, z_l5000, (c.2 t e ht).2.1, hni, (c.2 t e ht).2.2 i v hv, hne]
    exact ih n (i + 1) (by omega) (by omega)
def tFind (w : Nat) : Nat → List (Int32 × List Nat) → Option Nat
  | _, [] => none
  | t, e :: l => if w ∈ e.2 then some t else tFind w (t + 1) l
/-- the train that waits for a wagon -/
def tOf (tn : List (Int32 × List Nat)) (w : Nat) : Int32 := match tFind w 0 tn with
  | some t => nI t
  | none => -6
theorem k_trainOf_L {j w : Nat} {tn : List (Int32 × List Nat)} {μ : mT} (c : cT μ j tn) (ho : tOK tn) (hw : w < 2147483648) : ∀ (d n i : Nat), i + d = tn.length → d < n →
    f_X3_trainOf_L2 j (nI w) n (nI i) μ = some ((match tFind w i (tn.drop i) with | some t => nI t | none => -6), μ) := by
  have htl8 := ho.1
  intro d
  induction d with
  | zero =>
    intro n i hi hd
    obtain ⟨n, rfl⟩ : ∃ n', n = n' + 1 := ⟨n - 1, by omega⟩
    rw [f_X3_trainOf_L2, if_pos (by rw [c.1]; exact nI_le (by omega) (by omega)), List.drop_eq_nil_of_le (by omega)]
    rfl
  | succ d ih =>
    intro n i hi hd
    obtain ⟨n, rfl⟩ : ∃ n', n = n' + 1 := ⟨n - 1, by omega⟩
    have hni : ¬ tn.length ≤ i := by omega
    obtain ⟨e, he⟩ : ∃ e, tn[i]? = some e := ⟨_, List.getElem?_eq_getElem (by omega)⟩
    obtain ⟨o1, o2, o3, o4⟩ := ho.2 i e he
    rw [f_X3_trainOf_L2, drop_cons_of' he]
    simp (disch := omega) only [q_n6b, q_lt, q_bd, q_gdi, q_cl, q_add, q_mul, ↓reduceIte, nI_eq, nI_leI, nI_ltI, z_l0, z_l1, z_l2, z_l3, z_l4, z_l5, z_l6, z_l7, z_l8, z_l9, z_l10, z_l11, z_l12, z_l13, z_l14, z_l15, z_l16, z_l17, z_l18, z_l19, z_l20, z_l21, z_l22, z_l23, z_l240, z_l270, z_l24, z_l30, z_l31, z_l32, z_l33, z_l40, z_l48, z_l57, z_l59, z_l60, z_l65, z_l80, z_l97, z_l112, z_l113, z_l114, z_l116, z_l119, z_l126, z_l255, z_l300, z_l330, z_l331, z_l332, z_l450, z_l500, z_l530, z_l531, z_l560, z_l999, z_l1000, z_l2000, z_l2800, z_l5000, c.1, hni]
    unfold tFind
    by_cases hm : w ∈ e.2
    · obtain ⟨k, hk⟩ := List.getElem?_of_mem hm
      have hkl := (List.getElem?_eq_some_iff.mp hk).1
      rw [if_pos hm, k_to_in c ho he hk k fu 0 (Nat.zero_add _) (by unfold fu; omega)]
    · rw [if_neg hm, k_to_out c ho he hw hm _ fu 0 (Nat.zero_add _) (by unfold fu; omega), ih n (i + 1) (by omega) (by omega)]
      rfl
theorem k_trainOf {j w : Nat} {tn : List (Int32 × List Nat)} {μ : mT} (c : cT μ j tn) (ho : tOK tn) (hw : w < 2147483648) : f_X3_trainOf j (nI w) μ = some (tOf tn w, μ) := by
  have htl8 := ho.1
  unfold f_X3_trainOf
  exact k_trainOf_L c ho hw tn.length fu 0 (by omega) (by unfold fu; omega)
theorem k_tadd {j : Nat} {x : Int32} {ws : List Nat} {tn : List (Int32 × List Nat)} {μ : mT} (c : cT μ j tn) (hl : tn.length < 8) (ho : tOK tn) (hw : ws.length ≤ 8) (h26 : ∀ k w, ws[k]? = some w → μ 26 0 k = nI w) :
    ∃ μ', f_X3_add j (nI ws.length) x μ = some (nI tn.length, μ') ∧ cT μ' j (tn ++ [(x, ws)]) ∧ only μ μ' (fun κ j' => (κ = 3 ∨ κ = 15 ∨ κ = 16 ∨ κ = 17) ∧ j' = j) := by
  generalize hμ3 : upR (upM (upM μ 15 j tn.length x) 16 j tn.length (nI ws.length)) 17 j (va_cpy ((upM (upM μ 15 j tn.length x) 16 j tn.length (nI ws.length)) 26 0) ((upM (upM μ 15 j tn.length x) 16 j tn.length (nI ws.length)) 17 j) 0 (tn.length * 8) ws.length) = μ3
  have ho3 : only μ μ3 (fun κ j' => (κ = 3 ∨ κ = 15 ∨ κ = 16 ∨ κ = 17) ∧ j' = j) := by
    rw [← hμ3]
    exact only.tr ((q_uple rfl).w (by omega)) (only.tr ((q_uple rfl).w (by omega)) (fun κ j' z => q_upr (by omega)))
  have e15 : μ3 15 j = upd (μ 15 j) tn.length x := by
    rw [← hμ3, q_upr (by omega), q_upn (by omega)]
    unfold upM
    rw [q_ups]
  have e16 : μ3 16 j = upd (μ 16 j) tn.length (nI ws.length) := by
    rw [← hμ3, q_upr (by omega)]
    unfold upM
    rw [q_ups, q_upr (by omega)]
  have e17 : μ3 17 j = va_cpy (μ 26 0) (μ 17 j) 0 (tn.length * 8) ws.length := by
    rw [← hμ3, q_ups, q_upn (by omega), q_upn (by omega), q_upn (by omega), q_upn (by omega)]
  have e3 : μ3 3 j = μ 3 j := by rw [← hμ3, q_upr (by omega), q_upn (by omega), q_upn (by omega)]
  refine ⟨upM μ3 3 j 0 (nI (tn.length + 1)), ?_, ⟨?_, fun t e ht => ?_⟩, ho3.tr ((q_uple rfl).w (by omega))⟩
  · unfold f_X3_add
    have hs : nI (tn.length + 1) - nI 1 = nI tn.length := q_sub (a := tn.length + 1) (b := 1) (by omega)
    have hck : cpk (nI 0) (nI (tn.length * 8)) (nI ws.length) 8 64 = true := by
      unfold cpk
      refine decide_eq_true ⟨⟨nI_pos (by omega), nI_pos (by omega)⟩, nI_pos (by omega), ?_, ?_⟩ <;>
        · rw [q_cl (by omega), q_cl (by omega)]
          omega
    have h3 : (upM (upM μ 15 j tn.length x) 16 j tn.length (nI ws.length)) 3 j 0 = nI tn.length := by
      rw [q_upn (by omega), q_upn (by omega)]
      exact c.1
    have h31 : (upM μ 15 j tn.length x) 3 j 0 = nI tn.length := by
      rw [q_upn (by omega)]
      exact c.1
    simp (disch := omega) only [q_n6b, q_lt, q_bd, q_gdi, q_cl, q_add, q_mul, ↓reduceIte, nI_eq, nI_leI, nI_ltI, z_l0, z_l1, z_l2, z_l3, z_l4, z_l5, z_l6, z_l7, z_l8, z_l9, z_l10, z_l11, z_l12, z_l13, z_l14, z_l15, z_l16, z_l17, z_l18, z_l19, z_l20, z_l21, z_l22, z_l23, z_l240, z_l270, z_l24, z_l30, z_l31, z_l32, z_l33, z_l40, z_l48, z_l57, z_l59, z_l60, z_l65, z_l80, z_l97, z_l112, z_l113, z_l114, z_l116, z_l119, z_l126, z_l255, z_l300, z_l330, z_l331, z_l332, z_l450, z_l500, z_l530, z_l531, z_l560, z_l999, z_l1000, z_l2000, z_l2800, z_l5000, c.1, h31, h3, q_gd hck, hμ3, e3]
    simp only [q_up, Nat.reduceEqDiff, false_and, and_false, true_and, and_true, ↓reduceIte, hs]
  · simp [q_up]
  · unfold cE
    rw [q_upn (by omega), q_upn (by omega), q_upn (by omega), e15, e16, e17]
    unfold upd va_cpy
    by_cases hl' : t = tn.length
    · subst hl'
      simp at ht
      subst ht
      refine ⟨if_pos rfl, if_pos rfl, fun k w hk => ?_⟩
      have hkl := (List.getElem?_eq_some_iff.mp hk).1
      dsimp only at hkl
      rw [if_pos (by omega)]
      rw [show 0 + (tn.length * 8 + k - tn.length * 8) = k by omega]
      exact h26 k w hk
    · have htl := (List.getElem?_eq_some_iff.mp ht).1
      simp at htl
      rw [List.getElem?_append_left (by omega)] at ht
      obtain ⟨a1, a2, a3⟩ := c.2 t e ht
      obtain ⟨o1, o2, o3, o4⟩ := ho.2 t e ht
      refine ⟨(if_neg hl').trans a1, (if_neg hl').trans a2, fun k w hk => ?_⟩
      have hkl := (List.getElem?_eq_some_iff.mp hk).1
      rw [if_neg (by omega)]
      exact a3 k w hk
theorem k_rem {j t : Nat} {tn : List (Int32 × List Nat)} (ho : tOK tn) (ht : t < tn.length) : ∀ (d n i : Nat) (μ : mT), i + d = tn.length - 1 → d < n → t ≤ i → μ 3 j 0 = nI (tn.length - 1) → (∀ k e, k < i → (tn.eraseIdx t)[k]? = some e → cE μ j k e) → (∀ k e, i ≤ k → tn[k]? = some e → (k = t → i ≠ t) → cE μ j k e) →
    ∃ μ', f_X3_remove_L12 j n (nI i) μ = some (0, μ') ∧ cT μ' j (tn.eraseIdx t) ∧ only μ μ' (fun κ j' => (κ = 3 ∨ κ = 15 ∨ κ = 16 ∨ κ = 17) ∧ j' = j) := by
  have htl8 := ho.1
  have hel : (tn.eraseIdx t).length = tn.length - 1 := List.length_eraseIdx_of_lt ht
  intro d
  induction d with
  | zero =>
    intro n i μ hi hd hti h3 c1 c2
    obtain ⟨n, rfl⟩ : ∃ n', n = n' + 1 := ⟨n - 1, by omega⟩
    refine ⟨μ, ?_, ⟨?_, fun k e hk => ?_⟩, only.rf⟩
    · rw [f_X3_remove_L12, if_pos (by rw [h3]; exact nI_le (by omega) (by omega))]
    · rw [hel]; exact h3
    · have hkl := (List.getElem?_eq_some_iff.mp hk).1
      exact c1 k e (by omega) hk
  | succ d ih =>
    intro n i μ hi hd hti h3 c1 c2
    obtain ⟨n, rfl⟩ : ∃ n', n = n' + 1 := ⟨n - 1, by omega⟩
    have hni : ¬ tn.length - 1 ≤ i := by omega
    obtain ⟨e, he⟩ : ∃ e, tn[i + 1]? = some e := ⟨_, List.getElem?_eq_getElem (by omega)⟩
    obtain ⟨a1, a2, a3⟩ := c2 (i + 1) e (by omega) he (by omega)
    obtain ⟨o1, o2, o3, o4⟩ := ho.2 (i + 1) e he
    have hck : cpk (nI ((i + 1) * 8)) (nI (i * 8)) (nI 8) 64 64 = true := by
      unfold cpk
      refine decide_eq_true ⟨⟨nI_pos (by omega), nI_pos (by omega)⟩, nI_pos (by omega), ?_, ?_⟩ <;>
        · rw [q_cl (by omega), q_cl (by omega)]
          omega
    rw [f_X3_remove_L12]
    simp (disch := omega) only [q_n6b, q_lt, q_bd, q_gdi, q_cl, q_add, q_mul, ↓reduceIte, nI_eq, nI_leI, nI_ltI, z_l0, z_l1, z_l2, z_l3, z_l4, z_l5, z_l6, z_l7, z_l8, z_l9, z_l10, z_l11, z_l12, z_l13, z_l14, z_l15, z_l16, z_l17, z_l18, z_l19, z_l20, z_l21, z_l22, z_l23, z_l240, z_l270, z_l24, z_l30, z_l31, z_l32, z_l33, z_l40, z_l48, z_l57, z_l59, z_l60, z_l65, z_l80, z_l97, z_l112, z_l113, z_l114, z_l116, z_l119, z_l126, z_l255, z_l300, z_l330, z_l331, z_l332, z_l450, z_l500, z_l530, z_l531, z_l560, z_l999, z_l1000, z_l2000, z_l2800, z_l5000, h3, hni, q_gd hck, a1, a2]
    simp only [q_up, Nat.reduceEqDiff, false_and, and_false, true_and, and_true, ↓reduceIte, a2]
    generalize hμ : upR (upM (upM μ 15 j i e.1) 16 j i (nI e.2.length)) 17 j (va_cpy ((upM (upM μ 15 j i e.1) 16 j i (nI e.2.length)) 17 j) ((upM (upM μ 15 j i e.1) 16 j i (nI e.2.length)) 17 j) ((i + 1) * 8) (i * 8) 8) = μ1
    have ho1 : only μ μ1 (fun κ j' => (κ = 3 ∨ κ = 15 ∨ κ = 16 ∨ κ = 17) ∧ j' = j) := by
      rw [← hμ]
      exact only.tr ((q_uple rfl).w (by omega)) (only.tr ((q_uple rfl).w (by omega)) (fun κ j' z => q_upr (by omega)))
    have e15 : μ1 15 j = upd (μ 15 j) i e.1 := by
      rw [← hμ, q_upr (by omega), q_upn (by omega)]
      unfold upM
      rw [q_ups]
    have e16 : μ1 16 j = upd (μ 16 j) i (nI e.2.length) := by
      rw [← hμ, q_upr (by omega)]
      unfold upM
      rw [q_ups, q_upr (by omega)]
    have e17 : μ1 17 j = va_cpy (μ 17 j) (μ 17 j) ((i + 1) * 8) (i * 8) 8 := by
      rw [← hμ, q_ups, q_upn (by omega), q_upn (by omega)]
    have e3 : μ1 3 j = μ 3 j := by rw [← hμ, q_upr (by omega), q_upn (by omega), q_upn (by omega)]
    have he8 : ∀ k e', k ≠ i → (e'.2.length ≤ 8) → cE μ j k e' → cE μ1 j k e' := by
      intro k e' hk hk8 ⟨b1, b2, b3⟩
      refine ⟨?_, ?_, fun q w hq => ?_⟩
      · rw [e15]; unfold upd; rw [if_neg hk]; exact b1
      · rw [e16]; unfold upd; rw [if_neg hk]; exact b2
      · have hql := (List.getElem?_eq_some_iff.mp hq).1
        rw [e17]; unfold va_cpy; rw [if_neg (by omega)]; exact b3 q w hq
    obtain ⟨μ', g1, g2, g3⟩ := ih n (i + 1) μ1 (by omega) (by omega) (by omega) (by rw [e3]; exact h3) (fun k e' hk hke => by
      by_cases ek : k = i
      · subst ek
        rw [List.getElem?_eraseIdx, if_neg (by omega), he] at hke
        cases hke
        refine ⟨?_, ?_, fun q w hq => ?_⟩
        · rw [e15]; unfold upd; rw [if_pos rfl]
        · rw [e16]; unfold upd; rw [if_pos rfl]
        · have hql := (List.getElem?_eq_some_iff.mp hq).1
          rw [e17]; unfold va_cpy; rw [if_pos (by omega)]
          rw [show (k + 1) * 8 + (k * 8 + q - k * 8) = (k + 1) * 8 + q by omega]
          exact a3 q w hq
      · have hx := hke
        rw [List.getElem?_eraseIdx] at hx
        have h8 : e'.2.length ≤ 8 := by
          split at hx
          · exact (ho.2 _ _ hx).2.1
          · exact (ho.2 _ _ hx).2.1
        exact he8 k e' ek h8 (c1 k e' (by omega) hke)) (fun k e' hk hke _ => by
      exact he8 k e' (by omega) (ho.2 _ _ hke).2.1 (c2 k e' (by omega) hke (by omega)))
    exact ⟨μ', g1, g2, ho1.tr g3⟩
theorem k_remove {j t : Nat} {tn : List (Int32 × List Nat)} {μ : mT} (ho : tOK tn) (c : cT μ j tn) (ht : t < tn.length) :
    ∃ μ', f_X3_remove j (nI t) μ = some (0, μ') ∧ cT μ' j (tn.eraseIdx t) ∧ only μ μ' (fun κ j' => (κ = 3 ∨ κ = 15 ∨ κ = 16 ∨ κ = 17) ∧ j' = j) := by
  have htl8 := ho.1
  have hs : nI tn.length - nI 1 = nI (tn.length - 1) := q_sub (by omega)
  have hc : ∀ k e, tn[k]? = some e → cE (upM μ 3 j 0 (nI (tn.length - 1))) j k e := fun k e hk => by
    unfold cE
    rw [q_upn (by omega), q_upn (by omega), q_upn (by omega)]
    exact c.2 k e hk
  obtain ⟨μ', g1, g2, g3⟩ := k_rem (j := j) ho ht (tn.length - 1 - t) fu t (upM μ 3 j 0 (nI (tn.length - 1))) (by omega) (by unfold fu; omega) (Nat.le_refl _) (by simp [q_up]) (fun k e hk hke => by
    rw [List.getElem?_eraseIdx, if_pos hk] at hke
    exact hc k e hke) (fun k e _ hke _ => hc k e hke)
  refine ⟨μ', ?_, g2, ((q_uple rfl).w (by omega)).tr g3⟩
  unfold f_X3_remove
  rw [← g1]
  simp only [q_lt, c.1, z_l1, hs]
