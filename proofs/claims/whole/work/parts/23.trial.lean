theorem k_isT {t : Nat} {e : Int32 × List Nat} {y : yT} {μ : mT} (h : cY μ 1 y) (hg : gY y) (ht : y.2.2.2[t]? = some e) (hl : (y.2.1 8).length = e.2.length) : ∀ (d f i : Nat), i + d = e.2.length → d < f →
    (f_X4_isTurned_L14 (nI t) (nI e.2.length) f (nI i) μ = some (1, μ) ∧ (y.2.1 8).reverse.drop i = e.2.drop i) ∨ (f_X4_isTurned_L14 (nI t) (nI e.2.length) f (nI i) μ = some (0, μ) ∧ (y.2.1 8).reverse ≠ e.2) := by
  obtain ⟨ho, hD, hT, hl10, hk⟩ := hg
  have h30 := ho 8 (by omega)
  obtain ⟨o1, o2, o3, o4⟩ := hk.2 t e ht
  intro d
  induction d with
  | zero =>
    intro f i hi hf
    obtain ⟨f, rfl⟩ : ∃ n', f = n' + 1 := ⟨f - 1, by omega⟩
    left
    rw [f_X4_isTurned_L14, if_pos (nI_le (by omega) (by omega)), List.drop_eq_nil_of_le (by rw [List.length_reverse]; omega), List.drop_eq_nil_of_le (by omega)]
    exact ⟨rfl, rfl⟩
  | succ d ih =>
    intro f i hi hf
    obtain ⟨f, rfl⟩ : ∃ n', f = n' + 1 := ⟨f - 1, by omega⟩
    obtain ⟨w, hw⟩ : ∃ w, e.2[i]? = some w := ⟨_, List.getElem?_eq_getElem (by omega)⟩
    obtain ⟨v, hv⟩ : ∃ v, (y.2.1 8)[e.2.length - 1 - i]? = some v := ⟨_, List.getElem?_eq_getElem (by omega)⟩
    have hv30 := h30.2.1 v (List.mem_of_getElem? hv)
    have hw30 := o4 w (List.mem_of_getElem? hw)
    have hv' : (y.2.1 8).reverse[i]? = some v := by
      rw [List.getElem?_reverse (by omega), hl]
      exact hv
    rw [f_X4_isTurned_L14, if_neg (nI_ge (by omega) (by omega)), z_l1, q_sub (by omega), q_sub (by omega), z_l8, k_wagonAt (by omega) (h.2.1 8 (by omega)) h30.1 (by omega), q_bd, k_wagonOf h.2.2.2 hk.1 ht o2 (by omega), q_bd, atN_at hv, atN_at hw]
    by_cases q : v = w
    · subst q
      rw [if_pos rfl, q_lt, q_add]
      rcases ih f (i + 1) (by omega) (by omega) with ⟨a, b⟩ | ⟨a, b⟩
      · left
        refine ⟨a, ?_⟩
        rw [drop_cons_of hv', drop_cons_of hw, b]
      · right
        exact ⟨a, b⟩
    · right
      rw [if_neg (by rw [nI_eq (by omega) (by omega)]; exact q)]
      refine ⟨rfl, fun z => q ?_⟩
      rw [z, hw] at hv'
      exact (Option.some.inj hv').symm
theorem k_isTurned {t : Nat} {e : Int32 × List Nat} {y : yT} {μ : mT} (h : cY μ 1 y) (hg : gY y) (ht : y.2.2.2[t]? = some e) (hl : (y.2.1 8).length = e.2.length) : f_X4_isTurned (nI t) μ = some (if (y.2.1 8).reverse = e.2 then 1 else 0, μ) := by
  unfold f_X4_isTurned
  obtain ⟨o1, o2, o3, o4⟩ := hg.2.2.2.2.2 t e ht
  rw [k_sizeOf h.2.2.2 hg.2.2.2.2.1 ht, q_bd, z_l0]
  rcases k_isT h hg ht hl e.2.length fu 0 (Nat.zero_add _) (by unfold fu; omega) with ⟨a, b⟩ | ⟨a, b⟩
  · rw [a, if_pos (by simpa using b)]
  · rw [a, if_neg b]
    rfl
theorem k_mn {t got r : Nat} {e : Int32 × List Nat} {y : yT} {μ : mT} (h : cY μ 1 y) (hg : gY y) (ht : y.2.2.2[t]? = some e) (hr : r < 9) (hgot : got ≤ e.2.length) : ∀ (d f i : Nat), i + d = min (e.2.length - got) (y.2.1 r).length → d < f →
    f_X4_manyNext_L32 (nI t) (nI got) (nI r) (nI (min (e.2.length - got) (y.2.1 r).length)) f (nI i) μ = some (nI (i + lcp ((y.2.1 r).drop i) (e.2.drop (got + i))), μ) := by
  obtain ⟨ho, hD, hT, hl10, hk⟩ := hg
  have h30 := ho r hr
  obtain ⟨o1, o2, o3, o4⟩ := hk.2 t e ht
  intro d
  induction d with
  | zero =>
    intro f i hi hf
    obtain ⟨f, rfl⟩ : ∃ n', f = n' + 1 := ⟨f - 1, by omega⟩
    rw [f_X4_manyNext_L32, if_pos (nI_le (by omega) (by omega))]
    have : lcp ((y.2.1 r).drop i) (e.2.drop (got + i)) = 0 := by
      have := lcp_le (a := (y.2.1 r).drop i) (b := e.2.drop (got + i))
      simp only [List.length_drop] at this
      omega
    rw [this]
    congr 3
    omega
  | succ d ih =>
    intro f i hi hf
    obtain ⟨f, rfl⟩ : ∃ n', f = n' + 1 := ⟨f - 1, by omega⟩
    obtain ⟨v, hv⟩ : ∃ v, (y.2.1 r)[i]? = some v := ⟨_, List.getElem?_eq_getElem (by omega)⟩
    obtain ⟨w, hw⟩ : ∃ w, e.2[got + i]? = some w := ⟨_, List.getElem?_eq_getElem (by omega)⟩
    have hv30 := h30.2.1 v (List.mem_of_getElem? hv)
    have hw30 := o4 w (List.mem_of_getElem? hw)
    rw [f_X4_manyNext_L32, if_neg (nI_ge (by omega) (by omega)), k_wagonAt hr (h.2.1 r hr) h30.1 (by omega), q_bd, q_add, k_wagonOf h.2.2.2 hk.1 ht o2 (by omega), q_bd, atN_at hv, atN_at hw, drop_cons_of hv, drop_cons_of hw]
    unfold lcp
    by_cases q : v = w
    · rw [if_pos (by rw [q]), if_pos q, q_lt, z_l1, q_add, ih f (i + 1) (by omega) (by omega)]
      rw [show got + (i + 1) = got + i + 1 by omega]
      congr 3
      omega
    · rw [if_neg (by rw [nI_eq (by omega) (by omega)]; exact q), if_neg q]
      rfl
theorem k_manyNext {t got r : Nat} {e : Int32 × List Nat} {y : yT} {μ : mT} (h : cY μ 1 y) (hg : gY y) (ht : y.2.2.2[t]? = some e) (hr : r < 9) (hgot : got ≤ e.2.length) : f_X4_manyNext (nI t) (nI got) (nI r) μ = some (nI (lcp (y.2.1 r) (e.2.drop got)), μ) := by
  unfold f_X4_manyNext
  have h30 := hg.1 r hr
  obtain ⟨o1, o2, o3, o4⟩ := hg.2.2.2.2.2 t e ht
  rw [k_manyIn hr, q_bd, k_sizeOf h.2.2.2 hg.2.2.2.2.1 ht, q_bd, cRow.nl h.2.1 hr, q_sub hgot, min_nI (by omega) (by omega), q_lt, z_l0, k_mn h hg ht hr hgot _ fu 0 (Nat.zero_add _) (by unfold fu; omega)]
  simp
/-- the row of the next wagon of a list, none at the engine -/
def nxt (y : yT) (l : List Nat) (got : Nat) : Int32 := match l[got]? with
  | none => -6
  | some w => if rOf y.2.1 w = 8 then -6 else rOf y.2.1 w
theorem k_trackOfNext {t got : Nat} {e : Int32 × List Nat} {y : yT} {μ : mT} (h : cY μ 1 y) (hg : gY y) (ht : y.2.2.2[t]? = some e) (hgot : got < 2147483648) : f_X4_trackOfNext (nI t) (nI got) μ = some (nxt y e.2 got, μ) := by
  unfold f_X4_trackOfNext nxt
  obtain ⟨o1, o2, o3, o4⟩ := hg.2.2.2.2.2 t e ht
  rw [k_wagonOf h.2.2.2 hg.2.2.2.2.1 ht o2 hgot, q_bd]
  cases hw : e.2[got]? with
  | none =>
    unfold atN
    rw [hw]
    dsimp only
    rw [k_rowOfN h.2.1 hg.1, q_bd, if_neg (by decide)]
  | some w =>
    have hw30 := o4 w (List.mem_of_getElem? hw)
    rw [atN_at hw, k_rowOf h.2.1 hg.1 (by omega), q_bd]
    dsimp only
    split <;> rfl
/-- one move more makes the wagons at the engine those of a list -/
def one (y : yT) (nt : Nat) (l : List Nat) : Prop :=
  (∃ t n, t < nt ∧ 1 ≤ n ∧ n ≤ 30 ∧ canP y t n = true ∧ y.2.1 8 ++ (y.2.1 t).take n = l) ∨ (∃ t n, t < nt ∧ 1 ≤ n ∧ n ≤ 30 ∧ canQ y t n = true ∧ (y.2.1 8).take ((y.2.1 8).length - n) = l) ∨ (canR y = true ∧ (y.2.1 8).reverse = l)
theorem canP_le {y : yT} {t n : Nat} (h : canP y t n = true) : n ≤ (y.2.1 t).length := by
  unfold canP at h
  rw [Bool.and_eq_true, decide_eq_true_eq] at h
  exact h.1
theorem canQ_le {y : yT} {t n : Nat} (h : canQ y t n = true) : n ≤ (y.2.1 8).length := by
  unfold canQ at h
  rw [Bool.and_eq_true, decide_eq_true_eq] at h
  exact h.1
theorem lcp_pre : ∀ {a b : List Nat}, lcp a (a ++ b) = a.length
  | [], b => by unfold lcp; simp
  | x :: a, b => by
    simp only [List.cons_append, lcp, if_pos, List.length_cons, lcp_pre (a := a)]
theorem lcp_pre' : ∀ {a b : List Nat}, lcp (a ++ b) a = a.length
  | [], b => by cases b <;> simp [lcp]
  | x :: a, b => by
    simp only [List.cons_append, lcp, if_pos, List.length_cons, lcp_pre' (a := a)]
theorem lcp_take : ∀ {a b : List Nat}, a.take (lcp a b) = b.take (lcp a b)
  | [], b => by simp [lcp]
  | x :: a, [] => by simp [lcp]
  | x :: a, z :: b => by
    unfold lcp
    by_cases h : x = z
    · rw [if_pos h, h]
      simp [lcp_take (a := a) (b := b)]
    · rw [if_neg h]
      simp
theorem bit_ne : ∀ t, t < 8 → ∀ v : Int32, ¬ (v ||| bit t) = 0 := by
  intro t ht v e
  have hb : bit t = 0 := by
    apply Int32.toBitVec_inj.mp
    have := congrArg Int32.toBitVec e
    rw [Int32.toBitVec_or] at this
    exact (BitVec.or_eq_zero_iff.mp this).2
  rcases (show t = 0 ∨ t = 1 ∨ t = 2 ∨ t = 3 ∨ t = 4 ∨ t = 5 ∨ t = 6 ∨ t = 7 by omega) with rfl | rfl | rfl | rfl | rfl | rfl | rfl | rfl <;> exact absurd hb (by decide)
theorem or_ne {v x : Int32} (h : ¬ v = 0) : ¬ (v ||| x) = 0 := by
  intro e
  apply h
  apply Int32.toBitVec_inj.mp
  have := congrArg Int32.toBitVec e
  rw [Int32.toBitVec_or] at this
  exact (BitVec.or_eq_zero_iff.mp this).1
theorem trF_ne {y : yT} {n : Nat} : ∀ (d t : Nat) (v : Int32), t + d ≤ 8 → ¬ v = 0 → ¬ trF y n d t v = 0
  | 0, t, v, _, h => h
  | d + 1, t, v, ht, h => by
    unfold trF
    refine trF_ne d (t + 1) _ (by omega) ?_
    split
    · exact h
    · split
      · exact or_ne h
      · exact h
theorem trF_iff {y : yT} {n : Nat} (hn : n ≠ 0) : ∀ (d t : Nat), t + d ≤ 8 → (¬ trF y n d t 0 = 0 ↔ ∃ t', t ≤ t' ∧ t' < t + d ∧ canQ y t' n = true)
  | 0, t, _ => by
    unfold trF
    exact ⟨fun h => absurd rfl h, fun ⟨t', h1, h2, _⟩ => by omega⟩
  | d + 1, t, ht => by
    unfold trF
    rw [if_neg hn]
    by_cases hc : canQ y t n = true
    · rw [if_pos hc]
      exact ⟨fun _ => ⟨t, Nat.le_refl _, by omega, hc⟩, fun _ => trF_ne d (t + 1) _ (by omega) (bit_ne t (by omega) 0)⟩
    · rw [if_neg hc, trF_iff hn d (t + 1) (by omega)]
      constructor
      · rintro ⟨t', h1, h2, h3⟩
        exact ⟨t', by omega, by omega, h3⟩
      · rintro ⟨t', h1, h2, h3⟩
        refine ⟨t', ?_, by omega, h3⟩
        rcases Nat.lt_or_ge t t' with q | q
        · exact q
        · rw [show t' = t by omega] at h3
          exact absurd h3 hc
