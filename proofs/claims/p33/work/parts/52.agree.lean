/-- what holds of the law's yard beside iY -/
def pE (y : yT) (nw tm : Nat) : Prop := ((∃ c, c ≤ 3 ∧ y.1 0 3 = nI c) ∧ y.1 0 2 = 4 ∧ y.1 0 4 = 9) ∧ (∀ w, w < nw → ∃ a, 1 ≤ a ∧ a ≤ 4 ∧ y.1 4 w = nI a) ∧ (∀ t, t < 8 → ¬ y.1 1 t < ssum (y.1 4) (y.2.1 t)) ∧ y.1 0 10 = nI (nw - tot y.2.1) ∧ ∀ w, w < nw → (∀ r, r < 9 → w ∉ y.2.1 r) → ∃ a, a ≤ tm ∧ y.1 5 w = nI a
theorem nsl : ∀ {l1 l2 : List Nat}, l1.Nodup → (∀ b, b ∈ l1 → b ∈ l2) → l1.length ≤ l2.length
  | [], _, _, _ => Nat.zero_le _
  | a :: l, l2, hn, hs => by
    have hn' := List.nodup_cons.mp hn
    have ha : a ∈ l2 := hs a List.mem_cons_self
    have := nsl (l2 := l2.erase a) hn'.2 fun b hb => by
      have hne : b ≠ a := fun hba => hn'.1 (by rw [← hba]; exact hb)
      exact (List.mem_erase_of_ne hne).mpr (hs b (List.mem_cons_of_mem _ hb))
    rw [List.length_erase_of_mem ha] at this
    have hpos : 0 < l2.length := List.length_pos_of_mem ha
    simp only [List.length_cons]
    omega
def catN (rw : Nat → List Nat) : Nat → Nat → List Nat
  | 0, _ => []
  | n + 1, r => rw r ++ catN rw n (r + 1)
theorem catN_mem {rw : Nat → List Nat} {w : Nat} : ∀ (n r : Nat), w ∈ catN rw n r ↔ ∃ k, r ≤ k ∧ k < r + n ∧ w ∈ rw k
  | 0, r => ⟨fun h => (List.not_mem_nil h).elim, fun ⟨k, h1, h2, _⟩ => by omega⟩
  | n + 1, r => by
    show w ∈ rw r ++ catN rw n (r + 1) ↔ _
    rw [List.mem_append, catN_mem n (r + 1)]
    constructor
    · rintro (h | ⟨k, h1, h2, h3⟩)
      · exact ⟨r, Nat.le_refl _, by omega, h⟩
      · exact ⟨k, by omega, by omega, h3⟩
    · rintro ⟨k, h1, h2, h3⟩
      by_cases c : k = r
      · subst c; exact Or.inl h3
      · exact Or.inr ⟨k, by omega, by omega, h3⟩
theorem catN_nd {rw : Nat → List Nat} (ho : rOK rw) (hd : rDis rw) : ∀ (n r : Nat), r + n ≤ 9 → (catN rw n r).Nodup
  | 0, r, _ => List.nodup_nil
  | n + 1, r, h => by
    show (rw r ++ catN rw n (r + 1)).Nodup
    rw [List.nodup_append]
    refine ⟨(ho r (by omega)).2.2, catN_nd ho hd n (r + 1) (by omega), fun a ha b hb e => ?_⟩
    subst e
    obtain ⟨k, h1, h2, h3⟩ := (catN_mem n (r + 1)).mp hb
    have := hd r k a (by omega) (by omega) ha h3
    omega
theorem catN_len (rw : Nat → List Nat) : (catN rw 9 0).length = tot rw := by
  unfold tot
  simp only [catN, List.length_append, List.length_nil, Nat.zero_add, Nat.reduceAdd]
  omega
def gnB (rw : Nat → List Nat) (w : Nat) : Bool := (rFind rw w 9 0).isNone
theorem gnB_iff {rw : Nat → List Nat} {w : Nat} : gnB rw w = true ↔ ∀ r, r < 9 → w ∉ rw r := by
  unfold gnB
  cases e : rFind rw w 9 0 with
  | none =>
    have := rFind_none e
    exact ⟨fun _ r hr => this r (by omega) (by omega), fun _ => rfl⟩
  | some k =>
    obtain ⟨h1, h2, h3, -⟩ := rFind_some e
    exact ⟨fun z => (by cases z), fun z => absurd h3 (z k (by omega))⟩
def gnN (rw : Nat → List Nat) (k : Nat) : Nat := ((List.range k).filter (gnB rw)).length
theorem gnN_s (rw : Nat → List Nat) (k : Nat) : gnN rw (k + 1) = gnN rw k + if gnB rw k = true then 1 else 0 := by
  unfold gnN
  rw [List.range_succ, List.filter_append, List.length_append]
  congr 1
  by_cases c : gnB rw k = true
  · rw [List.filter_cons_of_pos c, if_pos c]; rfl
  · rw [List.filter_cons_of_neg c, if_neg c]; rfl
theorem gnN_le (rw : Nat → List Nat) (k : Nat) : gnN rw k ≤ k := by
  unfold gnN
  have := List.length_filter_le (gnB rw) (List.range k)
  rw [List.length_range] at this
  exact this
theorem gnN_tot {y : yT} {nt nw tm B : Nat} (hi : iY y nt nw tm B) : gnN y.2.1 nw + tot y.2.1 = nw := by
  have hnd : ((List.range nw).filter (gnB y.2.1) ++ catN y.2.1 9 0).Nodup := by
    rw [List.nodup_append]
    refine ⟨List.Pairwise.filter _ List.nodup_range, catN_nd hi.rOK hi.2.2.2.1 9 0 (by omega), fun a ha b hb e => ?_⟩
    subst e
    obtain ⟨k, h1, h2, h3⟩ := (catN_mem 9 0).mp hb
    exact gnB_iff.mp (List.mem_filter.mp ha).2 k (by omega) h3
  have h1 := nsl hnd (l2 := List.range nw) (fun b hb => by
    rcases List.mem_append.mp hb with z | z
    · exact (List.mem_filter.mp z).1
    · obtain ⟨k, h1, h2, h3⟩ := (catN_mem 9 0).mp z
      exact List.mem_range.mpr (w30 hi (by omega) h3))
  have h2 := nsl (l1 := List.range nw) List.nodup_range (l2 := (List.range nw).filter (gnB y.2.1) ++ catN y.2.1 9 0) (fun b hb => by
    by_cases c : gnB y.2.1 b = true
    · exact List.mem_append_left _ (List.mem_filter.mpr ⟨hb, c⟩)
    · refine List.mem_append_right _ ((catN_mem 9 0).mpr ?_)
      rw [gnB_iff] at c
      apply Classical.byContradiction
      intro q
      exact c (fun r hr hm => q ⟨r, by omega, by omega, hm⟩))
  rw [List.length_append, catN_len, List.length_range] at h1 h2
  unfold gnN
  omega
section AG
variable {y : yT} {nt nw tm B : Nat}
theorem tk_s {d : List Nat} {k w : Nat} (h : d[k]? = some w) (x : Nat) : x ∈ d.take (k + 1) ↔ x ∈ d.take k ∨ x = w := by
  rw [List.take_succ, h]
  simp
theorem ag_e {μ : mT} (h : PR μ y) (hi : iY y nt nw tm B) (hc : ∀ i w, (y.2.1 8)[i]? = some w → μ 60 0 i = nI w) : ∀ (dd n k : Nat) (v : Int32), k + dd = (y.2.1 8).length → dd < n → (∀ w, w < 30 → (sn v w ↔ w ∈ (y.2.1 8).take k)) → ∃ v', (∀ K, f_L_agree_L44 (nI (y.2.1 8).length) K n v (nI k) μ = K v' μ) ∧ ∀ w, w < 30 → (sn v' w ↔ w ∈ y.2.1 8) := by
  have hl := (hi.rOK 8 (by omega)).1
  intro dd
  induction dd with
  | zero =>
    intro n k v hk hn hv
    obtain ⟨n, rfl⟩ : ∃ n', n = n' + 1 := ⟨n - 1, by omega⟩
    refine ⟨v, fun K => ?_, fun w hw => ?_⟩
    · rw [f_L_agree_L44, if_pos (nI_le (by omega) (by omega))]
    · rw [hv w hw, List.take_of_length_le (by omega)]
  | succ dd ih =>
    intro n k v hk hn hv
    obtain ⟨n, rfl⟩ : ∃ n', n = n' + 1 := ⟨n - 1, by omega⟩
    have hk' : k < (y.2.1 8).length := by omega
    obtain ⟨w, e1⟩ : ∃ w, (y.2.1 8)[k]? = some w := ⟨_, List.getElem?_eq_getElem hk'⟩
    have hm := List.mem_of_getElem? e1
    have hw30 := (hi.rOK 8 (by omega)).2.1 w hm
    obtain ⟨v', a1, a2⟩ := ih n (k + 1) (v ||| (1 <<< (nI w &&& 31))) (by omega) (by omega) (fun x hx => by
      rw [sn_or hx hw30, hv x hx, tk_s e1])
    refine ⟨v', fun K => ?_, a2⟩
    have g : ∀ {α : Type} (X : Option α), gd (inb (nI k) 32) X = X := fun X => q_gdi (by omega) (by omega)
    rw [f_L_agree_L44, if_neg (nI_ge hk' (by omega)), g, q_lt, g, q_cl (by omega), hc k w e1, v1e h hi hm, q_bm, if_pos rfl, g, hc k w e1, v2 h hi (by omega) e1, q_bm, if_pos rfl, g, hc k w e1, v3e h hi hm, q_bm, if_pos rfl, g, hc k w e1, v7e h hi hm, q_bm, if_pos rfl, q_lt, nI_1]
    exact a1 K
theorem ag_t {μ : mT} {t : Nat} (h : PR μ y) (hi : iY y nt nw tm B) (ht : t < nt) (hc : ∀ i w, (y.2.1 t)[i]? = some w → μ 60 0 i = nI w) : ∀ (dd n k : Nat) (v : Int32), k + dd = (y.2.1 t).length → dd < n → (∀ w, w < 30 → (sn v w ↔ (w ∈ y.2.1 8 ∨ ∃ t', t' < t ∧ w ∈ y.2.1 t') ∨ w ∈ (y.2.1 t).take k)) → ∃ v', (∀ K, f_L_agree_L190 (nI t) (nI (y.2.1 t).length) K n v (nI k) μ = K v' μ) ∧ ∀ w, w < 30 → (sn v' w ↔ (w ∈ y.2.1 8 ∨ ∃ t', t' < t ∧ w ∈ y.2.1 t') ∨ w ∈ y.2.1 t) := by
  have h8 := hi.nt8
  have hl := (hi.rOK t (by omega)).1
  intro dd
  induction dd with
  | zero =>
    intro n k v hk hn hv
    obtain ⟨n, rfl⟩ : ∃ n', n = n' + 1 := ⟨n - 1, by omega⟩
    refine ⟨v, fun K => ?_, fun w hw => ?_⟩
    · rw [f_L_agree_L190, if_pos (nI_le (by omega) (by omega))]
    · rw [hv w hw, List.take_of_length_le (by omega)]
  | succ dd ih =>
    intro n k v hk hn hv
    obtain ⟨n, rfl⟩ : ∃ n', n = n' + 1 := ⟨n - 1, by omega⟩
    have hk' : k < (y.2.1 t).length := by omega
    obtain ⟨w, e1⟩ : ∃ w, (y.2.1 t)[k]? = some w := ⟨_, List.getElem?_eq_getElem hk'⟩
    have hm := List.mem_of_getElem? e1
    have hw30 := (hi.rOK t (by omega)).2.1 w hm
    obtain ⟨v', a1, a2⟩ := ih n (k + 1) (v ||| (1 <<< (nI w &&& 31))) (by omega) (by omega) (fun x hx => by
      rw [sn_or hx hw30, hv x hx, tk_s e1, or_assoc])
    refine ⟨v', fun K => ?_, a2⟩
    have hns : ¬ (((v >>> (nI w &&& 31)) &&& 1) = 1) := fun z => by
      have z : sn v w := z
      rw [hv w hw30] at z
      rcases z with (z | ⟨t', z1, z2⟩) | z
      · have := hi.2.2.2.1 t 8 w (by omega) (by omega) hm z
        omega
      · have := hi.2.2.2.1 t t' w (by omega) (by omega) hm z2
        omega
      · obtain ⟨j, hj⟩ := List.getElem?_of_mem z
        have hjl := (List.getElem?_eq_some_iff.mp hj).1
        rw [List.length_take] at hjl
        rw [List.getElem?_take_of_lt (by omega)] at hj
        have := nd_inj (hi.rOK t (by omega)).2.2 hj e1
        omega
    have g : ∀ {α : Type} (X : Option α), gd (inb (nI k) 32) X = X := fun X => q_gdi (by omega) (by omega)
    rw [f_L_agree_L190, if_neg (nI_ge hk' (by omega)), g, q_cl (by omega), hc k w e1, if_neg hns, g, v1t h hi (by omega) hm, q_bm, if_pos rfl, g, hc k w e1, v2 h hi (by omega) e1, q_bm, if_pos rfl, g, hc k w e1, v3t h hi (by omega) hm, q_bm, if_pos rfl, g, hc k w e1, v7t h hi (by omega) e1, q_bm, if_pos rfl, g, hc k w e1, q_lt, q_lt, nI_1]
    exact a1 K
theorem ag_o (hi : iY y nt nw tm B) (he : pE y nw tm) : ∀ (dd n t : Nat) (v : Int32) (μ : mT), t + dd = nt → dd < n → PR μ y → (∀ w, w < 30 → (sn v w ↔ (w ∈ y.2.1 8 ∨ ∃ t', t' < t ∧ w ∈ y.2.1 t'))) → ∃ v' μ', (∀ K, f_L_agree_L126 K n v (nI t) μ = K v' μ') ∧ PR μ' y ∧ ∀ w, w < 30 → (sn v' w ↔ ∃ r, r < 9 ∧ w ∈ y.2.1 r) := by
  have h8 := hi.nt8
  intro dd
  induction dd with
  | zero =>
    intro n t v μ hk hn h hv
    obtain ⟨n, rfl⟩ : ∃ n', n = n' + 1 := ⟨n - 1, by omega⟩
    refine ⟨v, μ, fun K => ?_, h, fun w hw => ?_⟩
    · rw [f_L_agree_L126, c1 h hi, q_bm, if_pos (nI_le (by omega) (by omega))]
    · rw [hv w hw]
      constructor
      · rintro (z | ⟨t', z1, z2⟩)
        · exact ⟨8, by omega, z⟩
        · exact ⟨t', by omega, z2⟩
      · rintro ⟨r, z1, z2⟩
        by_cases c : r = 8
        · subst c; exact Or.inl z2
        · by_cases c2 : r < nt
          · exact Or.inr ⟨r, by omega, z2⟩
          · rw [hi.2.2.2.2.2.1 r (by omega) (by omega)] at z2
            exact (List.not_mem_nil z2).elim
  | succ dd ih =>
    intro n t v μ hk hn h hv
    obtain ⟨n, rfl⟩ : ∃ n', n = n' + 1 := ⟨n - 1, by omega⟩
    have ht : t < nt := by omega
    have hl := (hi.rOK t (by omega)).1
    obtain ⟨μ2, b1, b2, b3, b4⟩ := l_rowT (ka := 60) h hi ht (by omega)
    obtain ⟨v2', d1, d2⟩ := ag_t b2 hi ht b4 (y.2.1 t).length fu 0 v (by omega) (by unfold fu; omega) (fun w hw => by rw [hv w hw]; simp)
    obtain ⟨v', μ', a1, a2, a3⟩ := ih n (t + 1) v2' μ2 (by omega) (by omega) b2 (fun w hw => by
      rw [d2 w hw, or_assoc]
      constructor
      · rintro (z | ⟨t', z1, z2⟩ | z)
        · exact Or.inl z
        · exact Or.inr ⟨t', by omega, z2⟩
        · exact Or.inr ⟨t, by omega, z⟩
      · rintro (z | ⟨t', z1, z2⟩)
        · exact Or.inl z
        · by_cases c : t' = t
          · subst c; exact Or.inr (Or.inr z2)
          · exact Or.inr (Or.inl ⟨t', by omega, z2⟩))
    refine ⟨v', μ', fun K => ?_, a2, a3⟩
    have eL : f_L_lengths 60 0 (nI (y.2.1 t).length) μ2 = some (ssum (y.1 4) (y.2.1 t), μ2) := by
      have := l_len (ka := 60) (i := 0) b2 hi hl (fun w hw => w30 hi (by omega) hw) b4 (Nat.zero_le _) (Nat.le_refl _)
      rw [List.drop_zero, List.take_of_length_le (Nat.le_refl _)] at this
      exact this
    rw [f_L_agree_L126, c1 h hi, q_bm, if_neg (nI_ge ht (by omega)), b1, q_bd, if_neg (nI_pos (by omega)), eL, q_bd, o2 b2 hi ht, q_bm, if_pos rfl, o2 b2 hi ht, q_bm, o0 b2 hi ht, q_bm, if_pos (Int32.not_lt.mp (he.2.2.1 t (by omega))), q_lt]
    rw [show (0 : Int32) = nI 0 from rfl, d1, q_lt, nI_1]
    exact a1 K
theorem ag_g {μ : mT} {v : Int32} (h : PR μ y) (hi : iY y nt nw tm B) (he : pE y nw tm) (htm : tm < 2147483648) (hv : ∀ w, w < 30 → (sn v w ↔ ∃ r, r < 9 ∧ w ∈ y.2.1 r)) : ∀ (dd n k : Nat), k + dd = nw → dd < n → ∀ K, f_L_agree_L293 v K n (nI (gnN y.2.1 k)) (nI k) μ = K (nI (gnN y.2.1 nw)) μ := by
  have h30 := hi.nw30
  intro dd
  induction dd with
  | zero =>
    intro n k hk hn K
    obtain ⟨n, rfl⟩ : ∃ n', n = n' + 1 := ⟨n - 1, by omega⟩
    rw [f_L_agree_L293, c2 h hi, q_bm, if_pos (nI_le (by omega) (by omega)), show k = nw by omega]
  | succ dd ih =>
    intro n k hk hn K
    obtain ⟨n, rfl⟩ : ∃ n', n = n' + 1 := ⟨n - 1, by omega⟩
    have hk' : k < nw := by omega
    have hih := ih n (k + 1) (by omega) (by omega) K
    rw [gnN_s] at hih
    have n6 : (-6 : Int32) < 0 := by decide
    by_cases c : gnB y.2.1 k = true
    · rw [if_pos c] at hih
      rw [gnB_iff] at c
      have hns : ¬ (((v >>> (nI k &&& 31)) &&& 1) = 1) := fun z => by
        have z : sn v k := z
        rw [hv k (by omega)] at z
        obtain ⟨r, z1, z2⟩ := z
        exact c r z1 z2
      obtain ⟨a, ha, ea⟩ := he.2.2.2.2 k hk' c
      rw [f_L_agree_L293, c2 h hi, q_bm, if_neg (nI_ge hk' (by omega)), v4g h hi hk' c, q_bm, q_lt, ea, if_neg (nI_pos (by omega))]
      dsimp only
      rw [q_lt, if_neg (by decide)]
      dsimp only
      rw [q_lt, q_lt, if_neg hns]
      dsimp only
      rw [if_neg (by decide), q_lt, if_neg (by decide), v2g h hi hk' c, q_bm, if_pos rfl, v4g h hi hk' c, q_bm, c0 h hi, q_bm, ea, hi.htm, if_pos (nI_le (by omega) (by omega))]
      dsimp only
      rw [q_lt, nI_1, nI_1]
      exact hih
    · have hm : ∃ r, r < 9 ∧ k ∈ y.2.1 r := by
        apply Classical.byContradiction
        intro q
        exact c (gnB_iff.mpr (fun r hr hm => q ⟨r, hr, hm⟩))
      rw [if_neg c, Nat.add_zero] at hih
      have hs : ((v >>> (nI k &&& 31)) &&& 1) = 1 := (hv k (by omega)).mpr hm
      obtain ⟨r, hr, hm⟩ := hm
      rw [f_L_agree_L293, c2 h hi, q_bm, if_neg (nI_ge hk' (by omega)), v4i h hi hr hm, q_bm, q_lt, if_pos n6]
      dsimp only
      rw [q_lt, if_pos rfl]
      dsimp only
      rw [q_lt, q_lt, if_pos hs]
      dsimp only
      rw [if_neg (by decide), q_lt, if_pos rfl]
      dsimp only
      rw [q_lt, nI_1, Int32.add_zero]
      exact hih
theorem l_agree {μ : mT} (h : PR μ y) (hi : iY y nt nw tm B) (he : pE y nw tm) (htm : tm < 2147483648) : ∃ μ', f_L_agree μ = some (1, μ') ∧ PR μ' y := by
  have h8 := hi.nt8
  have hl := (hi.rOK 8 (by omega)).1
  unfold f_L_agree
  have hfu : 100 < fu := by unfold fu; omega
  generalize fu = F at hfu ⊢
  rw [q_lt]
  obtain ⟨μ2, b1, b2, b3, b4⟩ := l_rowE (ka := 60) (h.upr (ka := 60) (by omega) (fun _ => 0)) hi (by omega)
  have eL : f_L_lengths 60 0 (nI (y.2.1 8).length) μ2 = some (ssum (y.1 4) (y.2.1 8), μ2) := by
    have := l_len (ka := 60) (i := 0) b2 hi hl (fun w hw => w30 hi (by omega) hw) b4 (Nat.zero_le _) (Nat.le_refl _)
    rw [List.drop_zero, List.take_of_length_le (Nat.le_refl _)] at this
    exact this
  rw [b1, q_bd, c3 b2 hi, q_bm, if_pos rfl, eL, q_bd, c4 b2 hi, q_bm, if_pos rfl]
  rw [q_lt]
  obtain ⟨v1, d1, d2⟩ := ag_e b2 hi b4 (y.2.1 8).length F 0 0 (by omega) (by omega) (fun w hw => ⟨fun z => absurd z (sn_0 hw), fun z => by simp at z⟩)
  obtain ⟨v2', μ3, g1, g2, g3⟩ := ag_o hi he nt F 0 v1 μ2 (by omega) (by omega) b2 (fun w hw => by
    rw [d2 w hw]
    constructor
    · exact fun z => Or.inl z
    · rintro (z | ⟨t', z1, z2⟩)
      · exact z
      · omega)
  have e5 := ag_g g2 hi he htm g3 nw F 0 (by omega) (by have := hi.nw30; omega)
  refine ⟨μ3, ?_, g2⟩
  have z0 : (0 : Int32) = nI 0 := rfl
  have hz : gnN y.2.1 0 = 0 := rfl
  rw [hz] at e5
  rw [← z0] at e5
  rw [← z0] at d1 g1
  rw [d1, q_lt, g1, q_lt, e5, c5 g2 hi, q_bm, he.2.2.2.1, if_pos (by
    have := gnN_tot hi
    congr 1
    omega)]
end AG
