theorem k_tracksFor' {j nt n : Nat} {y : yT} {μ : mT} (h : cY μ j y) (hg : gN y nt) (hn : n < 2147483648) : ∀ (d f t : Nat) (v : Int32), t + d = nt → d < f →
    f_X6_tracksFor_L4 j (nI n) f v (nI t) μ = some (trF y n d t v, μ) := by
  have hn8 := hg.2.1
  have e7 : μ 0 j 7 = nI nt := by rw [h.1.tracks, hg.2.2.1]
  intro d
  induction d with
  | zero =>
    intro f t v ht hf
    obtain ⟨f, rfl⟩ : ∃ n', f = n' + 1 := ⟨f - 1, by omega⟩
    rw [f_X6_tracksFor_L4, e7, if_pos (nI_le (by omega) (by omega))]
    rfl
  | succ d ih =>
    intro f t v ht hf
    obtain ⟨f, rfl⟩ : ∃ n', f = n' + 1 := ⟨f - 1, by omega⟩
    rw [f_X6_tracksFor_L4, e7, if_neg (nI_ge (by omega) (by omega)), q_lt, k_canBringIn h hg.1.1 (by omega) hn, q_bd]
    unfold trF
    rw [z_l1, q_add]
    by_cases e0 : n = 0
    · subst e0
      rw [if_pos (show nI 0 ≤ 0 from by decide), if_pos rfl]
      dsimp only
      rw [q_lt]
      exact ih f (t + 1) v (by omega) (by omega)
    · rw [if_neg (show ¬ nI n ≤ 0 from by rw [z_l0]; exact nI_ge (by omega) hn), if_neg e0]
      by_cases hc : canQ y t n = true
      · rw [if_pos hc, if_pos hc, if_neg (by decide), q_lt]
        dsimp only
        rw [q_lt]
        exact ih f (t + 1) _ (by omega) (by omega)
      · rw [if_neg hc, if_neg hc, if_pos rfl]
        dsimp only
        rw [q_lt]
        exact ih f (t + 1) v (by omega) (by omega)
theorem i01 {b : Bool} : (if b = true then (1 : Int32) else 0) = 0 ↔ ¬ b = true := by cases b <;> decide
theorem k_one {nt t : Nat} {e : Int32 × List Nat} {y : yT} {μ : mT} (h : cY μ 1 y) (hg : gN y nt) (ht : y.2.2.2[t]? = some e) : f_X4_couldAfterOne (nI t) μ = some (cIf (one y nt e.2) 1 0, μ) := by
  have hn8 := hg.2.1
  obtain ⟨ho, hD, hT, hl10, hk⟩ := hg.1
  have h30 := (ho 8 (by omega)).1
  obtain ⟨o1, o2, o3, o4⟩ := hk.2 t e ht
  unfold f_X4_couldAfterOne
  rw [z_l8, k_manyIn (by omega), q_bd, k_sizeOf h.2.2.2 hk.1 ht, q_bd, cRow.nl h.2.1 (by omega)]
  by_cases hl : (y.2.1 8).length = e.2.length
  · rw [if_pos (by rw [hl]), k_canGoRound h ho, q_bd]
    by_cases hc : canR y = true
    · rw [if_pos hc, if_neg (by decide), k_isTurned h hg.1 ht hl, q_bd]
      by_cases hr : (y.2.1 8).reverse = e.2
      · rw [if_pos hr, if_neg (by decide), cIf_t (show one y nt e.2 from Or.inr (Or.inr ⟨hc, hr⟩))]
      · rw [if_neg hr, if_pos rfl, cIf_f]
        rintro (⟨t', n, h1, h2, h3, h4, h5⟩ | ⟨t', n, h1, h2, h3, h4, h5⟩ | ⟨h1, h2⟩)
        · have := congrArg List.length h5
          have := canP_le h4
          simp only [List.length_append, List.length_take] at *
          omega
        · have := congrArg List.length h5
          have := canQ_le h4
          simp only [List.length_take] at *
          omega
        · exact hr h2
    · rw [if_neg hc, if_pos rfl, cIf_f]
      rintro (⟨t', n, h1, h2, h3, h4, h5⟩ | ⟨t', n, h1, h2, h3, h4, h5⟩ | ⟨h1, h2⟩)
      · have := congrArg List.length h5
        have := canP_le h4
        simp only [List.length_append, List.length_take] at *
        omega
      · have := congrArg List.length h5
        have := canQ_le h4
        simp only [List.length_take] at *
        omega
      · exact hc h1
  rw [if_neg (by rw [nI_eq (by omega) (by omega)]; exact hl), k_manyAlike h hg.1 ht, q_bd, min_nI (by omega) (by omega)]
  have hlc := lcp_le (a := y.2.1 8) (b := e.2)
  have hrev : ¬ (canR y = true ∧ (y.2.1 8).reverse = e.2) := fun z => hl (by rw [← z.2, List.length_reverse])
  by_cases hm : min e.2.length (y.2.1 8).length ≤ lcp (y.2.1 8) e.2
  case neg =>
    rw [if_neg (nI_ge (by omega) (by omega)), cIf_f]
    rintro (⟨t', n, h1, h2, h3, h4, h5⟩ | ⟨t', n, h1, h2, h3, h4, h5⟩ | z)
    · apply hm
      rw [← h5, lcp_pre]
      omega
    · apply hm
      rw [← h5]
      have := lcp_pre' (a := (y.2.1 8).take ((y.2.1 8).length - n)) (b := (y.2.1 8).drop ((y.2.1 8).length - n))
      rw [List.take_append_drop] at this
      rw [this]
      omega
    · exact hrev z
  rw [if_pos (nI_le hm (by omega))]
  by_cases hlt : (y.2.1 8).length ≤ e.2.length
  · rw [if_pos (nI_le hlt (by omega)), k_trackOfNext h hg.1 ht (by omega), q_bd, q_sub hlt, q_lt]
    obtain ⟨w, hw⟩ : ∃ w, e.2[(y.2.1 8).length]? = some w := ⟨_, List.getElem?_eq_getElem (by omega)⟩
    have hpre : e.2.take (y.2.1 8).length = y.2.1 8 := by
      have := lcp_take (a := y.2.1 8) (b := e.2)
      rw [show lcp (y.2.1 8) e.2 = (y.2.1 8).length by omega, List.take_length] at this
      exact this.symm
    -- a pull that does it takes what is wanting from the track of the next one
    have hpull : ∀ t' n, t' < nt → 1 ≤ n → canP y t' n = true → y.2.1 8 ++ (y.2.1 t').take n = e.2 → n = e.2.length - (y.2.1 8).length ∧ (y.2.1 t').take n = e.2.drop (y.2.1 8).length ∧ w ∈ y.2.1 t' := by
      intro t' n h1 h2 h4 h5
      have h6 := canP_le h4
      have h7 := congrArg List.length h5
      simp only [List.length_append, List.length_take] at h7
      have h8 : (y.2.1 t').take n = e.2.drop (y.2.1 8).length := by
        rw [← h5, List.drop_append_of_le_length (Nat.le_refl _), List.drop_length, List.nil_append]
      refine ⟨by omega, h8, ?_⟩
      have : w ∈ (y.2.1 t').take n := by
        rw [h8, drop_cons_of hw]
        exact List.mem_cons_self
      exact List.mem_of_mem_take this
    have hpush : ¬ ∃ t' n, t' < nt ∧ 1 ≤ n ∧ n ≤ 30 ∧ canQ y t' n = true ∧ (y.2.1 8).take ((y.2.1 8).length - n) = e.2 := by
      rintro ⟨t', n, h1, h2, h3, h4, h5⟩
      have := congrArg List.length h5
      simp only [List.length_take] at this
      omega
    have hnx : nxt y e.2 (y.2.1 8).length = if rOf y.2.1 w = 8 then -6 else rOf y.2.1 w := by
      unfold nxt
      rw [hw]
    rw [hnx]
    by_cases hr : rOf y.2.1 w = 8
    · rw [if_pos hr, if_pos rfl, cIf_f]
      rintro (⟨t', n, h1, h2, h3, h4, h5⟩ | z | z)
      · obtain ⟨a1, a2, a3⟩ := hpull t' n h1 h2 h4 h5
        obtain ⟨r, b1, b2, b3⟩ := rOf_in (rw := y.2.1) (w := w) (by rw [hr]; decide)
        rw [hr, z_l8, nI_eq (by omega) (by omega)] at b2
        have := hD r t' w b1 (by omega) b3 a3
        omega
      · exact hpush z
      · exact hrev z
    rw [if_neg hr]
    by_cases h6 : rOf y.2.1 w = -6
    · rw [if_pos h6, cIf_f]
      rintro (⟨t', n, h1, h2, h3, h4, h5⟩ | z | z)
      · obtain ⟨a1, a2, a3⟩ := hpull t' n h1 h2 h4 h5
        exact rOf_out h6 t' (by omega) a3
      · exact hpush z
      · exact hrev z
    obtain ⟨r, b1, b2, b3⟩ := rOf_in h6
    have hr8 : r ≠ 8 := fun z => hr (by rw [b2, z]; rfl)
    have hrnt : r < nt := by
      rcases Nat.lt_or_ge r nt with q | q
      · exact q
      · have := hg.2.2.2 r q (by omega)
        rw [this] at b3
        simp at b3
    rw [if_neg h6, b2, k_manyNext h hg.1 ht b1 hlt, q_bd]
    have hln := lcp_le (a := y.2.1 r) (b := e.2.drop (y.2.1 8).length)
    rw [List.length_drop] at hln
    have hr30 := (ho r b1).1
    by_cases hmm : lcp (y.2.1 r) (e.2.drop (y.2.1 8).length) = e.2.length - (y.2.1 8).length
    · rw [if_pos (by rw [hmm]), k_canTakeOut h ho (by omega) (by omega), q_bd]
      have htk : y.2.1 8 ++ (y.2.1 r).take (e.2.length - (y.2.1 8).length) = e.2 := by
        have := lcp_take (a := y.2.1 r) (b := e.2.drop (y.2.1 8).length)
        rw [hmm] at this
        rw [this, List.take_of_length_le (by rw [List.length_drop]; omega)]
        conv => lhs; lhs; rw [← hpre]
        rw [List.take_append_drop]
      by_cases hc : canP y r (e.2.length - (y.2.1 8).length) = true
      · rw [if_pos hc, if_neg (by decide), cIf_t (show one y nt e.2 from Or.inl ⟨r, _, hrnt, by omega, by omega, hc, htk⟩)]
      · rw [if_neg hc, if_pos rfl, cIf_f]
        rintro (⟨t', n, h1, h2, h3, h4, h5⟩ | z | z)
        · obtain ⟨a1, a2, a3⟩ := hpull t' n h1 h2 h4 h5
          have := hD r t' w b1 (by omega) b3 a3
          subst this
          rw [a1] at h4
          exact hc h4
        · exact hpush z
        · exact hrev z
    · rw [if_neg (by rw [nI_eq (by omega) (by omega)]; exact hmm), cIf_f]
      rintro (⟨t', n, h1, h2, h3, h4, h5⟩ | z | z)
      · obtain ⟨a1, a2, a3⟩ := hpull t' n h1 h2 h4 h5
        have := hD r t' w b1 (by omega) b3 a3
        subst this
        apply hmm
        have hq := lcp_pre' (a := (y.2.1 r).take n) (b := (y.2.1 r).drop n)
        rw [List.take_append_drop, a2] at hq
        rw [hq, List.length_drop]
      · exact hpush z
      · exact hrev z
  · rw [if_neg (nI_ge (by omega) (by omega)), q_sub (by omega)]
    unfold f_X6_tracksFor
    rw [z_l0, k_tracksFor' h hg (by omega) nt fu 0 (nI 0) (Nat.zero_add _) (by unfold fu; omega), q_bd, ← z_l0]
    have hpre : (y.2.1 8).take e.2.length = e.2 := by
      have := lcp_take (a := y.2.1 8) (b := e.2)
      rw [show lcp (y.2.1 8) e.2 = e.2.length by omega, List.take_length] at this
      exact this
    have hiff := trF_iff (y := y) (n := (y.2.1 8).length - e.2.length) (by omega) nt 0 (by omega)
    by_cases hz : trF y ((y.2.1 8).length - e.2.length) nt 0 0 = 0
    · rw [if_pos hz, cIf_f]
      rintro (⟨t', n, h1, h2, h3, h4, h5⟩ | ⟨t', n, h1, h2, h3, h4, h5⟩ | z)
      · have := congrArg List.length h5
        simp only [List.length_append] at this
        omega
      · have := congrArg List.length h5
        simp only [List.length_take] at this
        have := canQ_le h4
        rw [show n = (y.2.1 8).length - e.2.length by omega] at h4
        exact (hiff.mpr ⟨t', Nat.zero_le _, by omega, h4⟩) hz
      · exact hrev z
    · obtain ⟨t', h1, h2, h3⟩ := hiff.mp hz
      rw [if_neg hz, cIf_t (show one y nt e.2 from Or.inr (Or.inl ⟨t', _, by omega, by omega, by omega, h3, by
        rw [show (y.2.1 8).length - ((y.2.1 8).length - e.2.length) = e.2.length by omega]
        exact hpre⟩))]
theorem k_L18 {nt t r : Nat} {y : yT} (e : Int32 × List Nat) (hg : gN y nt) (ht : y.2.2.2[t]? = some e) (hr : r < nt) : ∀ (d f m : Nat) (μ : mT), m + d = (y.2.1 r).length + 1 → 1 ≤ m → d + 1 < f → cY μ 1 y →
    ∃ μ', f_X4_couldAfterTakingOut_L18 (nI t) (nI r) (nI (y.2.1 r).length) f 0 (nI m) μ = some (cIf (∃ n, m ≤ n ∧ n ≤ 30 ∧ canP y r n = true ∧ one (y.1, rwD y.2.1 r n, y.2.2) nt e.2) 1 0, μ') ∧ cY μ' 1 y ∧ only μ μ' (Yd 1) := by
  have hn8 := hg.2.1
  obtain ⟨ho, hD, hT, hl10, hk⟩ := hg.1
  have h30 := (ho r (by omega)).1
  intro d
  induction d with
  | zero =>
    intro f m μ hm h1 hf h
    obtain ⟨f, rfl⟩ : ∃ n', f = n' + 1 := ⟨f - 1, by omega⟩
    refine ⟨μ, ?_, h, only.rf⟩
    rw [f_X4_couldAfterTakingOut_L18, if_pos (nI_lt (by omega) (by omega)), q_gd (by decide), cIf_f]
    rintro ⟨n, a1, a2, a3, a4⟩
    have := canP_le a3
    omega
  | succ d ih =>
    intro f m μ hm h1 hf h
    obtain ⟨f, rfl⟩ : ∃ n', f = n' + 1 := ⟨f - 1, by omega⟩
    rw [f_X4_couldAfterTakingOut_L18, if_neg (nI_nlt (by omega) (by omega)), if_pos rfl, k_canTakeOut h ho (by omega) (by omega), q_bd, q_lt]
    by_cases hc : canP y r m = true
    · rw [if_pos hc, if_neg (by decide)]
      have hle := canP_le hc
      obtain ⟨μ1, a1, a2, a3⟩ := k_shiftD h.2.1 ho hT (t := r) (by omega) hle
      have h1' : cY μ1 1 (y.1, rwD y.2.1 r m, y.2.2) := ⟨h.1.cong (fun κ _ _ _ => a3 κ 1 (by omega)), a2, h.2.2.1.cong (a3 _ 1 (by omega)) (a3 _ 1 (by omega)) (a3 _ 1 (by omega)), h.2.2.2.cong (a3 _ 1 (by omega)) (a3 _ 1 (by omega)) (a3 _ 1 (by omega)) (a3 _ 1 (by omega))⟩
      have hg1 : gN (y.1, rwD y.2.1 r m, y.2.2) nt := gN_D hg rfl hr hle hl10
      have hle1 : m ≤ (rwD y.2.1 r m 8).length := by
        rw [rwD_8 (by omega), List.length_append, List.length_take]
        omega
      obtain ⟨μ2, b1, b2, b3⟩ := k_shiftB h1'.2.1 hg1.1.1 hg1.1.2.2.1 (t := r) (by omega) hle1
      have h2' : cY μ2 1 y := by
        have := rwD_B (rw := y.2.1) (t := r) (n := m) (by omega) hle
        rw [show (y.1, rwD y.2.1 r m, y.2.2).2.1 = rwD y.2.1 r m from rfl, this] at b2
        exact ⟨h1'.1.cong (fun κ _ _ _ => b3 κ 1 (by omega)), b2, h1'.2.2.1.cong (b3 _ 1 (by omega)) (b3 _ 1 (by omega)) (b3 _ 1 (by omega)), h1'.2.2.2.cong (b3 _ 1 (by omega)) (b3 _ 1 (by omega)) (b3 _ 1 (by omega)) (b3 _ 1 (by omega))⟩
      have ho2 : only μ μ2 (Yd 1) := (a3.w (by unfold Yd; omega)).tr (b3.w (by unfold Yd; omega))
      rw [a1, q_bd, k_one h1' hg1 ht, q_bd, b1, q_bd]
      dsimp only
      rw [q_lt, z_l1, q_add]
      by_cases ho1 : one (y.1, rwD y.2.1 r m, y.2.2) nt e.2
      · refine ⟨μ2, ?_, h2', ho2⟩
        rw [cIf_t ho1, cIf_t ⟨m, Nat.le_refl _, by omega, hc, ho1⟩]
        obtain ⟨f, rfl⟩ : ∃ n', f = n' + 1 := ⟨f - 1, by omega⟩
        rw [f_X4_couldAfterTakingOut_L18]
        by_cases q : nI (y.2.1 r).length < nI (m + 1)
        · rw [if_pos q, q_gd (by decide)]
        · rw [if_neg q, if_neg (by decide), q_gd (by decide)]
      · rw [cIf_f ho1]
        obtain ⟨μ3, c1, c2, c3⟩ := ih f (m + 1) μ2 (by omega) (by omega) (by omega) h2'
        refine ⟨μ3, ?_, c2, ho2.tr c3⟩
        rw [← z_l1]
        rw [c1]
        by_cases q : ∃ n, m + 1 ≤ n ∧ n ≤ 30 ∧ canP y r n = true ∧ one (y.1, rwD y.2.1 r n, y.2.2) nt e.2
        · rw [cIf_t q, cIf_t (by obtain ⟨n, q1, q2⟩ := q; exact ⟨n, by omega, q2⟩)]
        · rw [cIf_f q, cIf_f]
          rintro ⟨n, q1, q2, q3, q4⟩
          by_cases z : n = m
          · subst z; exact ho1 q4
          · exact q ⟨n, by omega, q2, q3, q4⟩
    · rw [if_neg hc, if_pos rfl]
      dsimp only
      rw [q_lt, z_l1, q_add]
      obtain ⟨μ3, c1, c2, c3⟩ := ih f (m + 1) μ (by omega) (by omega) (by omega) h
      refine ⟨μ3, ?_, c2, c3⟩
      rw [← z_l1]
      rw [c1]
      by_cases q : ∃ n, m + 1 ≤ n ∧ n ≤ 30 ∧ canP y r n = true ∧ one (y.1, rwD y.2.1 r n, y.2.2) nt e.2
      · rw [cIf_t q, cIf_t (by obtain ⟨n, q1, q2⟩ := q; exact ⟨n, by omega, q2⟩)]
      · rw [cIf_f q, cIf_f]
        rintro ⟨n, q1, q2, q3, q4⟩
        by_cases z : n = m
        · subst z; exact hc q3
        · exact q ⟨n, by omega, q2, q3, q4⟩
theorem k_L19 {nt t r : Nat} {y : yT} (e : Int32 × List Nat) (hg : gN y nt) (ht : y.2.2.2[t]? = some e) (hr : r < nt) : ∀ (d f m : Nat) (μ : mT), m + d = (y.2.1 8).length + 1 → 1 ≤ m → d + 1 < f → cY μ 1 y →
    ∃ μ', f_X4_couldAfterBringingIn_L19 (nI t) (nI r) (nI (y.2.1 8).length) f 0 (nI m) μ = some (cIf (∃ n, m ≤ n ∧ n ≤ 30 ∧ canQ y r n = true ∧ one (y.1, rwB y.2.1 r n, y.2.2) nt e.2) 1 0, μ') ∧ cY μ' 1 y ∧ only μ μ' (Yd 1) := by
  have hn8 := hg.2.1
  obtain ⟨ho, hD, hT, hl10, hk⟩ := hg.1
  have h30 := (ho 8 (by omega)).1
  intro d
  induction d with
  | zero =>
    intro f m μ hm h1 hf h
    obtain ⟨f, rfl⟩ : ∃ n', f = n' + 1 := ⟨f - 1, by omega⟩
    refine ⟨μ, ?_, h, only.rf⟩
    rw [f_X4_couldAfterBringingIn_L19, if_pos (nI_lt (by omega) (by omega)), q_gd (by decide), cIf_f]
    rintro ⟨n, a1, a2, a3, a4⟩
    have := canQ_le a3
    omega
  | succ d ih =>
    intro f m μ hm h1 hf h
    obtain ⟨f, rfl⟩ : ∃ n', f = n' + 1 := ⟨f - 1, by omega⟩
    rw [f_X4_couldAfterBringingIn_L19, if_neg (nI_nlt (by omega) (by omega)), if_pos rfl, k_canBringIn h ho (by omega) (by omega), q_bd, q_lt]
    by_cases hc : canQ y r m = true
    · rw [if_pos hc, if_neg (by decide)]
      have hle := canQ_le hc
      obtain ⟨μ1, a1, a2, a3⟩ := k_shiftB h.2.1 ho hT (t := r) (by omega) hle
      have h1' : cY μ1 1 (y.1, rwB y.2.1 r m, y.2.2) := ⟨h.1.cong (fun κ _ _ _ => a3 κ 1 (by omega)), a2, h.2.2.1.cong (a3 _ 1 (by omega)) (a3 _ 1 (by omega)) (a3 _ 1 (by omega)), h.2.2.2.cong (a3 _ 1 (by omega)) (a3 _ 1 (by omega)) (a3 _ 1 (by omega)) (a3 _ 1 (by omega))⟩
      have hg1 : gN (y.1, rwB y.2.1 r m, y.2.2) nt := gN_B hg rfl hr hle hl10
      have hle1 : m ≤ (rwB y.2.1 r m r).length := by
        rw [rwB_t, List.length_append, List.length_drop]
        omega
      obtain ⟨μ2, b1, b2, b3⟩ := k_shiftD h1'.2.1 hg1.1.1 hg1.1.2.2.1 (t := r) (by omega) hle1
      have h2' : cY μ2 1 y := by
        have := rwB_D (rw := y.2.1) (t := r) (n := m) (by omega) hle
        rw [show (y.1, rwB y.2.1 r m, y.2.2).2.1 = rwB y.2.1 r m from rfl, this] at b2
        exact ⟨h1'.1.cong (fun κ _ _ _ => b3 κ 1 (by omega)), b2, h1'.2.2.1.cong (b3 _ 1 (by omega)) (b3 _ 1 (by omega)) (b3 _ 1 (by omega)), h1'.2.2.2.cong (b3 _ 1 (by omega)) (b3 _ 1 (by omega)) (b3 _ 1 (by omega)) (b3 _ 1 (by omega))⟩
      have ho2 : only μ μ2 (Yd 1) := (a3.w (by unfold Yd; omega)).tr (b3.w (by unfold Yd; omega))
      rw [a1, q_bd, k_one h1' hg1 ht, q_bd, b1, q_bd]
      dsimp only
      rw [q_lt, z_l1, q_add]
      by_cases ho1 : one (y.1, rwB y.2.1 r m, y.2.2) nt e.2
      · refine ⟨μ2, ?_, h2', ho2⟩
        rw [cIf_t ho1, cIf_t ⟨m, Nat.le_refl _, by omega, hc, ho1⟩]
        obtain ⟨f, rfl⟩ : ∃ n', f = n' + 1 := ⟨f - 1, by omega⟩
        rw [f_X4_couldAfterBringingIn_L19]
        by_cases q : nI (y.2.1 8).length < nI (m + 1)
        · rw [if_pos q, q_gd (by decide)]
        · rw [if_neg q, if_neg (by decide), q_gd (by decide)]
      · rw [cIf_f ho1]
        obtain ⟨μ3, c1, c2, c3⟩ := ih f (m + 1) μ2 (by omega) (by omega) (by omega) h2'
        refine ⟨μ3, ?_, c2, ho2.tr c3⟩
        rw [← z_l1]
        rw [c1]
        by_cases q : ∃ n, m + 1 ≤ n ∧ n ≤ 30 ∧ canQ y r n = true ∧ one (y.1, rwB y.2.1 r n, y.2.2) nt e.2
        · rw [cIf_t q, cIf_t (by obtain ⟨n, q1, q2⟩ := q; exact ⟨n, by omega, q2⟩)]
        · rw [cIf_f q, cIf_f]
          rintro ⟨n, q1, q2, q3, q4⟩
          by_cases z : n = m
          · subst z; exact ho1 q4
          · exact q ⟨n, by omega, q2, q3, q4⟩
    · rw [if_neg hc, if_pos rfl]
      dsimp only
      rw [q_lt, z_l1, q_add]
      obtain ⟨μ3, c1, c2, c3⟩ := ih f (m + 1) μ (by omega) (by omega) (by omega) h
      refine ⟨μ3, ?_, c2, c3⟩
      rw [← z_l1]
      rw [c1]
      by_cases q : ∃ n, m + 1 ≤ n ∧ n ≤ 30 ∧ canQ y r n = true ∧ one (y.1, rwB y.2.1 r n, y.2.2) nt e.2
      · rw [cIf_t q, cIf_t (by obtain ⟨n, q1, q2⟩ := q; exact ⟨n, by omega, q2⟩)]
      · rw [cIf_f q, cIf_f]
        rintro ⟨n, q1, q2, q3, q4⟩
        by_cases z : n = m
        · subst z; exact hc q3
        · exact q ⟨n, by omega, q2, q3, q4⟩
def twoP (y : yT) (nt : Nat) (l : List Nat) (r : Nat) : Prop := ∃ n, 1 ≤ n ∧ n ≤ 30 ∧ canP y r n = true ∧ one (y.1, rwD y.2.1 r n, y.2.2) nt l
def twoQ (y : yT) (nt : Nat) (l : List Nat) (r : Nat) : Prop := ∃ n, 1 ≤ n ∧ n ≤ 30 ∧ canQ y r n = true ∧ one (y.1, rwB y.2.1 r n, y.2.2) nt l
def twoR (y : yT) (nt : Nat) (l : List Nat) : Prop := canR y = true ∧ one (y.1, rwR y.2.1, y.2.2) nt l
def two (y : yT) (nt : Nat) (l : List Nat) : Prop := (∃ r, r < nt ∧ (twoP y nt l r ∨ twoQ y nt l r)) ∨ twoR y nt l
theorem k_cto {nt t r : Nat} {y : yT} {μ : mT} {e : Int32 × List Nat} (h : cY μ 1 y) (hg : gN y nt) (ht : y.2.2.2[t]? = some e) (hr : r < nt) :
    ∃ μ', f_X4_couldAfterTakingOut (nI t) (nI r) μ = some (cIf (twoP y nt e.2 r) 1 0, μ') ∧ cY μ' 1 y ∧ only μ μ' (Yd 1) := by
  have hn8 := hg.2.1
  have h30 := (hg.1.1 r (by omega)).1
  unfold f_X4_couldAfterTakingOut
  rw [k_manyIn (by omega), q_bd, cRow.nl h.2.1 (by omega), z_l1]
  exact k_L18 e hg ht hr (y.2.1 r).length fu 1 μ (by omega) (by omega) (by unfold fu; omega) h
theorem k_cbi {nt t r : Nat} {y : yT} {μ : mT} {e : Int32 × List Nat} (h : cY μ 1 y) (hg : gN y nt) (ht : y.2.2.2[t]? = some e) (hr : r < nt) :
    ∃ μ', f_X4_couldAfterBringingIn (nI t) (nI r) μ = some (cIf (twoQ y nt e.2 r) 1 0, μ') ∧ cY μ' 1 y ∧ only μ μ' (Yd 1) := by
  have hn8 := hg.2.1
  have h30 := (hg.1.1 8 (by omega)).1
  unfold f_X4_couldAfterBringingIn
  rw [z_l8, k_manyIn (by omega), q_bd, cRow.nl h.2.1 (by omega), z_l1]
  exact k_L19 e hg ht hr (y.2.1 8).length fu 1 μ (by omega) (by omega) (by unfold fu; omega) h
theorem k_turn' {j : Nat} {y : yT} {μ : mT} (h : cY μ j y) (ho : rOK y.2.1) :
    ∃ μ', f_X5_turnEngine j μ = some (0, μ') ∧ cY μ' j (y.1, rwR y.2.1, y.2.2) ∧ only μ μ' (Yd j) := by
  have c8 : cRow μ j 8 (y.2.1 8) := by
    have := h.2.1 8 (by omega)
    unfold cw at this
    rwa [if_pos rfl] at this
  obtain ⟨μ1, a1, a2, a3, a4⟩ := k_turnEngine (j := j) (ho 8 (by omega)).1 c8
  refine ⟨μ1, a1, ⟨h.1.cong (fun κ _ _ _ => a4 κ j (by omega)), fun r hr => ?_, h.2.2.1.cong (a4 _ j (by omega)) (a4 _ j (by omega)) (a4 _ j (by omega)), h.2.2.2.cong (a4 _ j (by omega)) (a4 _ j (by omega)) (a4 _ j (by omega)) (a4 _ j (by omega))⟩, a4.w (by unfold Yd; omega)⟩
  show cRow μ1 j r (cw r (rwR y.2.1 r))
  unfold rwR
  by_cases e : r = 8
  · subst e
    unfold cw
    rw [if_pos rfl, if_pos rfl]
    exact a2
  · rw [if_neg e]
    exact a3 r _ (by omega) (rwl ho hr) (h.2.1 r hr)
theorem isB_c {p : Prop} : isB (cIf p 1 0) = true := by
  by_cases h : p
  · rw [cIf_t h]; decide
  · rw [cIf_f h]; decide
theorem k_cgr {nt t : Nat} {y : yT} {μ : mT} {e : Int32 × List Nat} (h : cY μ 1 y) (hg : gN y nt) (ht : y.2.2.2[t]? = some e) :
    ∃ μ', f_X4_couldAfterGoingRound (nI t) μ = some (cIf (twoR y nt e.2) 1 0, μ') ∧ cY μ' 1 y ∧ only μ μ' (Yd 1) := by
  unfold f_X4_couldAfterGoingRound
  rw [k_canGoRound h hg.1.1, q_bd]
  by_cases hc : canR y = true
  · rw [if_pos hc, if_neg (by decide)]
    obtain ⟨μ1, a1, a2, a3⟩ := k_turn' h hg.1.1
    have hg1 : gN (y.1, rwR y.2.1, y.2.2) nt := gN_R hg rfl hg.1.2.2.2.1
    obtain ⟨μ2, b1, b2, b3⟩ := k_turn' a2 hg1.1.1
    rw [show ((y.1, rwR y.2.1, y.2.2) : yT).2.1 = rwR y.2.1 from rfl, rwR_R] at b2
    refine ⟨μ2, ?_, b2, a3.tr b3⟩
    rw [a1, q_bd, k_one a2 hg1 ht, q_bd, b1, q_bd, q_gd isB_c]
    by_cases q : one (y.1, rwR y.2.1, y.2.2) nt e.2
    · rw [cIf_t q, cIf_t ⟨hc, q⟩]
    · rw [cIf_f q, cIf_f (fun z => q z.2)]
  · rw [if_neg hc, if_pos rfl, cIf_f (fun z => hc z.1)]
    exact ⟨μ, rfl, h, only.rf⟩
theorem k_L33 {nt t : Nat} {y : yT} (e : Int32 × List Nat) (hg : gN y nt) (ht : y.2.2.2[t]? = some e) {K : mT → Option (Int32 × mT)} : ∀ (d f r : Nat) (μ : mT), r + d = nt → d < f → cY μ 1 y →
    ∃ μ', ((f_X4_fewestMoves_L33 (nI t) K f (nI r) μ = K μ' ∧ ∀ r', r ≤ r' → r' < nt → ¬ (twoP y nt e.2 r' ∨ twoQ y nt e.2 r')) ∨ (f_X4_fewestMoves_L33 (nI t) K f (nI r) μ = some (2, μ') ∧ ∃ r', r' < nt ∧ (twoP y nt e.2 r' ∨ twoQ y nt e.2 r'))) ∧ cY μ' 1 y ∧ only μ μ' (Yd 1) := by
  have hn8 := hg.2.1
  intro d
  induction d with
  | zero =>
    intro f r μ hr hf h
    obtain ⟨f, rfl⟩ : ∃ n', f = n' + 1 := ⟨f - 1, by omega⟩
    refine ⟨μ, Or.inl ⟨?_, fun r' a b => by omega⟩, h, only.rf⟩
    rw [f_X4_fewestMoves_L33, h.1.tracks, hg.2.2.1, if_pos (nI_le (by omega) (by omega))]
  | succ d ih =>
    intro f r μ hr hf h
    obtain ⟨f, rfl⟩ : ∃ n', f = n' + 1 := ⟨f - 1, by omega⟩
    rw [f_X4_fewestMoves_L33, h.1.tracks, hg.2.2.1, if_neg (nI_ge (by omega) (by omega))]
    obtain ⟨μ1, a1, a2, a3⟩ := k_cto h hg ht (r := r) (by omega)
    rw [a1, q_bd]
    by_cases p1 : twoP y nt e.2 r
    · rw [cIf_t p1, if_neg (by decide)]
      exact ⟨μ1, Or.inr ⟨rfl, r, by omega, Or.inl p1⟩, a2, a3⟩
    rw [cIf_f p1, if_pos rfl]
    obtain ⟨μ2, b1, b2, b3⟩ := k_cbi a2 hg ht (r := r) (by omega)
    rw [b1, q_bd]
    by_cases p2 : twoQ y nt e.2 r
    · rw [cIf_t p2, if_neg (by decide)]
      exact ⟨μ2, Or.inr ⟨rfl, r, by omega, Or.inr p2⟩, b2, a3.tr b3⟩
    rw [cIf_f p2, if_pos rfl, q_lt, z_l1, q_add]
    obtain ⟨μ3, c1, c2, c3⟩ := ih f (r + 1) μ2 (by omega) (by omega) b2
    refine ⟨μ3, ?_, c2, (a3.tr b3).tr c3⟩
    rcases c1 with ⟨x1, x2⟩ | x
    · left
      refine ⟨x1, fun r' q1 q2 z => ?_⟩
      by_cases er : r' = r
      · subst er
        rcases z with z | z
        · exact p1 z
        · exact p2 z
      · exact x2 r' (by omega) q2 z
    · exact Or.inr x
noncomputable def mvS (y : yT) (nt : Nat) (l : List Nat) : Int32 := if y.2.1 8 = l then 0 else cIf (one y nt l) 1 (cIf (two y nt l) 2 (-6))
theorem k_fewestMoves {j nt t : Nat} {y : yT} {μ : mT} {e : Int32 × List Nat} (hj : j ≠ 1) (h : cY μ j y) (hg : gN y nt) (ht : y.2.2.2[t]? = some e) :
    ∃ μ', f_X4_fewestMoves j (nI t) μ = some (mvS y nt e.2, μ') ∧ only μ μ' (Yd 1) := by
  unfold f_X4_fewestMoves mvS
  obtain ⟨μ1, a1, a2, a3⟩ := k_copy (j := 1) (j2 := j) hj h hg.1
  rw [a1, q_bd, k_couldLeave a2 hg.1 ht, q_bd]
  by_cases hq : y.2.1 8 = e.2
  · rw [if_pos hq, if_pos hq, if_neg (by decide)]
    exact ⟨μ1, rfl, a3⟩
  rw [if_neg hq, if_neg hq, if_pos rfl, k_one a2 hg ht, q_bd]
  by_cases ho : one y nt e.2
  · rw [cIf_t ho, cIf_t ho, if_neg (by decide)]
    exact ⟨μ1, rfl, a3⟩
  rw [cIf_f ho, cIf_f ho, if_pos rfl, q_lt, z_l0]
  have hn8 := hg.2.1
  obtain ⟨μ2, b1, b2, b3⟩ := k_L33 e hg ht (K := fun μ10 => bd (f_X4_couldAfterGoingRound (nI t) μ10) (fun v11 μ12 => if v11 = nI 0 then some ((-6), μ12) else some (2, μ12))) nt fu 0 μ1 (Nat.zero_add _) (by unfold fu; omega) a2
  rcases b1 with ⟨x1, x2⟩ | ⟨x1, r', x2, x3⟩
  · obtain ⟨μ3, c1, c2, c3⟩ := k_cgr b2 hg ht
    refine ⟨μ3, ?_, (a3.tr b3).tr c3⟩
    rw [x1, c1, q_bd]
    by_cases q : twoR y nt e.2
    · rw [cIf_t q, if_neg (by decide), cIf_t (show two y nt e.2 from Or.inr q)]
    · rw [cIf_f q, if_pos (show (0 : Int32) = nI 0 from rfl), cIf_f]
      rintro (⟨r', z1, z2⟩ | z)
      · exact x2 r' (Nat.zero_le _) z1 z2
      · exact q z
  · refine ⟨μ2, ?_, a3.tr b3⟩
    rw [x1, cIf_t (show two y nt e.2 from Or.inl ⟨r', x2, x3⟩)]
