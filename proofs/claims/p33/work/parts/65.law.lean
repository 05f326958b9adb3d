theorem LI_agree {nt B : Nat} {μ : mT} (hl : LI nt B μ) (hB : B < 800000000) : ∃ μ', f_L_agree μ = some (1, μ') ∧ LI nt B μ' := by
  obtain ⟨y, nw, tm, h, hi, he, hz⟩ := hl
  have := hi.tmB
  obtain ⟨μ', h1, h2⟩ := l_agree h hi he (by omega)
  exact ⟨μ', h1, y, nw, tm, h2, hi, he, hz⟩
theorem l_set {nt B k b : Nat} {kk bb : Int32} {μ : mT} (hl : LI nt B μ) (hkk : kk = nI k) (hbb : bb = nI b) (hk : k = 0 ∨ k = 1 ∨ k = 3) (hb : b ≤ 100) (h3 : k = 3 → b ≤ 3) (hB : B < 800000000) : ∃ r μ', (∀ (α : Type) (K : Int32 → mT → Option α), bm (f_X7_set kk bb μ) μ K = K r μ') ∧ LI nt (B + 5000) μ' := by
  subst hkk
  subst hbb
  obtain ⟨y, nw, tm, ⟨hc, hp, hh⟩, hi, he, hz⟩ := hl
  have htm := hi.tmB
  obtain ⟨μ', k1, k2, k3⟩ := PRc (kt_set (a := nI k) (b := nI b) hh hc hi)
  have hkp := (kp_set (a := nI k) (b := nI b) (⟨nt, nw, tm, hi⟩ : kY y B)).1
  have e6 : (6 : Int32) = nI 6 := rfl
  have er : sSet y (nI k) (nI b) = if nI b < cst 40 k ∨ cst 41 k < nI b then (-2, y) else (y.1 0 k, (sU y.1 0 k (nI b), y.2)) := by
    unfold sSet
    rw [if_neg (fun z => z.elim (fun z => nI_pos (by omega) z) (fun z => nI_ge (a := k) (b := 6) (by omega) (by omega) z)), q_cl (by omega)]
  rw [er] at k1 k2 hkp
  by_cases c : nI b < cst 40 k ∨ cst 41 k < nI b
  · rw [if_pos c] at k1 k2
    exact ⟨_, μ', k1, y, nw, tm, k2, hi.up (by omega), he, hz⟩
  · rw [if_neg c] at k1 k2 hkp
    dsimp only at k1 k2 hkp
    have s0 : ∀ a k', ¬ (a = 0 ∧ k' = k) → sU y.1 0 k (nI b) a k' = y.1 a k' := fun a k' q => sU_n q
    refine ⟨_, μ', k1, _, nw, tm, k2, kY_id hkp (by omega) ((s0 0 7 (by omega)).trans hi.hnt) hi.nt8 ((s0 0 8 (by omega)).trans hi.hnw) hi.nw30 ((s0 0 6 (by omega)).trans hi.htm) (by omega), ?_, fun w h1 h2 => (s0 6 w (by omega)).trans (hz w h1 h2)⟩
    obtain ⟨⟨⟨c', c1', c2'⟩, a2, a3⟩, b1, d, e, f⟩ := he
    have h4 : sU y.1 0 k (nI b) 4 = y.1 4 := funext fun k' => s0 4 k' (by omega)
    have h1' : sU y.1 0 k (nI b) 1 = y.1 1 := funext fun k' => s0 1 k' (by omega)
    have h5 : sU y.1 0 k (nI b) 5 = y.1 5 := funext fun k' => s0 5 k' (by omega)
    refine ⟨⟨?_, (s0 0 2 (by omega)).trans a2, (s0 0 4 (by omega)).trans a3⟩, fun w hw => ?_, fun t ht => ?_, (s0 0 10 (by omega)).trans e, fun w hw hn => ?_⟩
    · by_cases q : k = 3
      · subst q
        exact ⟨b, h3 rfl, sU_s (s := y.1) (a := 0) (k := 3) (x := nI b)⟩
      · exact ⟨c', c1', (s0 0 3 (by omega)).trans c2'⟩
    · dsimp only
      rw [h4]
      exact b1 w hw
    · dsimp only
      rw [h4, h1']
      exact d t ht
    · dsimp only
      rw [h5]
      exact f w hw hn
theorem l_track {nt B a : Nat} {μ : mT} (hl : LI nt B μ) (hnt : nt < 7) (ha : 4 ≤ a ∧ a ≤ 60) (hB : B < 800000000) : ∃ μ', (∀ (α : Type) (K : Int32 → mT → Option α), bm (f_X7_track (nI a) μ) μ K = K (nI nt) μ') ∧ LI (nt + 1) (B + 5000) μ' := by
  obtain ⟨y, nw, tm, ⟨hc, hp, hh⟩, hi, he, hz⟩ := hl
  have htm := hi.tmB
  obtain ⟨μ', k1, k2, k3⟩ := PRc (kt_track (a := nI a) hh hc hi)
  have hkp := kp_track (a := nI a) (⟨nt, nw, tm, hi⟩ : kY y B)
  have e4 : (4 : Int32) = nI 4 := rfl
  have e60 : (60 : Int32) = nI 60 := rfl
  have er : sTrack y (nI a) = (nI nt, (sU (sU y.1 1 nt (nI a)) 0 7 (nI nt + 1), y.2)) := by
    unfold sTrack
    rw [if_neg (by rw [e4, e60, nI_ltI (by omega) (by omega), nI_ltI (by omega) (by omega)]; omega), hi.hnt, if_neg (show ¬ (8 : Int32) ≤ nI nt from fun z => nI_ge (a := nt) (b := 8) (by omega) (by omega) z), q_cl (by omega)]
  rw [er] at k1 k2 hkp
  dsimp only at k1 k2 hkp
  have s0 : ∀ a' k', ¬ (a' = 0 ∧ k' = 7) → ¬ (a' = 1 ∧ k' = nt) → sU (sU y.1 1 nt (nI a)) 0 7 (nI nt + 1) a' k' = y.1 a' k' := fun a' k' q q2 => by rw [sU_n q, sU_n q2]
  refine ⟨μ', k1, _, nw, tm, k2, kY_id hkp (by omega) (by show sU (sU y.1 1 nt (nI a)) 0 7 (nI nt + 1) 0 7 = _; rw [sU_s, nI_1]) (by omega) ((s0 0 8 (by omega) (by omega)).trans hi.hnw) hi.nw30 ((s0 0 6 (by omega) (by omega)).trans hi.htm) (by omega), ?_, fun w h1 h2 => (s0 6 w (by omega) (by omega)).trans (hz w h1 h2)⟩
  obtain ⟨⟨⟨c', c1', c2'⟩, a2, a3⟩, b1, d, e, f⟩ := he
  have h4 : sU (sU y.1 1 nt (nI a)) 0 7 (nI nt + 1) 4 = y.1 4 := funext fun k' => s0 4 k' (by omega) (by omega)
  have h5 : sU (sU y.1 1 nt (nI a)) 0 7 (nI nt + 1) 5 = y.1 5 := funext fun k' => s0 5 k' (by omega) (by omega)
  refine ⟨⟨⟨c', c1', (s0 0 3 (by omega) (by omega)).trans c2'⟩, (s0 0 2 (by omega) (by omega)).trans a2, (s0 0 4 (by omega) (by omega)).trans a3⟩, fun w hw => ?_, fun t ht => ?_, (s0 0 10 (by omega) (by omega)).trans e, fun w hw hn => ?_⟩
  · dsimp only
    rw [h4]
    exact b1 w hw
  · dsimp only
    rw [h4]
    by_cases q : t = nt
    · subst q
      rw [sU_n (by omega), sU_s, hi.2.2.2.2.2.1 t (Nat.le_refl _) ht]
      exact nI_pos (by omega)
    · rw [s0 1 t (by omega) (by omega)]
      exact d t ht
  · dsimp only
    rw [h5]
    exact f w hw hn
section LAW
variable {xs : Nat → Int32} {Ls : Nat} {Q : mT → Prop}
theorem lw_52 {K : mT → Option (Int32 × mT)} (hL : Ls ≤ 260) : ∀ (dd f t B : Nat) (μ : mT), t + dd = 3 → dd < f → LI t B μ → B + 5000 * dd < 800000000 → (∀ μ', LI 3 (B + 5000 * dd) μ' → Gd (K μ') Q) → Gd (f_L_law_L52 xs Ls K f (nI t) μ) Q := by
  intro dd
  induction dd with
  | zero =>
    intro f t B μ ht hf hl hB hK
    obtain ⟨f, rfl⟩ : ∃ n', f = n' + 1 := ⟨f - 1, by omega⟩
    rw [f_L_law_L52, if_pos (show (3 : Int32) ≤ nI t from nI_le (a := 3) (b := t) (by omega) (by omega))]
    rw [show t = 3 by omega] at hl
    exact hK μ hl
  | succ dd ih =>
    intro f t B μ ht hf hl hB hK
    obtain ⟨f, rfl⟩ : ∃ n', f = n' + 1 := ⟨f - 1, by omega⟩
    obtain ⟨v, hv, ev⟩ := l_cellL (xs := xs) (k := 3 + t) (n := 50) (kk := 3 + nI t) (nn := 50) μ hL (q_add 3 t) rfl (by omega) (by omega) (by omega)
    obtain ⟨μ1, x1, x2⟩ := l_track (a := 8 + v) hl (by omega) (by omega) (by omega)
    have e8 : (8 : Int32) + nI v = nI (8 + v) := q_add 8 v
    rw [f_L_law_L52, if_neg (show ¬ (3 : Int32) ≤ nI t from fun z => nI_ge (a := t) (b := 3) (by omega) (by omega) z), ev, q_bd, e8, x1, if_pos rfl, q_lt, nI_1]
    exact ih f (t + 1) (B + 5000) μ1 (by omega) (by omega) x2 (by omega) (fun μ' h => hK μ' (h.up (by omega)))
theorem lw_87 {K : mT → Option (Int32 × mT)} (hL : Ls ≤ 260) : ∀ (dd f k B : Nat) (μ : mT), k + dd = 12 → dd < f → LI 3 B μ → B + 5000 * dd < 800000000 → (∀ μ', LI 3 (B + 5000 * dd) μ' → Gd (K μ') Q) → Gd (f_L_law_L87 xs Ls K f (nI k) μ) Q := by
  intro dd
  induction dd with
  | zero =>
    intro f k B μ hk hf hl hB hK
    obtain ⟨f, rfl⟩ : ∃ n', f = n' + 1 := ⟨f - 1, by omega⟩
    rw [f_L_law_L87, if_pos (show (12 : Int32) ≤ nI k from nI_le (a := 12) (b := k) (by omega) (by omega))]
    exact hK μ hl
  | succ dd ih =>
    intro f k B μ hk hf hl hB hK
    obtain ⟨f, rfl⟩ : ∃ n', f = n' + 1 := ⟨f - 1, by omega⟩
    obtain ⟨t, ht, et⟩ := l_cellL (xs := xs) (k := 6 + k) (n := 3) (kk := 6 + nI k) (nn := 3) μ hL (q_add 6 k) rfl (by omega) (by omega) (by omega)
    obtain ⟨b, hb, eb⟩ := l_cellL (xs := xs) (k := 18 + k) (n := 3) (kk := 18 + nI k) (nn := 3) μ hL (q_add 18 k) rfl (by omega) (by omega) (by omega)
    have e1 : (1 : Int32) + nI b = nI (1 + b) := q_add 1 b
    obtain ⟨y, nw, tm, h, hi, he, hz⟩ := hl
    obtain ⟨μ1, y', nw', x1, x2, x3, x4, x5⟩ := l_isWagon (t := t) (b := 1 + b) h hi he (by omega) ht (by omega) hz
    rw [f_L_law_L87, if_neg (show ¬ (12 : Int32) ≤ nI k from fun z => nI_ge (a := k) (b := 12) (by omega) (by omega) z), et, q_bd, eb, q_bd, e1, x1, q_bd, if_neg (by decide), q_lt, nI_1]
    exact ih f (k + 1) (B + 5000) μ1 (by omega) (by omega) ⟨y', nw', tm, x2, x3, x4, x5⟩ (by omega) (fun μ' h => hK μ' (h.up (by omega)))
theorem lw_130 (hL : Ls ≤ 260) : ∀ (dd f k B : Nat) (μ : mT), k + dd = 48 → dd < f → LI 3 B μ → B + 20000 * dd < 700000000 → Gd (f_L_law_L130 xs Ls f (nI k) μ) (fun _ => True) := by
  intro dd
  induction dd with
  | zero =>
    intro f k B μ hk hf hl hB
    obtain ⟨f, rfl⟩ : ∃ n', f = n' + 1 := ⟨f - 1, by omega⟩
    obtain ⟨μ1, x1, x2⟩ := LI_agree hl (by omega)
    rw [f_L_law_L130, if_pos (show (48 : Int32) ≤ nI k from nI_le (a := 48) (b := k) (by omega) (by omega)), x1, q_bd]
    exact gd_some trivial
  | succ dd ih =>
    intro f k B μ hk hf hl hB
    obtain ⟨f, rfl⟩ : ∃ n', f = n' + 1 := ⟨f - 1, by omega⟩
    have hb1 : B + 5000 < 800000000 := Nat.lt_of_le_of_lt (show B + 5000 ≤ B + 20000 * (dd + 1) by omega) (Nat.lt_of_lt_of_le hB (Nat.le_of_ble_eq_true rfl))
    have e30 : (30 : Int32) + 6 * nI k = nI (30 + 6 * k) := by
      rw [show (6 : Int32) * nI k = nI (6 * k) from q_mul 6 k]
      exact q_add 30 (6 * k)
    have e16 : nI k - nI k / 16 * 16 = nI (k % 16) := q_rem (a := k) (b := 16) (by omega) (by omega)
    obtain ⟨μ1, x1, x2⟩ := l_isAct (xs := xs) (a := 30 + 6 * k) hL hl (by omega) (by omega) (by omega)
    obtain ⟨μ2, x3, x4⟩ := LI_agree x2 hb1
    rw [f_L_law_L130, if_neg (show ¬ (48 : Int32) ≤ nI k from fun z => nI_ge (a := k) (b := 48) (by omega) (by omega) z), e30, x1, q_bd, if_neg (by decide), x3, q_bd, if_neg (by decide), e16]
    refine gd_lt (fun J29 hJ29 => ?_)
    have m29 : ∀ μ', LI 3 (B + 20000) μ' → Gd (J29 μ') (fun _ => True) := fun μ' h => by
      rw [hJ29]
      dsimp only
      rw [q_lt, nI_1]
      exact ih f (k + 1) (B + 20000) μ' (by omega) (by omega) h (by omega)
    by_cases c : nI (k % 16) = 15
    · obtain ⟨y, nw, tm, h, hi, he, hz⟩ := x4
      obtain ⟨μ3, x5, x6⟩ := l_isServed h hi he hz hb1
      rw [if_pos c, x5, q_bd, if_neg (by decide)]
      exact m29 μ3 (x6.up (by omega))
    · rw [if_neg c]
      exact m29 μ2 (x4.up (by omega))
theorem PR0 : PR mem0 y0 := by
  have e22 : ∀ i, mem0 22 0 i = nI (i + 2) := fun i => by
    unfold mem0
    rw [if_neg (by omega), if_pos rfl]
  exact ⟨cY0, (0, fun _ => y0), mem0_0 (by omega), by dsimp only; omega, fun i => i + 2, ⟨fun i hi => ⟨e22 i, by dsimp only; omega, by dsimp only; omega⟩, fun i i' _ _ q => by dsimp only at q; omega⟩, fun i hi => absurd hi (Nat.not_lt_zero i)⟩
theorem LI0 : LI 0 0 mem0 := by
  refine ⟨y0, 0, 0, PR0, kY_id kY0 (by omega) rfl (by omega) rfl (by omega) rfl (by omega), ⟨⟨⟨1, by omega, rfl⟩, rfl, rfl⟩, fun w hw => absurd hw (Nat.not_lt_zero w), fun t ht => ?_, rfl, fun w hw => absurd hw (Nat.not_lt_zero w)⟩, fun w _ hw => ?_⟩
  · show ¬ fv (mi 1 t) < 0
    rw [fv_0 (by unfold mi; rw [if_neg (by omega), if_pos rfl]; omega)]
    decide
  · show fv (mi 6 w) = 0
    exact fv_0 (by unfold mi; rw [if_neg (by omega), if_neg (by omega), if_neg (by omega), if_neg (by omega)]; omega)
theorem law_done (hL : Ls ≤ 260) : ∃ μ', f_L_law xs Ls mem0 = some (1, μ') := by
  have hfu : 100 < fu := by unfold fu; omega
  have hG : Gd (f_L_law xs Ls mem0) (fun _ => True) := by
    unfold f_L_law
    generalize fu = F at hfu ⊢
    obtain ⟨v1, hv1, ev1⟩ := l_cellL (xs := xs) (k := 0) (n := 40) (kk := 0) (nn := 40) mem0 hL rfl rfl (by omega) (by omega) (by omega)
    obtain ⟨r1, μ1, x1, x2⟩ := l_set (k := 0) (b := 4 + v1) (kk := 0) (bb := 4 + nI v1) LI0 rfl (q_add 4 v1) (by omega) (by omega) (by omega) (by omega)
    obtain ⟨v2', hv2, ev2⟩ := l_cellL (xs := xs) (k := 1) (n := 40) (kk := 1) (nn := 40) μ1 hL rfl rfl (by omega) (by omega) (by omega)
    obtain ⟨r2, μ2, x3, x4⟩ := l_set (k := 1) (b := 2 + v2') (kk := 1) (bb := 2 + nI v2') x2 rfl (q_add 2 v2') (by omega) (by omega) (by omega) (by omega)
    obtain ⟨v3, hv3, ev3⟩ := l_cellL (xs := xs) (k := 2) (n := 4) (kk := 2) (nn := 4) μ2 hL rfl rfl (by omega) (by omega) (by omega)
    obtain ⟨r3, μ3, x5, x6⟩ := l_set (k := 3) (b := v3) (kk := 3) (bb := nI v3) x4 rfl rfl (by omega) (by omega) (by omega) (by omega)
    rw [ev1, q_bd, x1, ev2, q_bd, x3, ev3, q_bd, x5]
    refine gd_lt (fun K15 hK15 => ?_)
    refine lw_52 hL 3 F 0 _ μ3 (by omega) (by omega) x6 (by omega) (fun μ4 h4 => ?_)
    rw [hK15]
    dsimp only
    refine gd_lt (fun K19 hK19 => ?_)
    refine lw_87 hL 12 F 0 _ μ4 (by omega) (by omega) h4 (by omega) (fun μ5 h5 => ?_)
    rw [hK19]
    dsimp only
    exact lw_130 hL 48 F 0 _ μ5 (by omega) (by omega) h5 (by omega)
  obtain ⟨μ', h1, -⟩ := hG
  exact ⟨μ', h1⟩
end LAW
