def okL (y : yT) (nw : Nat) : List Nat → List Nat → Bool
  | _, [] => true
  | p, w :: l => decide (w < nw) && decide (y.1 5 w < 0) && !decide (w ∈ p) && okL y nw (p ++ [w]) l
theorem okL_iff {y : yT} {nw : Nat} : ∀ (l p : List Nat), okL y nw p l = true ↔ (∀ w ∈ l, w < nw ∧ y.1 5 w < 0) ∧ (∀ w ∈ l, w ∉ p) ∧ l.Nodup
  | [], p => by simp [okL]
  | w :: l, p => by
    unfold okL
    rw [Bool.and_eq_true, okL_iff l (p ++ [w]), List.nodup_cons]
    simp only [Bool.and_eq_true, decide_eq_true_eq, Bool.not_eq_true', decide_eq_false_iff_not, List.mem_append, List.mem_cons, List.not_mem_nil, or_false, not_or]
    constructor
    · rintro ⟨⟨⟨a, b⟩, c⟩, d, e, f⟩
      exact ⟨fun w' q => q.elim (fun z => by rw [z]; exact ⟨a, b⟩) (d w'), fun w' q => q.elim (fun z => by rw [z]; exact c) (fun z => (e w' z).1), fun z => (e w z).2 rfl, f⟩
    · rintro ⟨d, e, g, f⟩
      exact ⟨⟨⟨(d w (Or.inl rfl)).1, (d w (Or.inl rfl)).2⟩, e w (Or.inl rfl)⟩, fun w' q => d w' (Or.inr q), fun w' q => ⟨e w' (Or.inr q), fun z => g (by rw [← z]; exact q)⟩, f⟩
theorem rOf_iff {nt nw tm B w : Nat} {y : yT} (hi : iY y nt nw tm B) : ¬ rOf y.2.1 w = -6 ↔ w < nw ∧ y.1 5 w < 0 := by
  constructor
  · intro q
    obtain ⟨r, hr, -, hm⟩ := rOf_in q
    have hw := (hi.2.2.1 r hr).1 w hm
    refine ⟨hw, ?_⟩
    rw [hi.2.2.2.2.2.2.1 w hw r hr hm]
    decide
  · rintro ⟨a, b⟩ q
    have := hi.2.2.2.2.2.2.2.1 w a (rOf_out q)
    exact absurd b (Int32.not_lt.mpr this)
theorem areT_iff {nt nw tm B : Nat} {y : yT} (hi : iY y nt nw tm B) (ws : List Nat) : areT y.2.1 ws ↔ ws ≠ [] ∧ okL y nw [] ws = true := by
  rw [okL_iff]
  unfold areT okAt
  constructor
  · rintro ⟨a, b⟩
    refine ⟨a, fun w q => ?_, fun w _ q => (List.not_mem_nil q).elim, ?_⟩
    · obtain ⟨i, hi1, hi2⟩ := List.getElem_of_mem q
      obtain ⟨⟨w', e1, e2⟩, -⟩ := b i hi1
      rw [List.getElem?_eq_getElem hi1, hi2] at e1
      cases e1
      exact (rOf_iff hi).mp e2
    · rw [List.nodup_iff_pairwise_ne, List.pairwise_iff_getElem]
      intro i j hi1 hj hij e
      apply (b j hj).2 i hij
      rw [List.getElem?_eq_getElem hi1, List.getElem?_eq_getElem hj, e]
  · rintro ⟨a, b, -, c⟩
    refine ⟨a, fun i hi1 => ⟨⟨ws[i], List.getElem?_eq_getElem hi1, (rOf_iff hi).mpr (b _ (List.getElem_mem hi1))⟩, fun i' hi' q => ?_⟩⟩
    rw [List.getElem?_eq_getElem hi1, List.getElem?_eq_getElem (by omega)] at q
    rw [List.nodup_iff_pairwise_ne, List.pairwise_iff_getElem] at c
    exact c i' i (by omega) hi1 hi' (Option.some.inj q)
theorem sm32 : ∀ n, n < 32 → ((nI n &&& 31).toBitVec.smod 32).toNat = n := by decide
theorem nI_or (a b : Nat) : nI a ||| nI b = nI (a ||| b) := by
  apply Int32.toBitVec_inj.mp
  rw [Int32.toBitVec_or]
  show BitVec.ofNat 32 a ||| BitVec.ofNat 32 b = BitVec.ofNat 32 (a ||| b)
  apply BitVec.eq_of_getLsbD_eq
  intro i hi
  simp [BitVec.getLsbD_ofNat, Nat.testBit_or, hi]
theorem q_bit {M w : Nat} (hM : M < 2 ^ 30) (hw : w < 30) : ((nI M >>> (nI w &&& 31)) &&& 1) = 1 ↔ M.testBit w = true := by
  have h1 : M / 2 ^ w ≤ M := Nat.div_le_self _ _
  rw [pk_shrN (by omega) _ w (sm32 w (by omega)), pk_andN (by omega) 1 (by decide), show (1 : Int32) = nI 1 from rfl, nI_eq (by omega) (by omega), Nat.testBit_eq_decide_div_mod_eq, decide_eq_true_eq]
theorem q_set {M w : Nat} (hw : w < 30) : nI M ||| (1 <<< (nI w &&& 31)) = nI (M ||| 2 ^ w) := by
  have : 2 ^ w < 2 ^ 30 := Nat.pow_lt_pow_right (by omega) hw
  rw [show (1 : Int32) = nI 1 from rfl, pk_shlN _ w (sm32 w (by omega)) (by omega), Nat.one_mul, nI_or]
theorem m_rd {y : yT} {nw : Nat} (h7 : y.1 0 8 = nI nw) (hnw : nw ≤ 30) : ∀ (F n i N M : Nat) (p : List Nat) (μ : mT), i + F = 8 → F < n → N < 2 ^ 63 → M < 2 ^ 30 → (∀ k, k < 30 → (M.testBit k = true ↔ k ∈ p)) → mY (μ 28 0) y →
    ∃ μ', f_X8_readList_L8 n (lN N) (nI i) (nI M) μ = some ((match rd F N with | some l => if okL y nw p l = true then nI (i + l.length) else 0 | none => 0), μ') ∧ (∀ x, x < i → μ' 35 0 x = μ 35 0 x) ∧ (∀ l, rd F N = some l → okL y nw p l = true → ∀ k w, l[k]? = some w → μ' 35 0 (i + k) = nI w) ∧ only μ μ' (fun κ j => κ = 35 ∧ j = 0) := by
  intro F
  induction F with
  | zero =>
    intro n i N M p μ hi hn hN hM hp hy
    obtain ⟨n, rfl⟩ : ∃ n', n = n' + 1 := ⟨n - 1, by omega⟩
    rw [f_X8_readList_L8]
    unfold rd
    by_cases c : N = 0
    · rw [if_pos ((lg_le hN).mpr c), if_pos c]
      refine ⟨μ, rfl, fun _ _ => rfl, fun l e _ k w q => ?_, only.rf⟩
      cases e
      simp at q
    · rw [if_neg (fun q => c ((lg_le hN).mp q)), if_neg c, q_lt, z_l8, if_pos (by rw [show i = 8 by omega])]
      exact ⟨μ, rfl, fun _ _ => rfl, fun l e => (by cases e), only.rf⟩
  | succ F ih =>
    intro n i N M p μ hi hn hN hM hp hy
    obtain ⟨n, rfl⟩ : ∃ n', n = n' + 1 := ⟨n - 1, by omega⟩
    rw [f_X8_readList_L8]
    unfold rd
    by_cases c : N = 0
    · rw [if_pos ((lg_le hN).mpr c), if_pos c]
      refine ⟨μ, rfl, fun _ _ => rfl, fun l e _ k w q => ?_, only.rf⟩
      cases e
      simp at q
    · rw [if_neg (fun q => c ((lg_le hN).mp q)), if_neg c, q_lt, q_dig hN, z_l8, if_neg (show ¬ nI i = nI 8 from by rw [nI_eq (by omega) (by omega)]; omega)]
      have hm := Nat.mod_lt N (show 0 < 31 by decide)
      by_cases c2 : N % 31 = 0
      · rw [if_pos c2, c2, m_isWagon hy h7 hnw, q_bd, if_neg (show ¬ (tIx nw (nI 0 - 1)).isSome = true from by rw [show tIx nw (nI 0 - 1) = none from if_pos (by decide)]; decide), if_pos p00]
        exact ⟨μ, rfl, fun _ _ => rfl, fun l e => (by cases e), only.rf⟩
      · rw [if_neg c2, z_l1, q_sub (by omega), m_isWagon hy h7 hnw, q_bd]
        generalize hw : N % 31 - 1 = w
        have hw30 : w < 30 := by omega
        have hbad : ∀ (P : Bool), P = false → (match (rd F (N / 31)).map (fun l => w :: l) with | some l => if (P && okL y nw (p ++ [w]) (l.drop 1)) = true then nI (i + l.length) else 0 | none => (0 : Int32)) = 0 := fun P hP => by
          rw [hP]
          cases rd F (N / 31) <;> rfl
        have hok : ∀ l, okL y nw p (w :: l) = (decide (w < nw) && decide (y.1 5 w < 0) && !decide (w ∈ p) && okL y nw (p ++ [w]) l) := fun l => rfl
        have hmatch : (match (rd F (N / 31)).map (fun l => w :: l) with | some l => if okL y nw p l = true then nI (i + l.length) else 0 | none => (0 : Int32)) = (match (rd F (N / 31)).map (fun l => w :: l) with | some l => if ((decide (w < nw) && decide (y.1 5 w < 0) && !decide (w ∈ p)) && okL y nw (p ++ [w]) (l.drop 1)) = true then nI (i + l.length) else 0 | none => (0 : Int32)) := by
          cases rd F (N / 31) <;> rfl
        have hbad2 : (decide (w < nw) && decide (y.1 5 w < 0) && !decide (w ∈ p)) = false → ∀ l, (rd F (N / 31)).map (fun l => w :: l) = some l → ¬ okL y nw p l = true := fun hP l e q => by
          cases e' : rd F (N / 31) with
          | none => rw [e'] at e; cases e
          | some l' =>
            rw [e'] at e
            cases e
            rw [hok, hP] at q
            cases q
        have hxx : ∀ (hP : (decide (w < nw) && decide (y.1 5 w < 0) && !decide (w ∈ p)) = false), ∃ μ', some ((0 : Int32), μ) = some ((match (rd F (N / 31)).map (fun l => w :: l) with | some l => if okL y nw p l = true then nI (i + l.length) else 0 | none => (0 : Int32)), μ') ∧ (∀ x, x < i → μ' 35 0 x = μ 35 0 x) ∧ (∀ l, (rd F (N / 31)).map (fun l => w :: l) = some l → okL y nw p l = true → ∀ k w, l[k]? = some w → μ' 35 0 (i + k) = nI w) ∧ only μ μ' (fun κ j => κ = 35 ∧ j = 0) := fun hP => by
          rw [hmatch, hbad _ hP]
          exact ⟨μ, rfl, fun _ _ => rfl, fun l e q => absurd q (hbad2 hP l e), only.rf⟩
        by_cases d1 : w < nw
        case neg =>
          rw [if_neg (show ¬ (tIx nw (nI w)).isSome = true from by
            unfold tIx
            rw [if_neg (nI_pos (by omega)), q_cl (by omega), if_neg d1]
            decide), if_pos p00]
          exact hxx (by simp [d1])
        rw [if_pos (show (tIx nw (nI w)).isSome = true from by
            unfold tIx
            rw [if_neg (nI_pos (by omega)), q_cl (by omega), if_pos d1]
            rfl), if_neg (by decide), z_l330, z_l4, q_mul, q_add, q_add, q_gdi (by omega) (by omega), q_cl (by omega), hy.1.w5 hw30]
        by_cases d2 : y.1 5 w < 0
        case neg =>
          rw [if_pos (Int32.not_lt.mp d2)]
          exact hxx (by simp [d2])
        rw [if_neg (Int32.not_le.mpr d2)]
        by_cases d3 : w ∈ p
        · rw [← z_l1, if_pos ((q_bit hM hw30).mpr ((hp w hw30).mpr d3))]
          exact hxx (by simp [d3])
        · rw [← z_l1, if_neg (fun q => d3 ((hp w hw30).mp ((q_bit hM hw30).mp q))), q_gdi (by omega) (by omega), q_cl (by omega), q_lt, q_lt, q_lt, q_lt, q_nxt hN, z_l1, q_add, ← z_l1, q_set hw30]
          have hpow : 2 ^ w < 2 ^ 30 := Nat.pow_lt_pow_right (by omega) hw30
          obtain ⟨μ', a1, a2, a3, a4⟩ := ih n (i + 1) (N / 31) (M ||| 2 ^ w) (p ++ [w]) (upM μ 35 0 i (nI w)) (by omega) (by omega) (Nat.lt_of_le_of_lt (Nat.div_le_self _ _) hN) (Nat.or_lt_two_pow hM hpow) (fun k hk => by
            rw [Nat.testBit_or, Bool.or_eq_true, hp k hk, Nat.testBit_two_pow, List.mem_append, List.mem_singleton, decide_eq_true_eq]
            exact or_congr Iff.rfl eq_comm) (by rw [q_upn (by omega)]; exact hy)
          refine ⟨μ', ?_, fun x hx => ?_, fun l e q k w' hk => ?_, only.tr (q_uple rfl) a4⟩
          · rw [a1]
            cases e : rd F (N / 31) with
            | none => rfl
            | some l =>
              dsimp only [Option.map_some]
              rw [hok]
              simp only [d1, d2, d3, decide_true, decide_false, Bool.not_false, Bool.true_and]
              rw [List.length_cons, show i + 1 + l.length = i + (l.length + 1) by omega]
          · rw [a2 x (by omega), q_up, if_neg (by omega)]
          · cases e' : rd F (N / 31) with
            | none => rw [e'] at e; cases e
            | some l' =>
              rw [e'] at e
              cases e
              rw [hok, Bool.and_eq_true] at q
              cases k with
              | zero =>
                simp at hk
                rw [Nat.add_zero, a2 i (by omega), q_up, if_pos ⟨rfl, rfl, rfl⟩, hk]
              | succ k =>
                rw [List.getElem?_cons_succ] at hk
                have := a3 l' e' q.2 k w' hk
                rw [show i + (k + 1) = i + 1 + k by omega]
                exact this
