def pC (μ : mT) (tx : List Nat) : Prop := μ 21 0 0 = nI tx.length ∧ tx.length ≤ 80 ∧ ∀ i c, tx[i]? = some c → μ 25 0 i = nI c
def pM (μ : mT) (tx : List Nat) : Prop := μ 27 0 8 = nI tx.length ∧ tx.length ≤ 80 ∧ ∀ i c, tx[i]? = some c → μ 34 0 i = nI c
theorem toC_n {b : Nat} (h : b < 256) : toC (nI b) = nI b := by
  unfold toC
  rw [pk_char, pk_tn (by omega), Nat.mod_eq_of_lt (by omega)]
theorem byte_at {N k : Nat} (h : N < 2 ^ 64) (hk : k < 8) : (shrL (lN N) (nI (8 * k)) &&& 255).toInt32 = nI (N / 256 ^ k % 256) := by
  have h2 : N / 2 ^ (8 * k) < 2 ^ 64 := Nat.lt_of_le_of_lt (Nat.div_le_self _ _) h
  rw [l_shr h (by omega), l_and h2, lN_i, Nat.pow_mul]
theorem k_ap {N L n : Nat} (hN : N < 2 ^ 64) (hn : n = (bysL 8 N).length) (hL : L + n ≤ 80) : ∀ (d f i : Nat) (μ : mT), i + d = n → d < f → μ 21 0 0 = nI L → (∀ x c, x < i → (bysL 8 N).reverse[x]? = some c → μ 25 0 (L + x) = nI c) →
    ∃ μ', (∀ K, f_X2_append_L29 (lN N) (nI n) K f (nI i) μ = K μ') ∧ (∀ x c, (bysL 8 N).reverse[x]? = some c → μ' 25 0 (L + x) = nI c) ∧ (∀ x, x < L → μ' 25 0 x = μ 25 0 x) ∧ only μ μ' (fun κ j => κ = 25 ∧ j = 0) := by
  have hn8 := bysL_len 8 N
  intro d
  induction d with
  | zero =>
    intro f i μ hi hf h21 hx
    obtain ⟨f, rfl⟩ : ∃ n', f = n' + 1 := ⟨f - 1, by omega⟩
    refine ⟨μ, fun K => ?_, fun x c q => hx x c ?_ q, fun _ _ => rfl, only.rf⟩
    · rw [f_X2_append_L29, if_pos (nI_le (by omega) (by omega))]
    · have := (List.getElem?_eq_some_iff.mp q).1
      rw [List.length_reverse] at this
      omega
  | succ d ih =>
    intro f i μ hi hf h21 hx
    obtain ⟨f, rfl⟩ : ∃ n', f = n' + 1 := ⟨f - 1, by omega⟩
    obtain ⟨c, hc⟩ : ∃ c, (bysL 8 N)[n - 1 - i]? = some c := ⟨_, List.getElem?_eq_getElem (by omega)⟩
    have hcr : (bysL 8 N).reverse[i]? = some c := by
      rw [List.getElem?_reverse (by omega), ← hn]
      exact hc
    have hcv := bysL_get 8 N _ c hc
    have hc256 : c < 256 := by rw [hcv]; exact Nat.mod_lt _ (by decide)
    have esh : (8 : Int32) * ((nI n - 1) - nI i) = nI (8 * (n - 1 - i)) := by rw [z_l1, q_sub (by omega), q_sub (by omega), z_l8, q_mul]
    have ev : (shrL (lN N) (8 * ((nI n - 1) - nI i)) &&& 255).toInt32 = nI c := by rw [esh, byte_at hN (by omega), ← hcv]
    have ho : only μ (upM μ 25 0 (L + i) (nI c)) (fun κ j => κ = 25 ∧ j = 0) := q_uple rfl
    obtain ⟨μ', g1, g2, g3, g4⟩ := ih f (i + 1) (upM μ 25 0 (L + i) (nI c)) (by omega) (by omega) (by rw [ho 21 0 (by omega)]; exact h21) (fun x c' q1 q2 => by
      rw [q_up]
      by_cases cx : x = i
      · rw [if_pos ⟨rfl, rfl, by omega⟩]
        rw [cx, hcr] at q2
        cases q2
        rfl
      · rw [if_neg (by omega)]
        exact hx x c' (by omega) q2)
    refine ⟨μ', fun K => ?_, g2, fun x hxL => by rw [g3 x hxL, q_up, if_neg (by omega)], ho.tr g4⟩
    rw [f_X2_append_L29, if_neg (nI_ge (by omega) (by omega)), ev, h21, q_add, q_gdi (by omega) (by omega), q_gd (by rw [decide_eq_true_eq]; exact pk_vc _), q_cl (by omega), q_lt, q_lt, toC_n hc256, show (nI i + 1 : Int32) = nI (i + 1) from nI_1 i]
    exact g1 K
theorem pC.app {μ : mT} {tx l : List Nat} (hl : tx.length + l.length ≤ 80) (h1 : ∀ x c, l[x]? = some c → μ 25 0 (tx.length + x) = nI c) (h2 : ∀ i c, tx[i]? = some c → μ 25 0 i = nI c) : pC (upM μ 21 0 0 (nI (tx.length + l.length))) (tx ++ l) := by
  refine ⟨by rw [q_up, if_pos ⟨rfl, rfl, rfl⟩, List.length_append], by rw [List.length_append]; exact hl, fun i c q => ?_⟩
  rw [q_upn (by omega)]
  by_cases ci : i < tx.length
  · rw [List.getElem?_append_left ci] at q
    exact h2 i c q
  · rw [List.getElem?_append_right (by omega)] at q
    have := h1 _ c q
    rw [show tx.length + (i - tx.length) = i by omega] at this
    exact this
def nL (a : Int64) : Nat := a.toBitVec.toNat
theorem nL_n {N : Nat} (h : N < 2 ^ 64) : nL (lN N) = N := by
  unfold nL
  rw [l_bv, BitVec.toNat_ofNat, Nat.mod_eq_of_lt h]
theorem k_put {μ : mT} {tx : List Nat} {a : Int64} (h : pC μ tx) : ∃ μ', f_X7_put a μ = some ((sPut tx (nL a)).1, μ') ∧ pC μ' (sPut tx (nL a)).2 ∧ only μ μ' (fun κ j => (κ = 21 ∨ κ = 25) ∧ j = 0) := by
  obtain ⟨N, hN, rfl⟩ := l_of a
  rw [nL_n hN]
  have hn8 := bysL_len 8 N
  obtain ⟨h1, h2, h3⟩ := h
  have ht := k_told 8 fu 0 N μ rfl (by unfold fu; omega) hN
  rw [← z_l0] at ht
  unfold f_X7_put f_X2_append f_X2_manyTold sPut
  rw [ht, q_bd]
  by_cases c0 : (bysL 8 N).length = 0
  · rw [if_pos c0, if_pos (by rw [c0]; split <;> rfl), q_bd]
    exact ⟨μ, rfl, ⟨h1, h2, h3⟩, only.rf⟩
  rw [if_neg c0]
  by_cases c1 : okB (bysL 8 N) = true
  · rw [if_pos c1, if_pos c1, Nat.zero_add, if_neg (nI_ne0 (by omega) (by omega)), h1, q_add, show (80 : Int32) = nI 80 from rfl]
    by_cases c2 : tx.length + (bysL 8 N).length ≤ 80
    · rw [if_pos (nI_le c2 (by omega)), if_pos c2, q_lt]
      obtain ⟨μ1, a1, a2, a3, a4⟩ := k_ap hN rfl c2 (bysL 8 N).length fu 0 μ (by omega) (by unfold fu; omega) h1 (fun x c q => absurd q (by omega))
      rw [← z_l0] at a1
      have h21 : μ1 21 0 0 = nI tx.length := by rw [a4 21 0 (by omega)]; exact h1
      rw [a1, h21, q_add, q_lt]
      have e : (upM μ1 21 0 0 (nI (tx.length + (bysL 8 N).length))) 21 0 0 = nI (tx.length + (bysL 8 N).length) := by rw [q_up, if_pos ⟨rfl, rfl, rfl⟩]
      rw [e, q_bd]
      have := pC.app (μ := μ1) (tx := tx) (l := (bysL 8 N).reverse) (by rw [List.length_reverse]; exact c2) a2 (fun i c q => by
        rw [a3 i (List.getElem?_eq_some_iff.mp q).1]
        exact h3 i c q)
      rw [List.length_reverse] at this
      exact ⟨_, rfl, this, (a4.w (by omega)).tr ((q_uple rfl).w (by omega))⟩
    · rw [if_neg (nI_ge (by omega) (by omega)), if_neg c2, q_bd]
      exact ⟨μ, rfl, ⟨h1, h2, h3⟩, only.rf⟩
  · rw [if_neg c1, if_neg c1, if_pos p00, q_bd]
    exact ⟨μ, rfl, ⟨h1, h2, h3⟩, only.rf⟩
theorem k_wipe {μ : mT} {tx : List Nat} (h : pC μ tx) : ∃ μ', f_X7_wipe μ = some (nI tx.length, μ') ∧ pC μ' [] ∧ only μ μ' (fun κ j => κ = 21 ∧ j = 0) := by
  unfold f_X7_wipe f_X2_clear
  rw [q_lt, q_lt, h.1, q_bd]
  exact ⟨_, rfl, ⟨by rw [q_up, if_pos ⟨rfl, rfl, rfl⟩]; rfl, by simp, fun i c q => by simp at q⟩, q_uple rfl⟩
theorem m_wipe {μ : mT} {tx : List Nat} (h : pM μ tx) : ∃ μ', f_X8_wipe μ = some (nI tx.length, μ') ∧ pM μ' [] ∧ only μ μ' (fun κ j => κ = 27 ∧ j = 0) ∧ (∀ x, x ≠ 8 → μ' 27 0 x = μ 27 0 x) := by
  unfold f_X8_wipe
  rw [q_lt, q_lt, h.1]
  exact ⟨_, rfl, ⟨by rw [q_up, if_pos ⟨rfl, rfl, rfl⟩]; rfl, by simp, fun i c q => by simp at q⟩, q_uple rfl, fun x hx => by rw [q_up, if_neg (by omega)]⟩
theorem m_told {a1 : Int64} {K : Int32 → Int64 → mT → Option (Int32 × mT)} {μ : mT} (hK : ∀ v M, M < 2 ^ 64 → M ≠ 0 → K v (lN M) μ = some (-2, μ)) : ∀ (F n i N : Nat), F < n → N < 256 ^ F → F ≤ 8 →
    f_X8_put_L5 a1 K n (nI i) (lN N) μ = if okB (bysL F N) = true then K (nI (i + (bysL F N).length)) (lN 0) μ else some (-2, μ) := by
  intro F
  induction F with
  | zero =>
    intro n i N hn hN _
    obtain ⟨n, rfl⟩ : ∃ n', n = n' + 1 := ⟨n - 1, by omega⟩
    have : N = 0 := by
      rw [Nat.pow_zero] at hN
      omega
    subst this
    rw [f_X8_put_L5, if_pos (by decide)]
    rfl
  | succ F ih =>
    intro n i N hn hN hF
    obtain ⟨n, rfl⟩ : ∃ n', n = n' + 1 := ⟨n - 1, by omega⟩
    have hp : 256 ^ (F + 1) ≤ 256 ^ 8 := Nat.pow_le_pow_right (by omega) (by omega)
    have hN64 : N < 2 ^ 64 := Nat.lt_of_lt_of_le hN hp
    have hm := Nat.mod_lt N (show 0 < 256 by decide)
    rw [f_X8_put_L5, l_and hN64]
    unfold bysL
    by_cases c : N = 0
    · subst c
      rw [if_pos (by decide), if_pos rfl]
      rfl
    · rw [if_neg c, okB_cons]
      by_cases c0 : N % 256 = 0
      · rw [c0, if_pos (by decide), hK _ N hN64 c]
        rfl
      · rw [if_neg (fun q => c0 ((l_eq0 (by omega)).mp q)), lN_i, m_in, q_bd]
        have hrange : (nI (N % 256) < 33 ∨ 126 < nI (N % 256)) ↔ ¬ (33 ≤ N % 256 ∧ N % 256 ≤ 126) := by
          rw [show (33 : Int32) = nI 33 from rfl, show (126 : Int32) = nI 126 from rfl, nI_ltI (by omega) (by omega), nI_ltI (by omega) (by omega)]
          omega
        by_cases c1 : 33 ≤ N % 256 ∧ N % 256 ≤ 126
        · have hd : N / 256 < 256 ^ F := by
            rw [Nat.pow_succ] at hN
            exact Nat.div_lt_of_lt_mul (by rw [Nat.mul_comm]; exact hN)
          rw [if_neg (fun q => hrange.mp q c1), if_neg n10, q_lt, q_lt, show (nI i + 1 : Int32) = nI (i + 1) from nI_1 i, show (8 : Int32) = nI 8 from rfl, l_shr hN64 (by omega), show (2 : Nat) ^ 8 = 256 from rfl, ih n (i + 1) (N / 256) (by omega) hd (by omega)]
          rw [decide_eq_true c1.1, decide_eq_true c1.2]
          simp only [Bool.true_and]
          rw [List.length_cons, show i + 1 + (bysL F (N / 256)).length = i + ((bysL F (N / 256)).length + 1) by omega]
        · rw [if_pos (hrange.mpr c1), if_pos p00, if_neg (by simp; omega)]
theorem m_ap {N0 L n : Nat} (hN : N0 < 2 ^ 64) (hn : n = (bysL 8 N0).length) (hL : L + n ≤ 80) : ∀ (d f : Nat) (μ : mT), d ≤ n → d < f → μ 27 0 8 = nI L → (∀ k c, k < n - d → (bysL 8 N0)[k]? = some c → μ 34 0 (L + (n - 1 - k)) = nI c) →
    ∃ μ', (∀ K, f_X8_put_L85 (nI n) K f (lN (N0 / 256 ^ (n - d))) (nI d - 1) μ = K μ') ∧ (∀ k c, (bysL 8 N0)[k]? = some c → μ' 34 0 (L + (n - 1 - k)) = nI c) ∧ (∀ x, x < L → μ' 34 0 x = μ 34 0 x) ∧ only μ μ' (fun κ j => κ = 34 ∧ j = 0) := by
  have hn8 := bysL_len 8 N0
  intro d
  induction d with
  | zero =>
    intro f μ hi hf h8 hx
    obtain ⟨f, rfl⟩ : ∃ n', f = n' + 1 := ⟨f - 1, by omega⟩
    refine ⟨μ, fun K => ?_, fun k c q => hx k c ?_ q, fun _ _ => rfl, only.rf⟩
    · rw [f_X8_put_L85, if_pos (by decide)]
    · have := (List.getElem?_eq_some_iff.mp q).1
      omega
  | succ d ih =>
    intro f μ hi hf h8 hx
    obtain ⟨f, rfl⟩ : ∃ n', f = n' + 1 := ⟨f - 1, by omega⟩
    obtain ⟨c, hc⟩ : ∃ c, (bysL 8 N0)[n - (d + 1)]? = some c := ⟨_, List.getElem?_eq_getElem (by omega)⟩
    have hcv := bysL_get 8 N0 _ c hc
    have hM : N0 / 256 ^ (n - (d + 1)) < 2 ^ 64 := Nat.lt_of_le_of_lt (Nat.div_le_self _ _) hN
    have ho : only μ (upM μ 34 0 (L + d) (nI c)) (fun κ j => κ = 34 ∧ j = 0) := q_uple rfl
    have hnx : N0 / 256 ^ (n - (d + 1)) / 256 = N0 / 256 ^ (n - d) := by
      rw [Nat.div_div_eq_div_mul, ← Nat.pow_succ, show (n - (d + 1)).succ = n - d by omega]
    obtain ⟨μ', g1, g2, g3, g4⟩ := ih f (upM μ 34 0 (L + d) (nI c)) (by omega) (by omega) (by rw [ho 27 0 (by omega)]; exact h8) (fun k c' q1 q2 => by
      rw [q_up]
      by_cases ck : k = n - (d + 1)
      · rw [if_pos ⟨rfl, rfl, by omega⟩]
        rw [ck, hc] at q2
        cases q2
        rfl
      · rw [if_neg (by omega)]
        exact hx k c' (by omega) q2)
    refine ⟨μ', fun K => ?_, g2, fun x hxL => by rw [g3 x hxL, q_up, if_neg (by omega)], ho.tr g4⟩
    rw [f_X8_put_L85, show nI (d + 1) - 1 = nI d from nI_pred d, if_neg (nI_pos (by omega)), l_and hM, lN_i, ← hcv, h8, q_add, q_gdi (by omega) (by omega), q_cl (by omega), q_lt, q_lt, q_lt, show (8 : Int32) = nI 8 from rfl, l_shr hM (by omega), show (2 : Nat) ^ 8 = 256 from rfl, hnx, show nI d + -1 = nI d - 1 from (Int32.sub_eq_add_neg (nI d) 1).symm]
    exact g1 K
theorem m_put {μ : mT} {tx : List Nat} {a : Int64} (h : pM μ tx) : ∃ μ', f_X8_put a μ = some ((sPut tx (nL a)).1, μ') ∧ pM μ' (sPut tx (nL a)).2 ∧ only μ μ' (fun κ j => (κ = 27 ∨ κ = 34) ∧ j = 0) ∧ (∀ x, x ≠ 8 → μ' 27 0 x = μ 27 0 x) := by
  obtain ⟨N, hN, rfl⟩ := l_of a
  rw [nL_n hN]
  have hn8 := bysL_len 8 N
  obtain ⟨h1, h2, h3⟩ := h
  unfold f_X8_put sPut
  rw [q_lt, z_l0, m_told (fun v M hM hM0 => by rw [if_neg (show ¬ lg_cmp (lN M) 0 = nI 0 from fun q => hM0 ((l_eq0 hM).mp q))]) 8 fu 0 N (by unfold fu; omega) hN (Nat.le_refl _), ← z_l0]
  by_cases c1 : okB (bysL 8 N) = true
  · rw [if_pos c1, if_pos c1, if_pos (by decide), Nat.zero_add]
    by_cases c0 : (bysL 8 N).length = 0
    · rw [if_pos c0, c0, if_pos (by rfl)]
      exact ⟨μ, rfl, ⟨h1, h2, h3⟩, only.rf, fun _ _ => rfl⟩
    rw [if_neg c0, if_neg (nI_ne0 (by omega) (by omega)), h1, q_add, show (80 : Int32) = nI 80 from rfl]
    by_cases c2 : tx.length + (bysL 8 N).length ≤ 80
    · rw [if_pos (nI_le c2 (by omega)), if_pos c2, q_lt, q_lt]
      obtain ⟨μ1, a1, a2, a3, a4⟩ := m_ap hN rfl c2 (bysL 8 N).length fu μ (Nat.le_refl _) (by unfold fu; omega) h1 (fun k c q => absurd q (by omega))
      rw [Nat.sub_self, Nat.pow_zero, Nat.div_one] at a1
      have h21 : μ1 27 0 8 = nI tx.length := by rw [a4 27 0 (by omega)]; exact h1
      rw [a1, h21, q_add, q_lt]
      have e : (upM μ1 27 0 8 (nI (tx.length + (bysL 8 N).length))) 27 0 8 = nI (tx.length + (bysL 8 N).length) := by rw [q_up, if_pos ⟨rfl, rfl, rfl⟩]
      rw [e]
      refine ⟨_, rfl, ⟨by rw [q_up, if_pos ⟨rfl, rfl, rfl⟩, List.length_append, List.length_reverse], by rw [List.length_append, List.length_reverse]; exact c2, fun i c q => ?_⟩, (a4.w (by omega)).tr ((q_uple rfl).w (by omega)), fun x hx => by rw [q_up, if_neg (by omega), a4 27 0 (by omega)]⟩
      rw [q_upn (by omega)]
      by_cases ci : i < tx.length
      · rw [List.getElem?_append_left ci] at q
        rw [a3 i ci]
        exact h3 i c q
      · rw [List.getElem?_append_right (by omega)] at q
        have hil := (List.getElem?_eq_some_iff.mp q).1
        rw [List.length_reverse] at hil
        rw [List.getElem?_reverse hil] at q
        have := a2 _ c q
        rw [show tx.length + ((bysL 8 N).length - 1 - ((bysL 8 N).length - 1 - (i - tx.length))) = i by omega] at this
        exact this
    · rw [if_neg (nI_ge (by omega) (by omega)), if_neg c2]
      exact ⟨μ, rfl, ⟨h1, h2, h3⟩, only.rf, fun _ _ => rfl⟩
  · rw [if_neg c1, if_neg c1]
    exact ⟨μ, by split <;> rfl, by split <;> exact ⟨h1, h2, h3⟩, only.rf, fun _ _ => rfl⟩
