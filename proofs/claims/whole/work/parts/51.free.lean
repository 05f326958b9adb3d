theorem ob_cases (m t : Int32) (b : Int32 × Int32) : ob m t b = t ∨ (t < ob m t b ∧ ob m t b = b.2) := by
  unfold ob
  by_cases c : t + m ≤ b.1
  · rw [if_pos c]; exact Or.inl rfl
  · rw [if_neg c]
    by_cases c2 : b.2 ≤ t
    · rw [if_pos c2]; exact Or.inl rfl
    · rw [if_neg c2]; exact Or.inr ⟨Int32.not_le.mp c2, rfl⟩
theorem pas_cases (m : Int32) : ∀ (bl : List (Int32 × Int32)) (t : Int32), pas m t bl = t ∨ (t < pas m t bl ∧ ∃ b ∈ bl, pas m t bl = b.2)
  | [], t => Or.inl rfl
  | b :: bl, t => by
    have e : pas m t (b :: bl) = pas m (ob m t b) bl := rfl
    rw [e]
    rcases ob_cases m t b with h | ⟨h1, h2⟩
    · rw [h]
      rcases pas_cases m bl t with q | ⟨q1, b', q2, q3⟩
      · exact Or.inl q
      · exact Or.inr ⟨q1, b', List.mem_cons_of_mem _ q2, q3⟩
    · rcases pas_cases m bl (ob m t b) with q | ⟨q1, b', q2, q3⟩
      · rw [q]
        exact Or.inr ⟨h1, b, List.mem_cons_self, h2⟩
      · exact Or.inr ⟨Int32.lt_trans h1 q1, b', List.mem_cons_of_mem _ q2, q3⟩
theorem pas_ge (m : Int32) (bl : List (Int32 × Int32)) (t : Int32) : t ≤ pas m t bl := by
  rcases pas_cases m bl t with h | ⟨h, -⟩
  · rw [h]; exact Int32.le_refl t
  · exact Int32.le_of_lt h
theorem pasN_stab {m : Int32} {bl : List (Int32 × Int32)} : ∀ (d : Nat) (t : Int32), aliv bl t ≤ d → ∀ n, d ≤ n → pasN m bl n t = pasN m bl d t
  | 0, t, h, n, hn => by
    rcases pas_cases m bl t with q | ⟨q1, q2⟩
    · rw [pasN_fix q n]; rfl
    · have := aliv_lt q1 bl q2
      omega
  | d + 1, t, h, n, hn => by
    obtain ⟨n, rfl⟩ : ∃ n', n = n' + 1 := ⟨n - 1, by omega⟩
    rcases pas_cases m bl t with q | ⟨q1, q2⟩
    · rw [pasN_fix q, pasN_fix q]
    · have := aliv_lt q1 bl q2
      show pasN m bl n (pas m t bl) = pasN m bl d (pas m t bl)
      exact pasN_stab d _ (by omega) n (by omega)
theorem ob_le {m t : Int32} {b : Int32 × Int32} (h : b.2 ≤ t) : ob m t b = t := by
  unfold ob
  rw [if_pos h]
  split <;> rfl
theorem ob_ge (m t : Int32) (b : Int32 × Int32) : t ≤ ob m t b := by
  rcases ob_cases m t b with h | ⟨h, -⟩
  · rw [h]; exact Int32.le_refl t
  · exact Int32.le_of_lt h
theorem pas_filter {m t0 : Int32} {p : Int32 × Int32 → Bool} : ∀ (bl : List (Int32 × Int32)) (t : Int32), (∀ b ∈ bl, p b = false → b.2 ≤ t0) → t0 ≤ t → pas m t (bl.filter p) = pas m t bl
  | [], t, _, _ => rfl
  | b :: bl, t, h, ht => by
    have e : pas m t (b :: bl) = pas m (ob m t b) bl := rfl
    rw [e]
    cases hb : p b with
    | true =>
      rw [List.filter_cons_of_pos hb]
      show pas m (ob m t b) (bl.filter p) = _
      exact pas_filter bl _ (fun b' q => h b' (List.mem_cons_of_mem _ q)) (Int32.le_trans ht (ob_ge m t b))
    | false =>
      rw [List.filter_cons_of_neg (by rw [hb]; decide), ob_le (Int32.le_trans (h b List.mem_cons_self hb) ht)]
      exact pas_filter bl t (fun b' q => h b' (List.mem_cons_of_mem _ q)) ht
theorem pasN_filter {m t0 : Int32} {p : Int32 × Int32 → Bool} {bl : List (Int32 × Int32)} (h : ∀ b ∈ bl, p b = false → b.2 ≤ t0) : ∀ (n : Nat) (t : Int32), t0 ≤ t → pasN m (bl.filter p) n t = pasN m bl n t
  | 0, _, _ => rfl
  | n + 1, t, ht => by
    show pasN m (bl.filter p) n (pas m t (bl.filter p)) = pasN m bl n (pas m t bl)
    rw [pas_filter bl t h ht]
    exact pasN_filter h n _ (Int32.le_trans ht (pas_ge m bl t))
theorem free_filter {m t0 t : Int32} {p : Int32 × Int32 → Bool} {bl : List (Int32 × Int32)} (h : ∀ b ∈ bl, p b = false → b.2 ≤ t0) (ht : t0 ≤ t) : free m (bl.filter p) t = free m bl t := by
  unfold free
  have h1 : aliv (bl.filter p) t ≤ (bl.filter p).length := List.countP_le_length
  rw [← pasN_stab (m := m) (bl := bl.filter p) (bl.filter p).length t h1 bl.length (List.length_filter_le _ _)]
  exact pasN_filter h _ t ht
theorem pas_bd {m : Int32} {B : Nat} (hB : B < 2147483648) {bl : List (Int32 × Int32)} (h : ∀ b ∈ bl, ∃ e, e ≤ B ∧ b.2 = nI e) {T : Nat} (hT : T ≤ B) : ∃ T', T ≤ T' ∧ T' ≤ B ∧ pas m (nI T) bl = nI T' := by
  rcases pas_cases m bl (nI T) with q | ⟨q1, b, q2, q3⟩
  · exact ⟨T, Nat.le_refl _, hT, q⟩
  · obtain ⟨e, e1, e2⟩ := h b q2
    rw [q3, e2, nI_ltI (by omega) (by omega)] at q1
    exact ⟨e, by omega, e1, by rw [q3, e2]⟩
theorem pasN_bd {m : Int32} {B : Nat} (hB : B < 2147483648) {bl : List (Int32 × Int32)} (h : ∀ b ∈ bl, ∃ e, e ≤ B ∧ b.2 = nI e) : ∀ (n T : Nat), T ≤ B → ∃ T', T ≤ T' ∧ T' ≤ B ∧ pasN m bl n (nI T) = nI T'
  | 0, T, hT => ⟨T, Nat.le_refl _, hT, rfl⟩
  | n + 1, T, hT => by
    obtain ⟨T1, a1, a2, a3⟩ := pas_bd (m := m) hB h hT
    obtain ⟨T2, b1, b2, b3⟩ := pasN_bd (m := m) hB h n T1 a2
    refine ⟨T2, by omega, b2, ?_⟩
    show pasN m bl n (pas m (nI T) bl) = _
    rw [a3, b3]
theorem free_bd {m : Int32} {B : Nat} (hB : B < 2147483648) {bl : List (Int32 × Int32)} (h : ∀ b ∈ bl, ∃ e, e ≤ B ∧ b.2 = nI e) {T : Nat} (hT : T ≤ B) : ∃ T', T ≤ T' ∧ T' ≤ B ∧ free m bl (nI T) = nI T' := pasN_bd hB h _ T hT
def wl (rw0 : Nat → List Nat) (bl : List (Int32 × Int32)) (s2 s3 : Int32) : (Nat → Nat) → Int32 → List (Nat × Nat) → Int32
  | _, t, [] => t
  | k, t, p :: ps => wl rw0 bl s2 s3 (fun r => if r = p.1 then k p.1 + p.2 else k r) (free (s2 + s3 * (if (rw0 p.1).length ≤ k p.1 + p.2 then 1 else 2)) bl t + (s2 + s3 * (if (rw0 p.1).length ≤ k p.1 + p.2 then 1 else 2))) ps
theorem sDraw_s {y : yT} {t n k : Nat} (hk : k ≠ 6 ∧ k ≠ 14 ∧ k ≠ 15 ∧ k ≠ 16) : (sDraw y t n).1 0 k = y.1 0 k := by
  unfold sDraw mvm ctm dO nP
  dsimp only
  rw [sU_n (by omega), sU_n (by omega), sU_n (by omega), sU_n (by omega), sU_n (by omega), if_neg (by omega)]
theorem drS_wl {rw0 : Nat → List Nat} {bl : List (Int32 × Int32)} {a2 a3 B0 : Nat} (h2 : a2 ≤ 1000) (h3 : a3 ≤ 1000) (hbl : ∀ b ∈ bl, ∃ e, e ≤ B0 ∧ b.2 = nI e) : ∀ (ps : List (Nat × Nat)) (y : yT) (k : Nat → Nat) (T Bc : Nat) (p : Int32 × Int32 → Bool), y.1 0 2 = nI a2 → y.1 0 3 = nI a3 → y.1 0 6 = nI T → B0 ≤ Bc → T ≤ Bc → Bc + 3000 * ps.length < 2000000000 → y.2.2.1 = bl.filter p → (∀ b ∈ bl, p b = false → b.2 ≤ nI T) → (∀ r, r < 8 → y.2.1 r = (rw0 r).drop (k r)) → (∀ q ∈ ps, q.1 < 8) →
    (drS y ps).1 0 6 = wl rw0 bl (nI a2) (nI a3) k (nI T) ps
  | [], y, k, T, Bc, p, e2, e3, e6, hc, hT, hb, hbf, hp, hr, h8 => e6
  | q :: ps, y, k, T, Bc, p, e2, e3, e6, hc, hT, hb, hbf, hp, hr, h8 => by
    have hq8 := h8 q List.mem_cons_self
    show (drS (sDraw y q.1 q.2) ps).1 0 6 = _
    rw [List.length_cons] at hb
    have hj : jD y q.1 q.2 = if (rw0 q.1).length ≤ k q.1 + q.2 then 1 else 2 := by
      unfold jD
      rw [hr q.1 hq8, List.length_drop]
      by_cases c : (rw0 q.1).length ≤ k q.1 + q.2
      · rw [if_pos c, if_pos (by omega)]
      · rw [if_neg c, if_neg (by omega)]
    obtain ⟨M, hM, hM1, hM2⟩ : ∃ M, M ≤ 3000 ∧ nI a2 + nI a3 * (if (rw0 q.1).length ≤ k q.1 + q.2 then 1 else 2) = nI M ∧ mvw (dO y q.1 q.2) (y.1 0 2) (jD y q.1 q.2) = nI M := by
      have e3' : (dO y q.1 q.2).1 0 3 = nI a3 := by
        unfold dO nP
        dsimp only
        rw [sU_n (by omega), if_neg (by omega)]
        exact e3
      unfold mvw
      rw [hj, e2, e3']
      by_cases c : (rw0 q.1).length ≤ k q.1 + q.2
      · rw [if_pos c]
        exact ⟨a2 + a3 * 1, by omega, by rw [z_l1, q_mul, q_add], by rw [z_l1, q_mul, q_add, Nat.mul_comm]⟩
      · rw [if_neg c]
        exact ⟨a2 + a3 * 2, by omega, by rw [z_l2, q_mul, q_add], by rw [z_l2, q_mul, q_add, Nat.mul_comm]⟩
    have e6' : (dO y q.1 q.2).1 0 6 = nI T := by
      unfold dO nP
      dsimp only
      rw [sU_n (by omega), if_neg (by omega)]
      exact e6
    obtain ⟨T2, t1, t2, t3⟩ := free_bd (m := nI M) (B := Bc) (by omega) (bl := bl) (fun b hb' => by
      obtain ⟨e, a, b'⟩ := hbl b hb'
      exact ⟨e, by omega, b'⟩) hT
    have hmvf : mvf (dO y q.1 q.2) (y.1 0 2) (jD y q.1 q.2) = nI T2 := by
      unfold mvf
      rw [hM2, e6']
      show free (nI M) y.2.2.1 (nI T) = _
      rw [hbf, free_filter hp (Int32.le_refl _), t3]
    have hmin : (sDraw y q.1 q.2).1 0 6 = nI (T2 + M) := by
      unfold sDraw mvm ctm
      dsimp only
      rw [sU_s, hmvf, hM2, q_add]
    have hbl' : (sDraw y q.1 q.2).2.2.1 = bl.filter (fun b => kp (nI (T2 + M)) b && p b) := by
      unfold sDraw mvm ctm
      dsimp only
      rw [hmvf, hM2, q_add]
      show y.2.2.1.filter _ = _
      rw [hbf, List.filter_filter]
    rw [drS_wl (rw0 := rw0) h2 h3 hbl ps (sDraw y q.1 q.2) (fun r => if r = q.1 then k q.1 + q.2 else k r) (T2 + M) (Bc + 3000) _ (by rw [sDraw_s (by omega)]; exact e2) (by rw [sDraw_s (by omega)]; exact e3) hmin (by omega) (by omega) (by omega) hbl' (fun b hb' hpb => by
      rw [Bool.and_eq_false_iff] at hpb
      rcases hpb with z | z
      · unfold kp at z
        simp at z
        exact z
      · exact Int32.le_trans (hp b hb' z) (nI_le (by omega) (by omega))) (fun r hr8 => by
      show rwD y.2.1 q.1 q.2 r = _
      unfold rwD
      by_cases c : r = q.1
      · rw [if_pos c, if_pos c, hr q.1 hq8, List.drop_drop, c]
      · rw [if_neg c, if_neg c, if_neg (by omega), hr r hr8]) (fun q' hq' => h8 q' (List.mem_cons_of_mem _ hq'))]
    show _ = wl rw0 bl (nI a2) (nI a3) _ (free (nI a2 + nI a3 * (if (rw0 q.1).length ≤ k q.1 + q.2 then 1 else 2)) bl (nI T) + (nI a2 + nI a3 * (if (rw0 q.1).length ≤ k q.1 + q.2 then 1 else 2))) ps
    rw [hM1, t3, q_add]
