theorem m_ff1 {m : Int32} {y : yT} {μ : mT} (h : mY (μ 28 0) y) (hl : y.2.2.1.length ≤ 10) {K : Int32 → Int32 → mT → Option (Int32 × mT)} : ∀ (d n i : Nat) (t q : Int32), i + d = y.2.2.1.length → d < n →
    ∃ q', f_X8_freeAt_L16 m K n t q (nI i) μ = K ((y.2.2.1.drop i).foldl (ob m) t) q' μ ∧ (((y.2.2.1.drop i).foldl (ob m) t = t ∧ q' = q) ∨ (t < (y.2.2.1.drop i).foldl (ob m) t ∧ q' = 1 ∧ ∃ b ∈ y.2.2.1, (y.2.2.1.drop i).foldl (ob m) t = b.2)) := by
  have e13 : μ 28 0 (13 : Int32).toNatClampNeg = nI y.2.2.1.length := h.2.2.1.1
  intro d
  induction d with
  | zero =>
    intro n i t q hi hd
    obtain ⟨n, rfl⟩ : ∃ n', n = n' + 1 := ⟨n - 1, by omega⟩
    refine ⟨q, ?_, Or.inl ⟨?_, rfl⟩⟩
    · rw [f_X8_freeAt_L16, e13, if_pos (nI_le (by omega) (by omega)), List.drop_eq_nil_of_le (by omega)]
      rfl
    · rw [List.drop_eq_nil_of_le (by omega)]
      rfl
  | succ d ih =>
    intro n i t q hi hd
    obtain ⟨n, rfl⟩ : ∃ n', n = n' + 1 := ⟨n - 1, by omega⟩
    obtain ⟨b, hb⟩ : ∃ b, y.2.2.1[i]? = some b := ⟨_, List.getElem?_eq_getElem (by omega)⟩
    obtain ⟨b1, b2⟩ := h.2.2.1.2 i b hb
    have hbm : b ∈ y.2.2.1 := List.mem_of_getElem? hb
    rw [f_X8_freeAt_L16, e13, if_neg (nI_ge (by omega) (by omega)), drop_cons_of' hb, List.foldl_cons]
    simp (disch := omega) only [z_l530, z_l2, z_l1, q_mul, q_add, q_gdi, q_cl, b1, b2, q_lt]
    by_cases e1 : t + m ≤ b.1
    · have eo : ob m t b = t := by unfold ob; rw [if_pos e1]
      rw [if_pos e1, eo]
      exact ih n (i + 1) t q (by omega) (by omega)
    · rw [if_neg e1]
      by_cases e2 : b.2 ≤ t
      · have eo : ob m t b = t := by unfold ob; rw [if_neg e1, if_pos e2]
        rw [if_pos e2, eo]
        exact ih n (i + 1) t q (by omega) (by omega)
      · have eo : ob m t b = b.2 := by unfold ob; rw [if_neg e1, if_neg e2]
        rw [if_neg e2, eo]
        obtain ⟨q', g1, g2⟩ := ih n (i + 1) b.2 1 (by omega) (by omega)
        refine ⟨q', g1, Or.inr ?_⟩
        rcases g2 with ⟨g3, g4⟩ | ⟨g3, g4, g5⟩
        · rw [g3]
          exact ⟨Int32.not_le.mp e2, g4, b, hbm, rfl⟩
        · exact ⟨Int32.lt_of_le_of_lt (Int32.le_of_lt (Int32.not_le.mp e2)) g3, g4, g5⟩
def aliv (bl : List (Int32 × Int32)) (t : Int32) : Nat := bl.countP (fun b => decide (t < b.2))
theorem aliv_le {t t' : Int32} (h : t ≤ t') (bl : List (Int32 × Int32)) : aliv bl t' ≤ aliv bl t := by
  induction bl with
  | nil => unfold aliv; rw [List.countP_nil, List.countP_nil]; exact Nat.le_refl 0
  | cons b l ih =>
    unfold aliv at ih ⊢
    rw [List.countP_cons, List.countP_cons]
    by_cases q : t' < b.2
    · rw [if_pos (decide_eq_true q), if_pos (decide_eq_true (Int32.lt_of_le_of_lt h q))]
      omega
    · rw [if_neg (by rw [decide_eq_true_eq]; exact q)]
      omega
theorem aliv_lt {t t' : Int32} (h : t < t') (bl : List (Int32 × Int32)) : (∃ b ∈ bl, t' = b.2) → aliv bl t' < aliv bl t := by
  induction bl with
  | nil =>
    intro hb
    obtain ⟨b, hb, _⟩ := hb
    simp at hb
  | cons b l ih =>
    intro hb
    have hle := aliv_le (Int32.le_of_lt h) l
    unfold aliv at hle ih ⊢
    rw [List.countP_cons, List.countP_cons]
    by_cases q : t' = b.2
    · rw [if_neg (by rw [decide_eq_true_eq, q]; exact Int32.lt_irrefl), if_pos (decide_eq_true (by rw [← q]; exact h))]
      omega
    · have hl : ∃ b ∈ l, t' = b.2 := by
        obtain ⟨b', hb', e⟩ := hb
        rcases List.mem_cons.mp hb' with z | z
        · subst z; exact absurd e q
        · exact ⟨b', z, e⟩
      have ih := ih hl
      by_cases q' : t' < b.2
      · rw [if_pos (decide_eq_true q'), if_pos (decide_eq_true (Int32.lt_of_lt_of_le h (Int32.le_of_lt q')))]
        omega
      · rw [if_neg (by rw [decide_eq_true_eq]; exact q')]
        omega
theorem pasN_fix {m t : Int32} {bl : List (Int32 × Int32)} (h : pas m t bl = t) : ∀ n, pasN m bl n t = t
  | 0 => rfl
  | n + 1 => by
    unfold pasN
    rw [h]
    exact pasN_fix h n
theorem m_ff2 {m : Int32} {y : yT} {μ : mT} (h : mY (μ 28 0) y) (hl : y.2.2.1.length ≤ 10) : ∀ (d n : Nat) (t : Int32), aliv y.2.2.1 t ≤ d → d + 1 < n →
    f_X8_freeAt_L5 m n t 1 μ = some (pasN m y.2.2.1 d t, μ) := by
  intro d
  induction d with
  | zero =>
    intro n t ha hn
    obtain ⟨n, rfl⟩ : ∃ n', n = n' + 1 := ⟨n - 1, by omega⟩
    rw [f_X8_freeAt_L5, if_neg (by decide), q_lt, z_l0]
    obtain ⟨q', g1, g2⟩ := m_ff1 (m := m) h hl (K := fun v9 v10 μ11 => f_X8_freeAt_L5 m n v9 v10 μ11) y.2.2.1.length fu 0 t 0 (by omega) (by unfold fu; omega)
    rw [z_l0] at g1
    rw [g1]
    rcases g2 with ⟨g3, g4⟩ | ⟨g3, g4, g5⟩
    · rw [g3, g4]
      obtain ⟨n, rfl⟩ : ∃ n', n = n' + 1 := ⟨n - 1, by omega⟩
      rw [f_X8_freeAt_L5, if_pos rfl]
      rfl
    · have := aliv_lt g3 y.2.2.1 (by obtain ⟨b, b1, b2⟩ := g5; exact ⟨b, b1, b2⟩)
      omega
  | succ d ih =>
    intro n t ha hn
    obtain ⟨n, rfl⟩ : ∃ n', n = n' + 1 := ⟨n - 1, by omega⟩
    rw [f_X8_freeAt_L5, if_neg (by decide), q_lt, z_l0]
    obtain ⟨q', g1, g2⟩ := m_ff1 (m := m) h hl (K := fun v9 v10 μ11 => f_X8_freeAt_L5 m n v9 v10 μ11) y.2.2.1.length fu 0 t 0 (by omega) (by unfold fu; omega)
    rw [z_l0] at g1
    rw [g1]
    rcases g2 with ⟨g3, g4⟩ | ⟨g3, g4, g5⟩
    · rw [g3, g4]
      obtain ⟨n, rfl⟩ : ∃ n', n = n' + 1 := ⟨n - 1, by omega⟩
      rw [f_X8_freeAt_L5, if_pos rfl, pasN_fix (by simpa [pas] using g3)]
    · have := aliv_lt g3 y.2.2.1 g5
      rw [g4]
      exact ih n _ (by omega) (by omega)
theorem m_freeAt {m t : Int32} {y : yT} {μ : mT} (h : mY (μ 28 0) y) (hl : y.2.2.1.length ≤ 10) : f_X8_freeAt t m μ = some (free m y.2.2.1 t, μ) := by
  unfold f_X8_freeAt free
  exact m_ff2 h hl y.2.2.1.length fu t (List.countP_le_length) (by unfold fu; omega)
theorem only28 {μ μ' : mT} {i : Nat} {x : Int32} (e : μ' = upM μ 28 0 i x) : only μ μ' Mo := (q_uple e).w (fun κ j z => z)
theorem upd_e {f : Nat → Int32} {i x : Nat} {v : Int32} : upd f i v x = if x = i then v else f x := rfl
theorem m_drop {t : Int32} {bl : List (Int32 × Int32)} (hl : bl.length ≤ 10) {K : Int32 → mT → Option (Int32 × mT)} : ∀ (d n i : Nat) (μ : mT) (kl : List (Int32 × Int32)), i + d = bl.length → d < n → kl.length ≤ i → μ 28 0 13 = nI bl.length → (∀ k b, kl[k]? = some b → μ 28 0 (530 + 2 * k) = b.1 ∧ μ 28 0 (530 + 2 * k + 1) = b.2) → (∀ k b, i ≤ k → bl[k]? = some b → μ 28 0 (530 + 2 * k) = b.1 ∧ μ 28 0 (530 + 2 * k + 1) = b.2) →
    ∃ μ', f_X8_comeTo_L12 t K n (nI kl.length) (nI i) μ = K (nI (kl ++ (bl.drop i).filter (kp t)).length) μ' ∧ (∀ k b, (kl ++ (bl.drop i).filter (kp t))[k]? = some b → μ' 28 0 (530 + 2 * k) = b.1 ∧ μ' 28 0 (530 + 2 * k + 1) = b.2) ∧ (∀ x, x < 530 → μ' 28 0 x = μ 28 0 x) ∧ only μ μ' Mo := by
  intro d
  induction d with
  | zero =>
    intro n i μ kl hi hd hk h2 c1 c2
    obtain ⟨n, rfl⟩ : ∃ n', n = n' + 1 := ⟨n - 1, by omega⟩
    have e13 : μ 28 0 (13 : Int32).toNatClampNeg = nI bl.length := h2
    refine ⟨μ, ?_, ?_, fun x _ => rfl, only.rf⟩
    · rw [f_X8_comeTo_L12, e13, if_pos (nI_le (by omega) (by omega)), List.drop_eq_nil_of_le (by omega)]
      simp
    · rw [List.drop_eq_nil_of_le (by omega)]
      simpa using c1
  | succ d ih =>
    intro n i μ kl hi hd hk h2 c1 c2
    obtain ⟨n, rfl⟩ : ∃ n', n = n' + 1 := ⟨n - 1, by omega⟩
    have e13 : μ 28 0 (13 : Int32).toNatClampNeg = nI bl.length := h2
    obtain ⟨b, hb⟩ : ∃ b, bl[i]? = some b := ⟨_, List.getElem?_eq_getElem (by omega)⟩
    obtain ⟨b1, b2⟩ := c2 i b (Nat.le_refl _) hb
    rw [f_X8_comeTo_L12, e13, if_neg (nI_ge (by omega) (by omega)), drop_cons_of' hb, List.filter_cons]
    simp (disch := omega) only [z_l530, z_l2, z_l1, q_mul, q_add, q_gdi, q_cl, b1, b2, q_lt]
    by_cases e : b.2 ≤ t
    · rw [if_pos e, if_neg (by simp [kp, e])]
      exact ih n (i + 1) μ kl (by omega) (by omega) (by omega) h2 c1 (fun k b hk => c2 k b (by omega))
    · rw [if_neg e, if_pos (by simp [kp, e])]
      have e5 : (upM μ 28 0 (530 + 2 * kl.length) b.1) 28 0 (530 + 2 * i + 1) = b.2 := by
        rw [q_up, if_neg (by omega)]
        exact b2
      rw [e5]
      generalize hμ : upM (upM μ 28 0 (530 + 2 * kl.length) b.1) 28 0 (530 + 2 * kl.length + 1) b.2 = μ1
      have ho : only μ μ1 Mo := (only28 rfl).tr (only28 hμ.symm)
      have hx : ∀ x, μ1 28 0 x = if x = 530 + 2 * kl.length + 1 then b.2 else if x = 530 + 2 * kl.length then b.1 else μ 28 0 x := by
        intro x
        rw [← hμ, r28, upd_e, r28, upd_e]
      obtain ⟨μ', g1, g2, g3, g4⟩ := ih n (i + 1) μ1 (kl ++ [b]) (by omega) (by omega) (by simp; omega) (by rw [hx, if_neg (by omega), if_neg (by omega)]; exact h2) (fun k b' hkb => by
        rw [hx, hx]
        by_cases e' : k = kl.length
        · subst e'
          simp at hkb
          rw [if_neg (by omega), if_pos rfl, if_pos rfl, hkb]
          exact ⟨rfl, rfl⟩
        · have hil := (List.getElem?_eq_some_iff.mp hkb).1
          simp at hil
          rw [List.getElem?_append_left (by omega)] at hkb
          rw [if_neg (by omega), if_neg (by omega), if_neg (by omega), if_neg (by omega)]
          exact c1 k b' hkb) (fun k b' hk' hkb => by
        rw [hx, hx, if_neg (by omega), if_neg (by omega), if_neg (by omega), if_neg (by omega)]
        exact c2 k b' (by omega) hkb)
      refine ⟨μ', ?_, ?_, fun x hx' => ?_, ho.tr g4⟩
      · rw [List.length_append] at g1
        rw [show kl ++ b :: List.filter (kp t) (List.drop (i + 1) bl) = kl ++ [b] ++ List.filter (kp t) (List.drop (i + 1) bl) by simp]
        exact g1
      · rw [show kl ++ b :: List.filter (kp t) (List.drop (i + 1) bl) = kl ++ [b] ++ List.filter (kp t) (List.drop (i + 1) bl) by simp]
        exact g2
      · rw [g3 x hx', hx, if_neg (by omega), if_neg (by omega)]
theorem m_comeTo {t : Int32} {y : yT} {μ : mT} (h : mY (μ 28 0) y) (hg : gY y) :
    ∃ μ', f_X8_comeTo t μ = some (0, μ') ∧ mY (μ' 28 0) (ctm y t) ∧ only μ μ' Mo := by
  have hl := hg.2.2.2.1
  have h1 := h.up hg (a0 := 0) (k0 := 6) (i := 6) t (sd0 (by omega)) rfl
  obtain ⟨μ', g1, g2, g3, g4⟩ := m_drop (t := t) (bl := y.2.2.1) hl (K := fun v6 μ7 => lt (upM μ7 28 0 (13 : Int32).toNatClampNeg v6) (fun μ8 => some (0, μ8))) y.2.2.1.length fu 0 (upM μ 28 0 6 t) [] (by omega) (by unfold fu; omega) (Nat.le_refl _) (by rw [r28]; exact h1.2.2.1.1) (fun k b hk => by simp at hk) (fun k b _ hk => by rw [r28]; exact h1.2.2.1.2 k b hk)
  rw [List.drop_zero, List.nil_append] at g1 g2
  refine ⟨upM μ' 28 0 13 (nI (y.2.2.1.filter (kp t)).length), ?_, ?_, (only28 rfl).tr (g4.tr (only28 rfl))⟩
  · unfold f_X8_comeTo
    rw [q_lt, q_lt]
    rw [z_l0]
    exact g1
  · rw [r28]
    have hx : ∀ x, x < 530 → x ≠ 13 → upd (μ' 28 0) 13 (nI (y.2.2.1.filter (kp t)).length) x = upd (μ 28 0) 6 t x := fun x h1 h2 => by
      rw [upd_e, if_neg h2, g3 x h1, r28]
    refine ⟨h1.1.cong (fun x hx' => hx x (by omega) (by omega)), h1.2.1.cong hg.1 (fun x hx' => hx x (by omega) (by omega)), ⟨if_pos rfl, fun i b hi => ?_⟩, h1.2.2.2.cong hg.2.2.2.2 (fun x hx' => hx x (by omega) (by omega))⟩
    rw [upd_e, upd_e, if_neg (by omega), if_neg (by omega)]
    exact g2 i b hi
theorem m_take {m jn : Int32} {y : yT} {μ : mT} (h : mY (μ 28 0) y) (hg : gY y) :
    ∃ μ', f_X8_take m jn μ = some (0, μ') ∧ mY (μ' 28 0) (mvm y m jn) ∧ only μ μ' Mo := by
  have hl := hg.2.2.2.1
  have h1 := h.up hg (a0 := 0) (k0 := 16) (i := 16) (y.1 0 16 + (mvf y m jn - y.1 0 6)) (sd0 (by omega)) rfl
  have h2 := h1.up (y := (sU y.1 0 16 (y.1 0 16 + (mvf y m jn - y.1 0 6)), y.2)) hg (a0 := 0) (k0 := 14) (i := 14) (y.1 0 14 + jn) (sd0 (by omega)) rfl
  have h3 := h2.up (y := (sU (sU y.1 0 16 (y.1 0 16 + (mvf y m jn - y.1 0 6))) 0 14 (y.1 0 14 + jn), y.2)) hg (a0 := 0) (k0 := 15) (i := 15) (y.1 0 15 + 1) (sd0 (by omega)) rfl
  rw [← r28, ← r28, ← r28] at h3
  obtain ⟨μ', g1, g2, g3⟩ := m_comeTo (t := mvf y m jn + mvw y m jn) h3 hg
  refine ⟨μ', ?_, g2, only.tr (only28 rfl) (only.tr (only28 rfl) (only.tr (only28 rfl) g3))⟩
  unfold f_X8_take
  have e3 : μ 28 0 (3 : Int32).toNatClampNeg = y.1 0 3 := h.1.z (k := 3) (by omega)
  have e6 : μ 28 0 (6 : Int32).toNatClampNeg = y.1 0 6 := h.1.z (k := 6) (by omega)
  have e16 : μ 28 0 16 = y.1 0 16 := h.1.z (k := 16) (by omega)
  have ew : m + jn * y.1 0 3 = mvw y m jn := rfl
  have ef : free (mvw y m jn) y.2.2.1 (y.1 0 6) = mvf y m jn := rfl
  have z16 : (16 : Int32).toNatClampNeg = 16 := rfl
  have z14 : (14 : Int32).toNatClampNeg = 14 := rfl
  have z15 : (15 : Int32).toNatClampNeg = 15 := rfl
  have a1 : (upM μ 28 0 16 (y.1 0 16 + (mvf y m jn - y.1 0 6))) 28 0 14 = y.1 0 14 := by rw [q_up, if_neg (by omega)]; exact h.1.z (k := 14) (by omega)
  have a2 : (upM (upM μ 28 0 16 (y.1 0 16 + (mvf y m jn - y.1 0 6))) 28 0 14 (y.1 0 14 + jn)) 28 0 15 = y.1 0 15 := by rw [q_up, if_neg (by omega), q_up, if_neg (by omega)]; exact h.1.z (k := 15) (by omega)
  simp only [q_lt, e3, ew, e6, m_freeAt h hl, ef, q_bd, e16, z16, z14, z15, a1, a2, g1]
