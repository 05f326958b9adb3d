def mi (a k : Nat) : Nat := if a = 0 then k else if a = 1 then 20 + 4 * k else if a = 2 then 20 + 4 * k + 2 else if a = 3 then 20 + 4 * k + 3 else 326 + a + 4 * k
theorem mi_inj {a k a' k' : Nat} (h : sdom a k) (h' : sdom a' k') (e : mi a k = mi a' k') : a = a' ∧ k = k' := by
  unfold sdom at h h'
  unfold mi at e
  grind (splits := 40)
def rc (r : Nat) : Nat := if r = 8 then 9 else 20 + 4 * r + 1
def mS (ρ : Nat → Int32) (s : sT) : Prop := ∀ a k, sdom a k → ρ (mi a k) = s a k
def mR (ρ : Nat → Int32) (rw : Nat → List Nat) : Prop := ∀ r, r < 9 → ρ (rc r) = nI (rw r).length ∧ ∀ p w, (rw r)[p]? = some w → ρ (60 + 30 * r + p) = nI w
def mB (ρ : Nat → Int32) (bl : List (Int32 × Int32)) : Prop := ρ 13 = nI bl.length ∧ ∀ i b, bl[i]? = some b → ρ (530 + 2 * i) = b.1 ∧ ρ (530 + 2 * i + 1) = b.2
def mN (ρ : Nat → Int32) (tn : List (Int32 × List Nat)) : Prop := ρ 11 = nI tn.length ∧ ∀ t e, tn[t]? = some e → ρ (450 + 10 * t) = e.1 ∧ ρ (450 + 10 * t + 1) = nI e.2.length ∧ ∀ k w, e.2[k]? = some w → ρ (450 + 10 * t + 2 + k) = nI w
def mY (ρ : Nat → Int32) (y : yT) : Prop := mS ρ y.1 ∧ mR ρ y.2.1 ∧ mB ρ y.2.2.1 ∧ mN ρ y.2.2.2
def isS (x : Nat) : Prop := ∃ a k, sdom a k ∧ x = mi a k
theorem mS.cong {ρ ρ' : Nat → Int32} {s : sT} (h : mS ρ s) (e : ∀ x, (x ≤ 8 ∨ x = 10 ∨ x = 12 ∨ (14 ≤ x ∧ x ≤ 17) ∨ (20 ≤ x ∧ x < 52 ∧ x % 4 ≠ 1) ∨ (330 ≤ x ∧ x < 450 ∧ x % 4 ≠ 1)) → ρ' x = ρ x) : mS ρ' s := fun a k hd => by
  rw [e (mi a k) (by unfold mi; unfold sdom at hd; grind (splits := 40))]
  exact h a k hd
theorem mS.up {ρ : Nat → Int32} {s : sT} (h : mS ρ s) {a0 k0 : Nat} (hd : sdom a0 k0) (x : Int32) : mS (upd ρ (mi a0 k0) x) (sU s a0 k0 x) := by
  intro a k hd'
  by_cases e : a = a0 ∧ k = k0
  · obtain ⟨rfl, rfl⟩ := e
    rw [sU_s]
    exact if_pos rfl
  · rw [sU_n e]
    unfold upd
    rw [if_neg (fun z => e (mi_inj hd' hd z))]
    exact h a k hd'
theorem mS.g {ρ : Nat → Int32} {s : sT} (h : mS ρ s) {i : Nat} (a k : Nat) (hd : sdom a k) (e : mi a k = i) : ρ i = s a k := by
  subst e
  exact h a k hd
theorem mS.z {ρ : Nat → Int32} {s : sT} (h : mS ρ s) {k : Nat} (hk : k ≤ 8 ∨ k = 10 ∨ k = 12 ∨ (14 ≤ k ∧ k ≤ 17)) : ρ k = s 0 k := h.g 0 k (sd0 hk) rfl
theorem mS.t1 {ρ : Nat → Int32} {s : sT} (h : mS ρ s) {t : Nat} (ht : t < 8) : ρ (20 + 4 * t) = s 1 t := h.g 1 t (sdt (by omega) ht) rfl
theorem mS.t2 {ρ : Nat → Int32} {s : sT} (h : mS ρ s) {t : Nat} (ht : t < 8) : ρ (20 + 4 * t + 2) = s 2 t := h.g 2 t (sdt (by omega) ht) rfl
theorem mS.t3 {ρ : Nat → Int32} {s : sT} (h : mS ρ s) {t : Nat} (ht : t < 8) : ρ (20 + 4 * t + 3) = s 3 t := h.g 3 t (sdt (by omega) ht) rfl
theorem mS.w4 {ρ : Nat → Int32} {s : sT} (h : mS ρ s) {w : Nat} (hw : w < 30) : ρ (330 + 4 * w) = s 4 w := h.g 4 w (sdw (by omega) hw) rfl
theorem mS.w5 {ρ : Nat → Int32} {s : sT} (h : mS ρ s) {w : Nat} (hw : w < 30) : ρ (330 + 4 * w + 1) = s 5 w := h.g 5 w (sdw (by omega) hw) (by unfold mi; simp only [Nat.reduceEqDiff, ↓reduceIte]; omega)
theorem mS.w6 {ρ : Nat → Int32} {s : sT} (h : mS ρ s) {w : Nat} (hw : w < 30) : ρ (330 + 4 * w + 2) = s 6 w := h.g 6 w (sdw (by omega) hw) (by unfold mi; simp only [Nat.reduceEqDiff, ↓reduceIte]; omega)
theorem rc_t {t : Nat} (h : t < 8) : rc t = 20 + 4 * t + 1 := if_neg (by omega)
theorem mR.n {ρ : Nat → Int32} {rw : Nat → List Nat} (h : mR ρ rw) {t : Nat} (ht : t < 8) : ρ (20 + 4 * t + 1) = nI (rw t).length := by
  rw [← rc_t ht]
  exact (h t (by omega)).1
theorem mR.n8 {ρ : Nat → Int32} {rw : Nat → List Nat} (h : mR ρ rw) : ρ 9 = nI (rw 8).length := (h 8 (by omega)).1
theorem mR.e8 {ρ : Nat → Int32} {rw : Nat → List Nat} (h : mR ρ rw) {p w : Nat} (hp : (rw 8)[p]? = some w) : ρ (300 + p) = nI w := (h 8 (by omega)).2 p w hp
theorem mR.cong {ρ ρ' : Nat → Int32} {rw : Nat → List Nat} (h : mR ρ rw) (ho : rOK rw) (e : ∀ x, x = 9 ∨ (20 ≤ x ∧ x < 52 ∧ x % 4 = 1) ∨ (60 ≤ x ∧ x < 330) → ρ' x = ρ x) : mR ρ' rw := fun r hr => by
  refine ⟨?_, fun p w hp => ?_⟩
  · rw [e (rc r) (by unfold rc; split <;> omega)]
    exact (h r hr).1
  · have := (List.getElem?_eq_some_iff.mp hp).1
    have := (ho r hr).1
    rw [e _ (by omega)]
    exact (h r hr).2 p w hp
theorem mB.cong {ρ ρ' : Nat → Int32} {bl : List (Int32 × Int32)} (h : mB ρ bl) (e : ∀ x, x = 13 ∨ 530 ≤ x → ρ' x = ρ x) : mB ρ' bl :=
  ⟨by rw [e 13 (by omega)]; exact h.1, fun i b hi => ⟨by rw [e _ (by omega)]; exact (h.2 i b hi).1, by rw [e _ (by omega)]; exact (h.2 i b hi).2⟩⟩
theorem mN.cong {ρ ρ' : Nat → Int32} {tn : List (Int32 × List Nat)} (h : mN ρ tn) (ho : tOK tn) (e : ∀ x, x = 11 ∨ (450 ≤ x ∧ x < 530) → ρ' x = ρ x) : mN ρ' tn := by
  refine ⟨by rw [e 11 (by omega)]; exact h.1, fun t e' ht => ?_⟩
  have h8 := ho.1
  have htl := (List.getElem?_eq_some_iff.mp ht).1
  obtain ⟨a1, a2, a3⟩ := h.2 t e' ht
  obtain ⟨o1, o2, o3, o4⟩ := ho.2 t e' ht
  refine ⟨by rw [e _ (by omega)]; exact a1, by rw [e _ (by omega)]; exact a2, fun k w hk => ?_⟩
  have hkl := (List.getElem?_eq_some_iff.mp hk).1
  rw [e _ (by omega)]
  exact a3 k w hk
theorem mY.cong {ρ ρ' : Nat → Int32} {y : yT} (h : mY ρ y) (hg : gY y) (e : ∀ x, x < 560 → ρ' x = ρ x) : mY ρ' y := by
  refine ⟨h.1.cong (fun x hx => e x (by omega)), h.2.1.cong hg.1 (fun x hx => e x (by omega)), ⟨by rw [e 13 (by omega)]; exact h.2.2.1.1, fun i b hi => ?_⟩, h.2.2.2.cong hg.2.2.2.2 (fun x hx => e x (by omega))⟩
  have := (List.getElem?_eq_some_iff.mp hi).1
  have := hg.2.2.2.1
  exact ⟨by rw [e _ (by omega)]; exact (h.2.2.1.2 i b hi).1, by rw [e _ (by omega)]; exact (h.2.2.1.2 i b hi).2⟩
/-- one number of the row is set -/
theorem mY.up {ρ : Nat → Int32} {y : yT} (h : mY ρ y) (hg : gY y) {a0 k0 i : Nat} (x : Int32) (hd : sdom a0 k0) (e : mi a0 k0 = i) : mY (upd ρ i x) (sU y.1 a0 k0 x, y.2) := by
  subst e
  have hne : ∀ x' : Nat, ¬ (x' ≤ 8 ∨ x' = 10 ∨ x' = 12 ∨ (14 ≤ x' ∧ x' ≤ 17) ∨ (20 ≤ x' ∧ x' < 52 ∧ x' % 4 ≠ 1) ∨ (330 ≤ x' ∧ x' < 450)) → upd ρ (mi a0 k0) x x' = ρ x' := fun x' hx => by
    unfold upd
    rw [if_neg]
    intro z
    apply hx
    rw [z]
    unfold mi
    unfold sdom at hd
    grind (splits := 40)
  exact ⟨h.1.up hd x, h.2.1.cong hg.1 (fun x' hx => hne x' (by omega)), h.2.2.1.cong (fun x' hx => hne x' (by omega)), h.2.2.2.cong hg.2.2.2.2 (fun x' hx => hne x' (by omega))⟩
def Mo : Nat → Nat → Prop := fun κ j => κ = 28 ∧ j = 0
theorem r28 {μ : mT} {i : Nat} {x : Int32} : upM μ 28 0 i x 28 0 = upd (μ 28 0) i x := by
  unfold upM
  rw [q_ups]
theorem m_in {a b c : Int32} {μ : mT} : f_X8_in a b c μ = some (if a < b ∨ c < a then 0 else 1, μ) := by
  unfold f_X8_in
  by_cases h1 : a < b
  · rw [if_pos h1, if_pos (Or.inl h1)]
  · rw [if_neg h1]
    by_cases h2 : c < a
    · rw [if_pos h2, if_pos (Or.inr h2)]
    · rw [if_neg h2, if_neg (by rintro (q | q); exact h1 q; exact h2 q)]
theorem m_isIx {a : Int32} {n : Nat} (hn : n < 2147483647) : (a < 0 ∨ nI n - 1 < a) ↔ tIx n a = none := by
  unfold tIx
  by_cases h0 : a < 0
  · simp [h0]
  · obtain ⟨k, hk, rfl⟩ := nI_of h0
    rw [if_neg h0, q_cl hk]
    rcases Nat.eq_zero_or_pos n with rfl | hp
    · simp only [Nat.not_lt_zero, if_false, iff_true]
      exact Or.inr (Int32.lt_of_lt_of_le (show nI 0 - 1 < 0 by decide) (nI_pos' hk))
    · rw [z_l1, q_sub hp]
      by_cases h1 : k < n
      · rw [if_pos h1]
        simp only [reduceCtorEq, iff_false]
        rintro (q | q)
        · exact h0 q
        · exact nI_nlt (by omega) (by omega) q
      · rw [if_neg h1]
        simp only [iff_true]
        exact Or.inr (nI_lt (by omega) hk)
theorem isT_ix {y : yT} {a : Int32} {nt : Nat} (h7 : y.1 0 7 = nI nt) (h8 : nt ≤ 8) : isT y a = (tIx nt a).isSome := by
  cases e : tIx nt a with
  | none =>
    cases hh : isT y a with
    | false => rfl
    | true =>
      obtain ⟨t, ht, rfl⟩ := isT_in h7 h8 hh
      rw [tIx_in ht (by omega)] at e
      cases e
  | some t =>
    obtain ⟨rfl, ht⟩ := tIx_some e
    rw [isT_t h7 h8 ht]
    rfl
theorem m_isTrack {a : Int32} {y : yT} {nt : Nat} {μ : mT} (h : mY (μ 28 0) y) (h7 : y.1 0 7 = nI nt) (h8 : nt ≤ 8) : f_X8_isTrack a μ = some (if isT y a = true then 1 else 0, μ) := by
  unfold f_X8_isTrack
  have e7 : μ 28 0 (7 : Int32).toNatClampNeg = nI nt := (h.1.z (k := 7) (by omega)).trans h7
  rw [e7, m_in, q_bd, isT_ix h7 h8]
  have := m_isIx (a := a) (n := nt) (by omega)
  cases e : tIx nt a with
  | none => rw [if_pos (this.mpr e), q_gd (by decide)]; rfl
  | some t => rw [if_neg (fun z => by rw [this.mp z] at e; cases e), q_gd (by decide)]; rfl
theorem m_isTrain {a : Int32} {y : yT} {μ : mT} (h : mY (μ 28 0) y) (h8 : y.2.2.2.length ≤ 8) : f_X8_isTrain a μ = some (if (tIx y.2.2.2.length a).isSome = true then 1 else 0, μ) := by
  unfold f_X8_isTrain
  have e7 : μ 28 0 (11 : Int32).toNatClampNeg = nI y.2.2.2.length := h.2.2.2.1
  rw [e7, m_in, q_bd]
  have := m_isIx (a := a) (n := y.2.2.2.length) (by omega)
  cases e : tIx y.2.2.2.length a with
  | none => rw [if_pos (this.mpr e), q_gd (by decide)]; rfl
  | some t => rw [if_neg (fun z => by rw [this.mp z] at e; cases e), q_gd (by decide)]; rfl
theorem m_isWagon {a : Int32} {y : yT} {nw : Nat} {μ : mT} (h : mY (μ 28 0) y) (h7 : y.1 0 8 = nI nw) (h8 : nw ≤ 30) : f_X8_isWagon a μ = some (if (tIx nw a).isSome = true then 1 else 0, μ) := by
  unfold f_X8_isWagon
  have e7 : μ 28 0 (8 : Int32).toNatClampNeg = nI nw := (h.1.z (k := 8) (by omega)).trans h7
  rw [e7, m_in, q_bd]
  have := m_isIx (a := a) (n := nw) (by omega)
  cases e : tIx nw a with
  | none => rw [if_pos (this.mpr e), q_gd (by decide)]; rfl
  | some t => rw [if_neg (fun z => by rw [this.mp z] at e; cases e), q_gd (by decide)]; rfl
theorem m_manyOn {t : Nat} {y : yT} {μ : mT} (h : mY (μ 28 0) y) (ht : t < 8) : f_X8_manyOn (nI t) μ = some (nI (y.2.1 t).length, μ) := by
  unfold f_X8_manyOn
  simp (disch := omega) only [q_n6b, q_lt, q_bd, q_gdi, q_cl, q_add, q_mul, ↓reduceIte, nI_eq, nI_leI, nI_ltI, z_l0, z_l1, z_l2, z_l3, z_l4, z_l5, z_l6, z_l7, z_l8, z_l9, z_l10, z_l11, z_l12, z_l13, z_l14, z_l15, z_l16, z_l17, z_l18, z_l19, z_l20, z_l21, z_l22, z_l23, z_l240, z_l270, z_l24, z_l30, z_l31, z_l32, z_l33, z_l40, z_l48, z_l57, z_l59, z_l60, z_l65, z_l80, z_l97, z_l112, z_l113, z_l114, z_l116, z_l119, z_l126, z_l255, z_l300, z_l330, z_l331, z_l332, z_l450, z_l500, z_l530, z_l531, z_l560, z_l999, z_l1000, z_l2000, z_l2800, z_l5000, h.2.1.n ht]
theorem m_lens {r : Nat} {y : yT} {μ : mT} (h : mY (μ 28 0) y) (b : Nat) (l : List Nat) (hb : b + l.length ≤ 560) (hl : ∀ p w, l[p]? = some w → μ 28 0 (b + p) = nI w) (hw : ∀ w ∈ l, w < 30) : ∀ (d f i : Nat) (v : Int32), i + d = l.length → d < f →
    f_X8_lengths_L5 (nI b) (nI l.length) f v (nI i) μ = some (v + ssum (y.1 4) (l.drop i), μ) := by
  intro d
  induction d with
  | zero =>
    intro f i v hi hf
    obtain ⟨f, rfl⟩ : ∃ n', f = n' + 1 := ⟨f - 1, by omega⟩
    rw [f_X8_lengths_L5, if_pos (nI_le (by omega) (by omega)), List.drop_eq_nil_of_le (by omega)]
    simp [ssum]
  | succ d ih =>
    intro f i v hi hf
    obtain ⟨f, rfl⟩ : ∃ n', f = n' + 1 := ⟨f - 1, by omega⟩
    obtain ⟨w, hwi⟩ : ∃ w, l[i]? = some w := ⟨_, List.getElem?_eq_getElem (by omega)⟩
    have hw30 := hw w (List.mem_of_getElem? hwi)
    rw [f_X8_lengths_L5, if_neg (nI_ge (by omega) (by omega)), q_add, q_gdi (by omega) (by omega), q_cl (by omega), hl i w hwi]
    unfold f_X8_lengthOf
    simp (disch := omega) only [q_n6b, q_lt, q_bd, q_gdi, q_cl, q_add, q_mul, ↓reduceIte, nI_eq, nI_leI, nI_ltI, z_l0, z_l1, z_l2, z_l3, z_l4, z_l5, z_l6, z_l7, z_l8, z_l9, z_l10, z_l11, z_l12, z_l13, z_l14, z_l15, z_l16, z_l17, z_l18, z_l19, z_l20, z_l21, z_l22, z_l23, z_l240, z_l270, z_l24, z_l30, z_l31, z_l32, z_l33, z_l40, z_l48, z_l57, z_l59, z_l60, z_l65, z_l80, z_l97, z_l112, z_l113, z_l114, z_l116, z_l119, z_l126, z_l255, z_l300, z_l330, z_l331, z_l332, z_l450, z_l500, z_l530, z_l531, z_l560, z_l999, z_l1000, z_l2000, z_l2800, z_l5000, h.1.w4 hw30]
    rw [ih f (i + 1) _ (by omega) (by omega), drop_cons_of hwi]
    simp only [ssum, Int32.add_assoc]
theorem m_lengths {y : yT} {μ : mT} (h : mY (μ 28 0) y) (b : Nat) (l : List Nat) (hb : b + l.length ≤ 560) (hl : ∀ p w, l[p]? = some w → μ 28 0 (b + p) = nI w) (hw : ∀ w ∈ l, w < 30) : f_X8_lengths (nI b) (nI l.length) μ = some (ssum (y.1 4) l, μ) := by
  unfold f_X8_lengths
  rw [z_l0, m_lens (r := 0) h b l hb hl hw l.length fu 0 (nI 0) (by omega) (by unfold fu; omega), q_0a]
  rfl
theorem m_lengthOn {t : Nat} {y : yT} {μ : mT} (h : mY (μ 28 0) y) (ho : rOK y.2.1) (ht : t < 8) : f_X8_lengthOn (nI t) μ = some (ssum (y.1 4) (y.2.1 t), μ) := by
  unfold f_X8_lengthOn
  have h30 := ho t (by omega)
  rw [m_manyOn h ht, q_bd]
  simp (disch := omega) only [z_l60, z_l30, q_mul, q_add]
  rw [m_lengths h (60 + 30 * t) (y.2.1 t) (by omega) (h.2.1 t (by omega)).2 h30.2.1, q_bd]
theorem m_lengthAtEngine {y : yT} {μ : mT} (h : mY (μ 28 0) y) (ho : rOK y.2.1) : f_X8_lengthAtEngine μ = some (ssum (y.1 4) (y.2.1 8), μ) := by
  unfold f_X8_lengthAtEngine
  have h30 := ho 8 (by omega)
  have e9 : μ 28 0 (9 : Int32).toNatClampNeg = nI (y.2.1 8).length := h.2.1.n8
  rw [e9, z_l300, m_lengths h 300 (y.2.1 8) (by omega) (fun p w hp => h.2.1.e8 hp) h30.2.1, q_bd]
theorem m_canPull {t n : Nat} {y : yT} {μ : mT} (h : mY (μ 28 0) y) (ho : rOK y.2.1) (ht : t < 8) (hn : n < 2147483648) : f_X8_canPull (nI t) (nI n) μ = some (if canP y t n = true then 1 else 0, μ) := by
  unfold f_X8_canPull canP
  have h30 := ho t (by omega)
  rw [m_manyOn h ht, q_bd]
  by_cases hle : n ≤ (y.2.1 t).length
  · rw [if_neg (nI_nlt hle (by omega)), m_lengthAtEngine h ho, q_bd]
    have hl : ((y.2.1 t).take n).length = n := by rw [List.length_take]; omega
    simp (disch := omega) only [z_l60, z_l30, q_mul, q_add]
    have := m_lengths h (60 + 30 * t) ((y.2.1 t).take n) (by omega) (fun p w hp => by
      have hpl := (List.getElem?_eq_some_iff.mp hp).1
      rw [List.getElem?_take_of_lt (by omega)] at hp
      exact (h.2.1 t (by omega)).2 p w hp) (fun w hw => h30.2.1 w (List.mem_of_mem_take hw))
    rw [hl] at this
    rw [this, q_bd]
    have e0 : μ 28 0 (0 : Int32).toNatClampNeg = y.1 0 0 := h.1.z (k := 0) (by omega)
    rw [e0]
    by_cases hs : y.1 0 0 < ssum (y.1 4) (y.2.1 8) + ssum (y.1 4) ((y.2.1 t).take n)
    · simp [hs]
    · simp [hs, hle]
  · rw [if_pos (nI_lt (by omega) hn)]
    simp [hle]
theorem m_canPush {t n : Nat} {y : yT} {μ : mT} (h : mY (μ 28 0) y) (ho : rOK y.2.1) (ht : t < 8) (hn : n < 2147483648) : f_X8_canPush (nI t) (nI n) μ = some (if canQ y t n = true then 1 else 0, μ) := by
  unfold f_X8_canPush canQ
  have h30 := ho 8 (by omega)
  have e9 : μ 28 0 (9 : Int32).toNatClampNeg = nI (y.2.1 8).length := h.2.1.n8
  rw [e9]
  by_cases hle : n ≤ (y.2.1 8).length
  · rw [if_neg (nI_nlt hle (by omega)), m_lengthOn h ho ht, q_bd, e9]
    have hl : ((y.2.1 8).drop ((y.2.1 8).length - n)).length = n := by rw [List.length_drop]; omega
    rw [z_l300, q_add, q_sub (by omega)]
    have := m_lengths h (300 + (y.2.1 8).length - n) ((y.2.1 8).drop ((y.2.1 8).length - n)) (by omega) (fun p w hp => by
      rw [List.getElem?_drop] at hp
      have := h.2.1.e8 hp
      rw [show 300 + (y.2.1 8).length - n + p = 300 + ((y.2.1 8).length - n + p) by omega]
      exact this) (fun w hw => h30.2.1 w (List.mem_of_mem_drop hw))
    rw [hl] at this
    rw [this, q_bd]
    simp (disch := omega) only [z_l20, z_l4, q_mul, q_add, q_gdi, q_cl, h.1.t1 ht]
    by_cases hs : y.1 1 t < ssum (y.1 4) (y.2.1 t) + ssum (y.1 4) ((y.2.1 8).drop ((y.2.1 8).length - n))
    · simp [hs]
    · simp [hs, hle]
  · rw [if_pos (nI_lt (by omega) hn)]
    simp [hle]
theorem m_canRound {y : yT} {μ : mT} (h : mY (μ 28 0) y) (ho : rOK y.2.1) : f_X8_canRound μ = some (if canR y = true then 1 else 0, μ) := by
  unfold f_X8_canRound canR
  have hl := (ho 8 (by omega)).1
  have e9 : μ 28 0 (9 : Int32).toNatClampNeg = nI (y.2.1 8).length := h.2.1.n8
  rw [e9]
  by_cases hle : (y.2.1 8).length = 0
  · rw [if_pos (by rw [hle]; decide)]
    simp [List.length_eq_zero_iff.mp hle]
  · have e1 : μ 28 0 (1 : Int32).toNatClampNeg = y.1 0 1 := h.1.z (k := 1) (by omega)
    rw [if_neg (by rw [z_l0]; exact nI_ge (by omega) (by omega)), m_lengthAtEngine h ho, q_bd, e1]
    have hne : y.2.1 8 ≠ [] := fun e => hle (by rw [e]; rfl)
    by_cases hs : y.1 0 1 < ssum (y.1 4) (y.2.1 8)
    · simp [hs]
    · simp [hs, hne]
