def dF (ρ : Nat → Int32) (ae : Nat) (l : List Nat) (i x : Nat) : Int32 :=
  if 300 + ae ≤ x ∧ x < 300 + ae + i then nI (l.getD (x - (300 + ae)) 0) else if 332 ≤ x ∧ x < 452 ∧ x % 4 = 0 ∧ (x - 332) / 4 ∈ l.take i then ρ x + 1 else ρ x
theorem m_dr1 {t m : Nat} {l : List Nat} {ρ : Nat → Int32} {ae : Nat} (ht : t < 8) (hae : ae + l.length ≤ 30) (hm : m ≤ l.length) (hn : l.Nodup) (hw : ∀ w ∈ l, w < 30) (h9 : ρ 9 = nI ae) (hrow : ∀ p w, l[p]? = some w → ρ (60 + 30 * t + p) = nI w) : ∀ (d f i : Nat) (μ : mT), i + d = m → d < f → (∀ x, μ 28 0 x = dF ρ ae l i x) →
    ∃ μ', (∀ v4 K, f_X8_drawOut_L20 (nI t) (nI m) (nI (60 + 30 * t)) v4 K f (nI i) μ = K μ') ∧ (∀ x, μ' 28 0 x = dF ρ ae l m x) ∧ only μ μ' Mo := by
  intro d
  induction d with
  | zero =>
    intro f i μ hi hf hx
    obtain ⟨f, rfl⟩ : ∃ n', f = n' + 1 := ⟨f - 1, by omega⟩
    refine ⟨μ, ?_, ?_, only.rf⟩
    · intro v4 K
      rw [f_X8_drawOut_L20, if_pos (nI_le (by omega) (by omega))]
    · rw [show m = i by omega]
      exact hx
  | succ d ih =>
    intro f i μ hi hf hx
    obtain ⟨f, rfl⟩ : ∃ n', f = n' + 1 := ⟨f - 1, by omega⟩
    obtain ⟨w, hwi⟩ : ∃ w, l[i]? = some w := ⟨_, List.getElem?_eq_getElem (by omega)⟩
    have hw30 := hw w (List.mem_of_getElem? hwi)
    have hwt : w ∉ l.take i := by
      intro z
      obtain ⟨p, hp⟩ := List.getElem?_of_mem z
      have hpl := (List.getElem?_eq_some_iff.mp hp).1
      rw [List.length_take] at hpl
      rw [List.getElem?_take_of_lt (by omega)] at hp
      have := nd_inj hn hp hwi
      omega
    have hlow : ∀ x, x < 300 → μ 28 0 x = ρ x := fun x h => by
      rw [hx]
      unfold dF
      rw [if_neg (by omega), if_neg (by omega)]
    have e9 : μ 28 0 (9 : Int32).toNatClampNeg = nI ae := (hlow 9 (by omega)).trans h9
    have er : μ 28 0 (60 + 30 * t + i) = nI w := (hlow _ (by omega)).trans (hrow i w hwi)
    have er' : (upM μ 28 0 (300 + ae + i) (nI w)) 28 0 (60 + 30 * t + i) = nI w := by rw [q_up, if_neg (by omega)]; exact er
    have ep : (upM μ 28 0 (300 + ae + i) (nI w)) 28 0 (330 + 4 * w + 2) = ρ (330 + 4 * w + 2) := by
      rw [q_up, if_neg (by omega), hx]
      unfold dF
      rw [if_neg (by omega), if_neg]
      rintro ⟨_, _, _, z⟩
      rw [show (330 + 4 * w + 2 - 332) / 4 = w by omega] at z
      exact hwt z
    have hstep : ∀ v4 K, f_X8_drawOut_L20 (nI t) (nI m) (nI (60 + 30 * t)) v4 K (f + 1) (nI i) μ = f_X8_drawOut_L20 (nI t) (nI m) (nI (60 + 30 * t)) v4 K f (nI (i + 1)) (upM (upM μ 28 0 (300 + ae + i) (nI w)) 28 0 (330 + 4 * w + 2) (ρ (330 + 4 * w + 2) + nI 1)) := by
      intro v4 K
      rw [f_X8_drawOut_L20, if_neg (nI_ge (by omega) (by omega)), e9]
      simp (disch := omega) only [z_l300, z_l330, z_l4, z_l2, z_l1, q_mul, q_add, q_gdi, q_cl, q_lt, er, er', ep]
    simp only [hstep]
    generalize hμ : upM (upM μ 28 0 (300 + ae + i) (nI w)) 28 0 (330 + 4 * w + 2) (ρ (330 + 4 * w + 2) + nI 1) = μ1
    have ho : only μ μ1 Mo := (only28 rfl).tr (only28 hμ.symm)
    obtain ⟨μ', g1, g2, g3⟩ := ih f (i + 1) μ1 (by omega) (by omega) (fun x => by
      rw [← hμ, r28, upd_e, r28, upd_e, hx]
      have htk : l.take (i + 1) = l.take i ++ [w] := by rw [List.take_succ, hwi]; rfl
      unfold dF
      rw [htk]
      by_cases c1 : x = 330 + 4 * w + 2
      · subst c1
        rw [if_pos rfl, if_neg (by omega), if_pos]
        · rfl
        · refine ⟨by omega, by omega, by omega, ?_⟩
          rw [show (330 + 4 * w + 2 - 332) / 4 = w by omega]
          simp
      · rw [if_neg c1]
        by_cases c2 : x = 300 + ae + i
        · subst c2
          rw [if_pos rfl, if_pos (by omega), show 300 + ae + i - (300 + ae) = i by omega, List.getD_eq_getElem?_getD, hwi]
          rfl
        · rw [if_neg c2]
          by_cases c3 : 300 + ae ≤ x ∧ x < 300 + ae + i
          · rw [if_pos c3, if_pos (by omega)]
          · rw [if_neg c3, if_neg (show ¬ (300 + ae ≤ x ∧ x < 300 + ae + (i + 1)) from by omega)]
            by_cases c4 : 332 ≤ x ∧ x < 452 ∧ x % 4 = 0 ∧ (x - 332) / 4 ∈ l.take i
            · rw [if_pos c4, if_pos ⟨c4.1, c4.2.1, c4.2.2.1, List.mem_append_left _ c4.2.2.2⟩]
            · rw [if_neg c4, if_neg]
              rintro ⟨z1, z2, z3, z4⟩
              rcases List.mem_append.mp z4 with z | z
              · exact c4 ⟨z1, z2, z3, z⟩
              · simp at z
                omega)
    exact ⟨μ', g1, g2, ho.tr g3⟩
theorem m_dr2 {t m st : Nat} {ρ : Nat → Int32} (ht : t < 8) (hst : st + m ≤ 30) : ∀ (d f i : Nat) (μ : mT), i + d = st → d < f → (∀ x, μ 28 0 x = if 60 + 30 * t ≤ x ∧ x < 60 + 30 * t + i then ρ (x + m) else ρ x) →
    ∃ μ', (∀ K, f_X8_drawOut_L89 (nI t) (nI m) (nI (60 + 30 * t)) (nI st) K f (nI i) μ = K μ') ∧ (∀ x, μ' 28 0 x = if 60 + 30 * t ≤ x ∧ x < 60 + 30 * t + st then ρ (x + m) else ρ x) ∧ only μ μ' Mo := by
  intro d
  induction d with
  | zero =>
    intro f i μ hi hf hx
    obtain ⟨f, rfl⟩ : ∃ n', f = n' + 1 := ⟨f - 1, by omega⟩
    refine ⟨μ, ?_, ?_, only.rf⟩
    · intro K
      rw [f_X8_drawOut_L89, if_pos (nI_le (by omega) (by omega))]
    · rw [show st = i by omega]
      exact hx
  | succ d ih =>
    intro f i μ hi hf hx
    obtain ⟨f, rfl⟩ : ∃ n', f = n' + 1 := ⟨f - 1, by omega⟩
    have er : μ 28 0 (60 + 30 * t + i + m) = ρ (60 + 30 * t + i + m) := by rw [hx, if_neg (by omega)]
    have hstep : ∀ K, f_X8_drawOut_L89 (nI t) (nI m) (nI (60 + 30 * t)) (nI st) K (f + 1) (nI i) μ = f_X8_drawOut_L89 (nI t) (nI m) (nI (60 + 30 * t)) (nI st) K f (nI (i + 1)) (upM μ 28 0 (60 + 30 * t + i) (ρ (60 + 30 * t + i + m))) := by
      intro K
      rw [f_X8_drawOut_L89, if_neg (nI_ge (by omega) (by omega))]
      simp (disch := omega) only [z_l1, q_add, q_gdi, q_cl, q_lt, er]
    simp only [hstep]
    obtain ⟨μ', g1, g2, g3⟩ := ih f (i + 1) (upM μ 28 0 (60 + 30 * t + i) (ρ (60 + 30 * t + i + m))) (by omega) (by omega) (fun x => by
      rw [r28, upd_e, hx]
      by_cases c : x = 60 + 30 * t + i
      · subst c
        rw [if_pos rfl, if_pos (by omega)]
      · rw [if_neg c]
        by_cases c2 : 60 + 30 * t ≤ x ∧ x < 60 + 30 * t + i
        · rw [if_pos c2, if_pos (by omega)]
        · rw [if_neg c2, if_neg (by omega)])
    exact ⟨μ', g1, g2, (only28 rfl).tr g3⟩
theorem m_drawOut {t n : Nat} {y : yT} {μ : mT} (h : mY (μ 28 0) y) (hg : gY y) (ht : t < 8) (hn : n ≤ (y.2.1 t).length) :
    ∃ μ', f_X8_drawOut (nI t) (nI n) μ = some (jD y t n, μ') ∧ mY (μ' 28 0) (dO y t n) ∧ only μ μ' Mo := by
  obtain ⟨ho, hD, hT, hl10, hk⟩ := hg
  have h30 := ho t (by omega)
  have h308 := ho 8 (by omega)
  have h82 := tot_two (rw := y.2.1) ht
  obtain ⟨μ1, a1, a2, a3⟩ := m_dr1 (t := t) (m := n) (l := y.2.1 t) (ρ := μ 28 0) (ae := (y.2.1 8).length) ht (by omega) hn h30.2.2 h30.2.1 h.2.1.n8 (h.2.1 t (by omega)).2 n fu 0 μ (Nat.zero_add _) (by unfold fu; omega) (fun x => by
    unfold dF
    rw [if_neg (by omega), if_neg (by simp)])
  obtain ⟨μ2, b1, b2, b3⟩ := m_dr2 (t := t) (m := n) (st := (y.2.1 t).length - n) (ρ := μ1 28 0) ht (by omega) ((y.2.1 t).length - n) fu 0 μ1 (Nat.zero_add _) (by unfold fu; omega) (fun x => by rw [if_neg (by omega)])
  have hlow : ∀ x, x < 300 → μ1 28 0 x = μ 28 0 x := fun x hx => by
    rw [a2]
    unfold dF
    rw [if_neg (by omega), if_neg (by omega)]
  have e9 : μ2 28 0 9 = nI (y.2.1 8).length := by rw [b2, if_neg (by omega), hlow 9 (by omega)]; exact h.2.1.n8
  have e2 : μ2 28 0 (20 + 4 * t + 2) = y.1 2 t := by rw [b2, if_neg (by omega), hlow _ (by omega)]; exact h.1.t2 ht
  have z9 : (9 : Int32).toNatClampNeg = 9 := rfl
  have e22 : (upM (upM μ2 28 0 9 (nI ((y.2.1 8).length + n))) 28 0 (20 + 4 * t + 1) (nI ((y.2.1 t).length - n))) 28 0 (20 + 4 * t + 2) = y.1 2 t := by
    rw [q_up, if_neg (by omega), q_up, if_neg (by omega), e2]
  generalize hμ : upM (upM (upM μ2 28 0 9 (nI ((y.2.1 8).length + n))) 28 0 (20 + 4 * t + 1) (nI ((y.2.1 t).length - n))) 28 0 (20 + 4 * t + 2) (y.1 2 t + nI n) = μ3
  have hx : ∀ x, μ3 28 0 x = if x = 20 + 4 * t + 2 then y.1 2 t + nI n else if x = 20 + 4 * t + 1 then nI ((y.2.1 t).length - n) else if x = 9 then nI ((y.2.1 8).length + n) else if 60 + 30 * t ≤ x ∧ x < 60 + 30 * t + ((y.2.1 t).length - n) then μ 28 0 (x + n) else dF (μ 28 0) (y.2.1 8).length (y.2.1 t) n x := by
    intro x
    rw [← hμ, r28, upd_e, r28, upd_e, r28, upd_e, b2]
    by_cases c1 : x = 20 + 4 * t + 2
    · rw [if_pos c1, if_pos c1]
    rw [if_neg c1, if_neg c1]
    by_cases c2 : x = 20 + 4 * t + 1
    · rw [if_pos c2, if_pos c2]
    rw [if_neg c2, if_neg c2]
    by_cases c3 : x = 9
    · rw [if_pos c3, if_pos c3]
    rw [if_neg c3, if_neg c3]
    by_cases c4 : 60 + 30 * t ≤ x ∧ x < 60 + 30 * t + ((y.2.1 t).length - n)
    · rw [if_pos c4, if_pos c4, hlow _ (by omega)]
    · rw [if_neg c4, if_neg c4, a2]
  refine ⟨μ3, ?_, ⟨fun a k hd => ?_, fun r hr => ?_, h.2.2.1.cong (fun x hx' => ?_), h.2.2.2.cong hk (fun x hx' => ?_)⟩, ?_⟩
  · unfold f_X8_drawOut
    simp (disch := omega) only [z_l60, z_l30, z_l20, z_l4, z_l2, z_l1, q_mul, q_add, q_lt, m_manyOn h ht, q_bd, q_sub, z_l0, a1, b1, z9, e9, q_gdi, q_cl, e22, hμ]
    unfold jD
    by_cases q : (y.2.1 t).length ≤ n
    · rw [if_pos q, if_pos (by rw [show (y.2.1 t).length - n = 0 by omega]; decide)]
      rfl
    · rw [if_neg q, if_neg (nI_ge (by omega) (by omega))]
      rfl
  · show _ = sU (nP y.1 ((y.2.1 t).take n)) 2 t (y.1 2 t + nI n) a k
    rw [hx]
    by_cases c : a = 2 ∧ k = t
    · obtain ⟨rfl, rfl⟩ := c
      rw [sU_s, if_pos (show mi 2 k = 20 + 4 * k + 2 from rfl)]
    · rw [sU_n c]
      have hne : ¬ mi a k = 20 + 4 * t + 2 := fun z => c (mi_inj hd (sdt (a := 2) (by omega) ht) z)
      have hm : mi a k < 60 ∨ 330 ≤ mi a k := by unfold mi; unfold sdom at hd; grind (splits := 40)
      have hm1 : ¬ mi a k = 20 + 4 * t + 1 ∧ ¬ mi a k = 9 := by unfold mi; unfold sdom at hd; grind (splits := 40)
      rw [if_neg hne, if_neg hm1.1, if_neg hm1.2, if_neg (by omega)]
      unfold dF nP
      rw [if_neg (by omega)]
      by_cases c6 : a = 6
      · subst c6
        have hk30 : k < 30 := by unfold sdom at hd; omega
        have e : mi 6 k = 330 + 4 * k + 2 := by unfold mi; simp only [Nat.reduceEqDiff, ↓reduceIte]; omega
        rw [e]
        by_cases q : k ∈ (y.2.1 t).take n
        · rw [if_pos ⟨by omega, by omega, by omega, by rw [show (330 + 4 * k + 2 - 332) / 4 = k by omega]; exact q⟩, if_pos ⟨rfl, q⟩, h.1.w6 hk30]
        · rw [if_neg (fun z => q (by have := z.2.2.2; rw [show (330 + 4 * k + 2 - 332) / 4 = k by omega] at this; exact this)), if_neg (fun z => q z.2), h.1.w6 hk30]
      · rw [if_neg, if_neg (fun z => c6 z.1), h.1 a k hd]
        rintro ⟨z1, z2, z3, z4⟩
        apply c6
        unfold mi at z1 z2 z3
        unfold sdom at hd
        grind (splits := 40)
  · show μ3 28 0 (rc r) = nI (rwD y.2.1 t n r).length ∧ ∀ p w, (rwD y.2.1 t n r)[p]? = some w → μ3 28 0 (60 + 30 * r + p) = nI w
    by_cases c : r = t
    · subst c
      rw [rc_t ht, hx, if_neg (by omega), if_pos rfl, rwD_t, List.length_drop]
      refine ⟨rfl, fun p w hp => ?_⟩
      have hpl := (List.getElem?_eq_some_iff.mp hp).1
      rw [List.length_drop] at hpl
      rw [List.getElem?_drop] at hp
      rw [hx, if_neg (by omega), if_neg (by omega), if_neg (by omega), if_pos (by omega), show 60 + 30 * r + p + n = 60 + 30 * r + (n + p) by omega]
      exact (h.2.1 r hr).2 _ w hp
    · by_cases c8 : r = 8
      · subst c8
        rw [rwD_8 ht]
        refine ⟨?_, fun p w hp => ?_⟩
        · rw [show rc 8 = 9 from rfl, hx, if_neg (by omega), if_neg (by omega), if_pos rfl, List.length_append, List.length_take]
          congr 1
          omega
        · have hpl := (List.getElem?_eq_some_iff.mp hp).1
          rw [List.length_append, List.length_take] at hpl
          rw [hx, if_neg (by omega), if_neg (by omega), if_neg (by omega), if_neg (by omega)]
          unfold dF
          by_cases q : p < (y.2.1 8).length
          · rw [List.getElem?_append_left q] at hp
            rw [if_neg (by omega), if_neg (by omega)]
            exact (h.2.1 8 hr).2 p w hp
          · rw [List.getElem?_append_right (by omega), List.getElem?_take_of_lt (by omega)] at hp
            rw [if_pos (by omega), List.getD_eq_getElem?_getD, show 60 + 30 * 8 + p - (300 + (y.2.1 8).length) = p - (y.2.1 8).length by omega, hp]
            rfl
      · have e : rwD y.2.1 t n r = y.2.1 r := by
          unfold rwD
          rw [if_neg c, if_neg c8]
        have hl := (ho r hr).1
        rw [e]
        refine ⟨?_, fun p w hp => ?_⟩
        · rw [rc_t (by omega), hx, if_neg (by omega), if_neg (by omega), if_neg (by omega), if_neg (by omega)]
          unfold dF
          rw [if_neg (by omega), if_neg (by omega)]
          exact h.2.1.n (by omega)
        · have hpl := (List.getElem?_eq_some_iff.mp hp).1
          rw [hx, if_neg (by omega), if_neg (by omega), if_neg (by omega), if_neg (by omega)]
          unfold dF
          rw [if_neg (by omega), if_neg (by omega)]
          exact (h.2.1 r hr).2 p w hp
  · rw [hx, if_neg (by omega), if_neg (by omega), if_neg (by omega), if_neg (by omega)]
    unfold dF
    rw [if_neg (by omega), if_neg (by omega)]
  · rw [hx, if_neg (by omega), if_neg (by omega), if_neg (by omega), if_neg (by omega)]
    unfold dF
    rw [if_neg (by omega), if_neg (by omega)]
  · rw [← hμ]
    exact a3.tr (b3.tr (only.tr (only28 rfl) (only.tr (only28 rfl) (only28 rfl))))
