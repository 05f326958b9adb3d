theorem sgn_lt {tx : List Nat} {p : Nat} (h : 0 < sgn tx p) : p < tx.length := by
  by_cases c : p < tx.length
  · exact c
  · rw [sgn_end (by omega)] at h
    omega
theorem num_q {tx : List Nat} {p : Nat} (h : isD (sgn tx p)) : p + (numV tx p).2 ≤ tx.length ∧ 1 ≤ (numV tx p).2 ∧ (numV tx p).1 ≤ 99 := by
  have h0 := sgn_lt (tx := tx) (p := p) (by omega)
  unfold numV
  by_cases c : sgn tx p = 48
  · rw [if_pos c]; exact ⟨h0, Nat.le_refl _, Nat.zero_le _⟩
  · rw [if_neg c]
    by_cases c2 : isD (sgn tx (p + 1))
    · have h1 := sgn_lt (tx := tx) (p := p + 1) (by omega)
      rw [if_pos c2]
      exact ⟨h1, by omega, by dsimp only; omega⟩
    · rw [if_neg c2]
      exact ⟨h0, Nat.le_refl _, by dsimp only; omega⟩
theorem rd_some {tx : List Nat} {p q k a b : Nat} (h : rdO tx p = (q, some (k, a, b))) : p < q ∧ q ≤ tx.length := by
  unfold rdO at h
  by_cases c1 : sgn tx p = 112 ∨ sgn tx p = 113
  · rw [if_pos c1] at h
    by_cases c2 : 65 ≤ sgn tx (p + 1) ∧ sgn tx (p + 1) ≤ 65 + 7
    · rw [if_pos c2] at h
      by_cases c3 : isD (sgn tx (p + 2))
      · rw [if_pos c3] at h
        have := num_q c3
        have e : p + 2 + (numV tx (p + 2)).2 = q := congrArg Prod.fst h
        omega
      · rw [if_neg c3] at h
        exact absurd (congrArg Prod.snd h) (by simp)
    · rw [if_neg c2] at h
      exact absurd (congrArg Prod.snd h) (by simp)
  rw [if_neg c1] at h
  by_cases c2 : sgn tx p = 114
  · rw [if_pos c2] at h
    have h0 := sgn_lt (tx := tx) (p := p) (by omega)
    have e : p + 1 = q := congrArg Prod.fst h
    omega
  rw [if_neg c2] at h
  by_cases c3 : sgn tx p = 116 ∨ sgn tx p = 119
  · rw [if_pos c3] at h
    by_cases c4 : isD (sgn tx (p + 1))
    · rw [if_pos c4] at h
      have := num_q c4
      have e : p + 1 + (numV tx (p + 1)).2 = q := congrArg Prod.fst h
      omega
    · rw [if_neg c4] at h
      exact absurd (congrArg Prod.snd h) (by simp)
  rw [if_neg c3] at h
  exact absurd (congrArg Prod.snd h) (by simp)
/-- the orders from place p: the fault's place or none; each order's begin, end, kind and numbers -/
def ordF (tx : List Nat) : Nat → Nat → Option Nat × List (Nat × Nat × Nat × Nat × Nat)
  | 0, p => (some p, [])
  | n + 1, p => match rdO tx p with
    | (q, none) => (some q, [])
    | (q, some (k, a, b)) => if tx.length ≤ q then (none, [(p, q, k, a, b)]) else if sgn tx q = 59 then ((ordF tx n (q + 1)).1, (p, q, k, a, b) :: (ordF tx n (q + 1)).2) else (some q, [(p, q, k, a, b)])
theorem ff_ord {tx : List Nat} : ∀ (n p : Nat), p ≤ tx.length → tx.length < p + n → ffS p 0 (tx.drop p) = (ordF tx n p).1 := by
  intro n
  induction n with
  | zero => intro p h1 h2; omega
  | succ n ih =>
    intro p h1 h2
    rw [ff_0]
    unfold ordF ffR
    rcases e : rdO tx p with ⟨q, _ | ⟨k, a, b⟩⟩
    · rfl
    · have := rd_some e
      dsimp only
      rw [ff_4]
      by_cases c : tx.length ≤ q
      · rw [if_pos c, if_pos c]
      · rw [if_neg c, if_neg c]
        by_cases c2 : sgn tx q = 59
        · rw [if_pos c2, if_pos c2]
          exact ih (q + 1) (by omega) (by omega)
        · rw [if_neg c2, if_neg c2]
def FO (μ' : mT) (m : Nat) (r : Option Nat × List (Nat × Nat × Nat × Nat × Nat)) : Prop := match r.1 with
  | some q => PS μ' q 1
  | none => (∃ q, PS μ' q 0) ∧ μ' 27 0 16 = nI (m + r.2.length) ∧ ∀ i p q k a b, r.2[i]? = some (p, q, k, a, b) → μ' 39 0 (3 * (m + i)) = nI k ∧ (k ≠ 114 → μ' 39 0 (3 * (m + i) + 1) = nI a) ∧ (k = 112 ∨ k = 113 → μ' 39 0 (3 * (m + i) + 2) = nI b)
theorem PS18 {μ : mT} {q : Nat} {w x : Int32} (h : PS μ q w) : PS (upM μ 27 0 18 x) q x := ⟨by rw [q_up, if_neg (by omega)]; exact h.1, by rw [q_up, if_pos ⟨rfl, rfl, rfl⟩]⟩
theorem PS17 {μ : mT} {q : Nat} {w : Int32} (h : PS μ q w) : PS (upM μ 27 0 17 (nI q + 1)) (q + 1) w := ⟨by rw [q_up, if_pos ⟨rfl, rfl, rfl⟩]; exact nI_1 q, by rw [q_up, if_neg (by omega)]; exact h.2⟩
theorem m_fo {tx : List Nat} (hc : ∀ c ∈ tx, 33 ≤ c ∧ c ≤ 126) : ∀ (n f p m : Nat) (μ : mT), p ≤ tx.length → tx.length < p + n → n < f → 2 * m ≤ p → pM μ tx → RO tx μ p m →
    ∃ μ', (∀ K, f_X8_faultOf_L19 K f μ = K μ') ∧ o39 μ μ' ∧ FO μ' m (ordF tx n p) ∧ ∀ x, x < 3 * m → μ' 39 0 x = μ 39 0 x := by
  intro n
  induction n with
  | zero => intro f p m μ h1 h2; omega
  | succ n ih =>
    intro f p m μ h1 h2 hf hm hx hR
    have h80 := hx.2.1
    obtain ⟨f, rfl⟩ : ∃ n', f = n' + 1 := ⟨f - 1, by omega⟩
    unfold RO at hR
    unfold ordF
    rcases e : rdO tx p with ⟨q, _ | ⟨k, a, b⟩⟩
    · rw [e] at hR
      dsimp only at hR ⊢
      refine ⟨μ, fun K => ?_, o39.rf, hR, fun _ _ => rfl⟩
      rw [f_X8_faultOf_L19, hR.2, if_neg n10]
    · rw [e] at hR
      have hq := rd_some e
      dsimp only at hR ⊢
      obtain ⟨r1, r2, r3, r4, r5⟩ := hR
      by_cases c : tx.length ≤ q
      · rw [if_pos c]
        refine ⟨μ, fun K => ?_, o39.rf, ⟨⟨q, r1⟩, r2, fun i p' q' k' a' b' hi => ?_⟩, fun _ _ => rfl⟩
        · rw [f_X8_faultOf_L19, r1.2, if_pos p00, hx.1, r1.1, if_pos (nI_le c (by omega))]
        · have hl := (List.getElem?_eq_some_iff.mp hi).1
          rw [show i = 0 by simp at hl; omega] at hi ⊢
          cases hi
          exact ⟨r3, r4, r5⟩
      · rw [if_neg c]
        have hsg := sgn_le (p := q) hc
        by_cases c2 : sgn tx q = 59
        · rw [if_pos c2]
          have p1 : PS (upM μ 27 0 18 0) q 0 := PS18 r1
          have p2 : PS (upM (upM μ 27 0 18 0) 27 0 17 (nI q + 1)) (q + 1) 0 := PS17 p1
          generalize hA : upM (upM μ 27 0 18 0) 27 0 17 (nI q + 1) = A at p2
          have oA : o39 μ A := by rw [← hA]; exact o39_18.tr o39_17
          have nA : A 27 0 16 = nI (m + 1) := by rw [← hA, q_up, if_neg (by omega), q_up, if_neg (by omega)]; exact r2
          have e39 : ∀ x, A 39 0 x = μ 39 0 x := fun x => by rw [← hA, q_up, if_neg (by omega), q_up, if_neg (by omega)]
          obtain ⟨μ1, b1, b2, b3, b4⟩ := m_readOne (oA.pM hx) hc p2 (by omega) nA (by omega)
          obtain ⟨μ2, d1, d2, d3, d4⟩ := ih f (q + 1) (m + 1) μ1 (by omega) (by omega) (by omega) (by omega) (b2.pM (oA.pM hx)) b3
          have eall : ∀ x, x < 3 * (m + 1) → μ2 39 0 x = μ 39 0 x := fun x hxx => by rw [d4 x hxx, b4 x hxx, e39]
          refine ⟨μ2, fun K => ?_, oA.tr (b2.tr d2), ?_, fun x hxx => eall x (by omega)⟩
          · rw [f_X8_faultOf_L19, r1.2, if_pos p00, hx.1, r1.1, if_neg (nI_ge (by omega) (by omega)), m_sign hx r1 (by omega), q_bd, q_lt, c2, if_pos (by decide)]
            dsimp only
            rw [q_gd (by decide), q_lt, p1.2, if_pos p00, p1.1, q_lt, hA, b1, q_bd, d1]
          · unfold FO at d3 ⊢
            dsimp only
            cases e2 : (ordF tx n (q + 1)).1 with
            | some z => rw [e2] at d3; exact d3
            | none =>
              rw [e2] at d3
              dsimp only at d3 ⊢
              obtain ⟨g1, g2, g3⟩ := d3
              refine ⟨g1, by rw [g2, List.length_cons]; congr 1; omega, fun i p' q' k' a' b' hi => ?_⟩
              cases i with
              | zero =>
                rw [List.getElem?_cons_zero] at hi
                cases hi
                exact ⟨(eall _ (by omega)).trans r3, fun z => (eall _ (by omega)).trans (r4 z), fun z => (eall _ (by omega)).trans (r5 z)⟩
              | succ i =>
                rw [List.getElem?_cons_succ] at hi
                have := g3 i p' q' k' a' b' hi
                rwa [show m + 1 + i = m + (i + 1) by omega] at this
        · rw [if_neg c2]
          obtain ⟨f, rfl⟩ : ∃ n', f = n' + 1 := ⟨f - 1, by omega⟩
          have p1 : PS (upM μ 27 0 18 1) q 1 := PS18 r1
          refine ⟨upM μ 27 0 18 1, fun K => ?_, o39_18, p1, fun x _ => by rw [q_up, if_neg (by omega)]⟩
          rw [f_X8_faultOf_L19, r1.2, if_pos p00, hx.1, r1.1, if_neg (nI_ge (by omega) (by omega)), m_sign hx r1 (by omega), q_bd, q_lt, if_neg (by rw [show (59 : Int32) = nI 59 from rfl, nI_eq (by omega) (by omega)]; exact c2)]
          dsimp only
          rw [q_gd (by decide), q_lt, p1.2, if_neg n10, f_X8_faultOf_L19, p1.2, if_neg n10]
theorem m_faultOf {tx : List Nat} (hc : ∀ c ∈ tx, 33 ≤ c ∧ c ≤ 126) {μ : mT} (hx : pM μ tx) :
    ∃ μ', f_X8_faultOf μ = some (ffA (ffS 0 0 tx), μ') ∧ o39 μ μ' ∧ FO μ' 0 (ordF tx 81 0) ∧ ffS 0 0 tx = (ordF tx 81 0).1 := by
  have h80 := hx.2.1
  have hff : ffS 0 0 tx = (ordF tx 81 0).1 := ff_ord (tx := tx) 81 0 (Nat.zero_le _) (by omega)
  unfold f_X8_faultOf
  rw [q_lt, q_lt, q_lt]
  generalize hA : upM (upM (upM μ 27 0 17 0) 27 0 16 0) 27 0 18 0 = A
  have oA : o39 μ A := by rw [← hA]; exact o39_17.tr (o39_16.tr o39_18)
  have pA : PS A 0 0 := by
    rw [← hA]
    exact ⟨by rw [q_up, if_neg (by omega), q_up, if_neg (by omega), q_up, if_pos ⟨rfl, rfl, rfl⟩]; rfl, by rw [q_up, if_pos ⟨rfl, rfl, rfl⟩]⟩
  have nA : A 27 0 16 = nI 0 := by rw [← hA, q_up, if_neg (by omega), q_up, if_pos ⟨rfl, rfl, rfl⟩]; rfl
  obtain ⟨μ1, b1, b2, b3, b4⟩ := m_readOne (oA.pM hx) hc pA (by omega) nA (by omega)
  obtain ⟨μ2, d1, d2, d3, d4⟩ := m_fo hc 81 fu 0 0 μ1 (Nat.zero_le _) (by omega) (by unfold fu; omega) (by omega) (b2.pM (oA.pM hx)) b3
  refine ⟨μ2, ?_, oA.tr (b2.tr d2), d3, hff⟩
  rw [b1, q_bd, q_lt, d1, hff]
  unfold FO at d3
  cases e : (ordF tx 81 0).1 with
  | some z =>
    rw [e] at d3
    dsimp only at d3
    rw [d3.2, if_neg n10, d3.1]
    rfl
  | none =>
    rw [e] at d3
    dsimp only at d3
    obtain ⟨⟨q, g1⟩, -⟩ := d3
    rw [g1.2, if_pos p00]
    rfl
theorem o39.only {μ μ' : mT} (h : o39 μ μ') : only μ μ' (fun κ j => (κ = 27 ∨ κ = 39) ∧ j = 0) := fun κ j hn => by
  funext k
  exact h κ j k (by omega) (by omega)
theorem hM.o39 {μ μ' : mT} {y : yT} {hp : hT} {t : Bool} (h : hM μ y hp t) (ho : o39 μ μ') : hM μ' y hp t := by
  obtain ⟨a, b, c, d, e⟩ := h
  have o := ho.only
  exact ⟨by rw [o 28 0 (by omega)]; exact a, by rw [ho 27 0 4 (by omega) (by omega)]; exact b, c, by rw [o 31 0 (by omega)]; exact d, by rw [ho 27 0 9 (by omega) (by omega)]; exact e⟩
theorem st_fault {μ : mT} {B : Nat} (h : RR μ B) : ST μ (B + 5000) f_X7_fault f_X8_fault := by
  obtain ⟨y, hp, zs, tx, h1, h2, h3, h4, h5, h6, h7, h8, h9, h10, h11⟩ := h
  obtain ⟨μ2, b1, b2, b3, b4⟩ := m_faultOf h11 h7
  have o := b2.only
  refine ⟨ffA (ffS 0 0 tx), μ, μ2, ?_, ?_, y, hp, zs, tx, h1.o (fun κ hκ => o κ 0 (by omega)), h2.o o (fun κ j z => by omega), h3.o o (fun κ j z => by omega), h4.o (o 21 0 (by omega)) (o 25 0 (by omega)), h5.o39 b2, h6.o o (fun κ j z => by omega), b2.pM h7, h8.up (by omega), fun i hi => (h9 i hi).up (by omega), fun k z q => (h10 k z q).up (by omega), h11⟩
  · unfold f_X7_fault
    rw [k_fault h4 h11, q_bd]
  · unfold f_X8_fault
    rw [b1, q_bd]
