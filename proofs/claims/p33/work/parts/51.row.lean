theorem q_rem {a b : Nat} (ha : a < 2147483648) (hb : b < 2147483648) : nI a - nI a / nI b * nI b = nI (a % b) := by
  rw [q_div ha hb, q_mul, q_sub (Nat.div_mul_le_self a b)]
  congr 1
  have := Nat.div_add_mod a b
  rw [Nat.mul_comm] at this
  omega
theorem q_msk (x : Int32) : ∃ m, m < 4194304 ∧ x &&& 4194303 = nI m := by
  refine ⟨(x &&& 4194303).toBitVec.toNat, ?_, Int32.toBitVec_inj.mp (by show _ = BitVec.ofNat 32 _; simp)⟩
  rw [Int32.toBitVec_and, BitVec.toNat_and]
  have : (4194303 : Int32).toBitVec.toNat = 4194303 := by decide
  rw [this]
  have h := Nat.and_le_right (n := x.toBitVec.toNat) (m := 4194303)
  omega
theorem l_cell {xs : Nat → Int32} {Ls k n : Nat} (μ : mT) (hL : Ls ≤ 260) (hk : k < 1000000) (hn : 1 ≤ n) (hn2 : n < 1000000) : ∃ v, v < n ∧ f_L_cell xs Ls (nI k) (nI n) μ = some (nI v, μ) := by
  have e : Int32.ofNat Ls = nI Ls := rfl
  have hn0 : ¬ nI n = 0 := nI_ne0 hn (by omega)
  have e37 : (37 : Int32) = nI 37 := rfl
  have e5 : (5 : Int32) = nI 5 := rfl
  unfold f_L_cell
  rw [e]
  by_cases c : Ls = 0
  · refine ⟨(k * 37 + 5) % n, Nat.mod_lt _ hn, ?_⟩
    rw [c, if_pos (by rfl), q_gd (decide_eq_true hn0), e37, e5, q_mul, q_add, q_rem (by omega) (by omega)]
  · have hc0 : ¬ nI Ls = 0 := nI_ne0 (by omega) (by omega)
    rw [if_neg hc0, q_gd (decide_eq_true hc0), q_rem (by omega) (by omega), q_gdi (Nat.mod_lt _ (by omega)) (by omega), q_gd (decide_eq_true hn0)]
    obtain ⟨m, hm, e2⟩ := q_msk (xs (nI (k % Ls)).toNatClampNeg >>> ((nI k - nI k / 7 * 7) &&& 31))
    rw [e2, q_rem (by omega) (by omega)]
    exact ⟨m % n, Nat.mod_lt _ hn, rfl⟩
section ROW
variable {y : yT} {nt nw tm B : Nat} {ka : Nat}
theorem l_rowL {a : Int32} {d : List Nat} {K : mT → Option (Int32 × mT)} (hka : 40 ≤ ka) (hl : d.length ≤ 30) (hat : ∀ μ, PR μ y → ∀ p, p < 2147483648 → f_X7_at a (nI p) μ = some (atN d p, μ)) : ∀ (dd n k : Nat) (μ : mT), k + dd = d.length → dd < n → PR μ y → (∀ i w, i < k → d[i]? = some w → μ ka 0 i = nI w) → ∃ μ', f_L_row_L22 ka a (nI d.length) K n (nI k) μ = K μ' ∧ PR μ' y ∧ (∀ κ, κ ≠ ka → μ' κ = μ κ) ∧ ∀ i w, d[i]? = some w → μ' ka 0 i = nI w := by
  intro dd
  induction dd with
  | zero =>
    intro n k μ hk hn h hc
    obtain ⟨n, rfl⟩ : ∃ n', n = n' + 1 := ⟨n - 1, by omega⟩
    refine ⟨μ, ?_, h, fun _ _ => rfl, fun i w hw => hc i w (by have := (List.getElem?_eq_some_iff.mp hw).1; omega) hw⟩
    rw [f_L_row_L22, if_pos (nI_le (by omega) (by omega))]
  | succ dd ih =>
    intro n k μ hk hn h hc
    obtain ⟨n, rfl⟩ : ∃ n', n = n' + 1 := ⟨n - 1, by omega⟩
    have hk' : k < d.length := by omega
    have e1 : d[k]? = some d[k] := List.getElem?_eq_getElem hk'
    obtain ⟨μ', a1, a2, a3, a4⟩ := ih n (k + 1) (upM μ ka 0 k (nI d[k])) (by omega) (by omega) (h.up hka _) (fun i w hi hw => by
      rw [q_up]
      by_cases c : i = k
      · subst c
        rw [if_pos ⟨rfl, rfl, rfl⟩]
        rw [e1] at hw
        rw [Option.some.inj hw]
      · rw [if_neg (fun z => c z.2.2)]
        exact hc i w (by omega) hw)
    refine ⟨μ', ?_, a2, fun κ hκ => ?_, a4⟩
    · rw [f_L_row_L22, if_neg (nI_ge hk' (by omega)), hat μ h k (by omega), q_bm, q_gdi (by omega) (by omega), q_lt, q_lt, q_cl (by omega), atN_at e1, nI_1]
      exact a1
    · rw [a3 κ hκ]
      funext j
      exact q_upn (fun z => hκ z.1)
theorem atN_len {d : List Nat} : atN d d.length = -6 := by
  unfold atN
  rw [List.getElem?_eq_none (Nat.le_refl _)]
theorem l_rowG {μ : mT} {a : Int32} {d : List Nat} (h : PR μ y) (hka : 40 ≤ ka) (hl : d.length ≤ 30) (hat : ∀ μ, PR μ y → ∀ p, p < 2147483648 → f_X7_at a (nI p) μ = some (atN d p, μ)) (hat' : ∀ μ, PR μ y → f_X7_at a (-1) μ = some (-6, μ)) (hlen : (if (0 : Int32) ≤ a then f_X7_ofTrack a 1 μ else f_X7_count 3 μ) = some (nI d.length, μ)) :
    ∃ μ', f_L_row ka a μ = some (nI d.length, μ') ∧ PR μ' y ∧ (∀ κ, κ ≠ ka → μ' κ = μ κ) ∧ ∀ i w, d[i]? = some w → μ' ka 0 i = nI w := by
  unfold f_L_row
  rw [q_lt]
  have key : ∀ J : Int32 → mT → Option (Int32 × mT), (if (0 : Int32) ≤ a then bm (f_X7_ofTrack a 1 μ) μ (fun v16 μ17 => J v16 μ17) else bm (f_X7_count 3 μ) μ (fun v18 μ19 => J v18 μ19)) = J (nI d.length) μ := fun J => by
    by_cases c : (0 : Int32) ≤ a
    · rw [if_pos c] at hlen ⊢
      rw [hlen, q_bm]
    · rw [if_neg c] at hlen ⊢
      rw [hlen, q_bm]
  rw [key, q_lt]
  obtain ⟨μ', a1, a2, a3, a4⟩ := l_rowL (K := fun μ7 => bm (f_X7_at a (nI d.length) μ7) μ7 (fun v8 μ9 => (if v8 = ((-6)) then bm (f_X7_at a ((-1)) μ9) μ9 (fun v10 μ11 => (if v10 = ((-6)) then some (nI d.length, μ11) else some ((-1), μ11))) else some ((-1), μ9)))) hka hl hat d.length fu 0 μ (by omega) (by unfold fu; omega) h (fun i w hi => absurd hi (Nat.not_lt_zero i))
  refine ⟨μ', ?_, a2, a3, a4⟩
  rw [show (0 : Int32) = nI 0 from rfl, a1]
  rw [hat μ' a2 _ (by omega), q_bm, atN_len, if_pos rfl, hat' μ' a2, q_bm, if_pos rfl]
theorem l_rowE {μ : mT} (h : PR μ y) (hi : iY y nt nw tm B) (hka : 40 ≤ ka) :
    ∃ μ', f_L_row ka (-6) μ = some (nI (y.2.1 8).length, μ') ∧ PR μ' y ∧ (∀ κ, κ ≠ ka → μ' κ = μ κ) ∧ ∀ i w, (y.2.1 8)[i]? = some w → μ' ka 0 i = nI w :=
  l_rowG h hka (hi.rOK 8 (by omega)).1 (fun μ h p hp => ae h hi hp) (fun μ h => ae' h hi) (by rw [if_neg (by decide), c3 h hi])
theorem l_rowT {μ : mT} {t : Nat} (h : PR μ y) (hi : iY y nt nw tm B) (ht : t < nt) (hka : 40 ≤ ka) :
    ∃ μ', f_L_row ka (nI t) μ = some (nI (y.2.1 t).length, μ') ∧ PR μ' y ∧ (∀ κ, κ ≠ ka → μ' κ = μ κ) ∧ ∀ i w, (y.2.1 t)[i]? = some w → μ' ka 0 i = nI w := by
  have h8 := hi.nt8
  exact l_rowG h hka (hi.rOK t (by omega)).1 (fun μ h p hp => att h hi ht hp) (fun μ h => att' h hi ht) (by rw [if_pos (nI_pos' (by omega)), o1 h hi ht])
theorem l_lenL {μ : mT} {d : List Nat} {j : Nat} (h : PR μ y) (hi : iY y nt nw tm B) (hl : d.length ≤ 30) (hw : ∀ w ∈ d, w < nw) (hd : ∀ i w, d[i]? = some w → μ ka 0 i = nI w) (hj : j ≤ d.length) : ∀ (dd n i : Nat) (s : Int32), i + dd = j → dd < n → f_L_lengths_L6 ka (nI j) n s (nI i) μ = some (s + ssum (y.1 4) ((d.take j).drop i), μ) := by
  intro dd
  induction dd with
  | zero =>
    intro n i s hk hn
    obtain ⟨n, rfl⟩ : ∃ n', n = n' + 1 := ⟨n - 1, by omega⟩
    rw [f_L_lengths_L6, if_pos (nI_le (by omega) (by omega)), List.drop_eq_nil_of_le (by rw [List.length_take]; omega)]
    show some (s, μ) = some (s + 0, μ)
    rw [Int32.add_zero]
  | succ dd ih =>
    intro n i s hk hn
    obtain ⟨n, rfl⟩ : ∃ n', n = n' + 1 := ⟨n - 1, by omega⟩
    have hi' : i < d.length := by omega
    have e1 : d[i]? = some d[i] := List.getElem?_eq_getElem hi'
    have e2 : (d.take j)[i]? = some d[i] := by rw [List.getElem?_take_of_lt (by omega)]; exact e1
    rw [f_L_lengths_L6, if_neg (nI_ge (by omega) (by omega)), q_gdi (by omega) (by omega), q_cl (by omega), hd i _ e1, v0 h hi (hw _ (List.mem_of_getElem? e1)), q_bm, q_lt, q_lt, nI_1, ih n (i + 1) _ (by omega) (by omega), drop_cons_of e2]
    show some (s + y.1 4 d[i] + _, μ) = some (s + (y.1 4 d[i] + _), μ)
    rw [Int32.add_assoc]
theorem l_len {μ : mT} {d : List Nat} {i j : Nat} (h : PR μ y) (hi : iY y nt nw tm B) (hl : d.length ≤ 30) (hw : ∀ w ∈ d, w < nw) (hd : ∀ i w, d[i]? = some w → μ ka 0 i = nI w) (hij : i ≤ j) (hj : j ≤ d.length) : f_L_lengths ka (nI i) (nI j) μ = some (ssum (y.1 4) ((d.take j).drop i), μ) := by
  unfold f_L_lengths
  rw [l_lenL h hi hl hw hd hj (j - i) fu i 0 (by omega) (by unfold fu; omega), Int32.zero_add]
end ROW
