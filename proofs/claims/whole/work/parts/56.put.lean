theorem l_of (x : Int64) : ∃ n, n < 2 ^ 64 ∧ x = lN n := by
  refine ⟨x.toBitVec.toNat, x.toBitVec.isLt, ?_⟩
  apply Int64.toBitVec_inj.mp
  show x.toBitVec = BitVec.ofNat 64 x.toBitVec.toNat
  rw [BitVec.ofNat_toNat, BitVec.setWidth_eq]
theorem l_bv (n : Nat) : (lN n).toBitVec = BitVec.ofNat 64 n := rfl
theorem l_and {N : Nat} (h : N < 2 ^ 64) : lN N &&& 255 = lN (N % 256) := by
  apply Int64.toBitVec_inj.mp
  rw [Int64.toBitVec_and, l_bv, l_bv]
  apply BitVec.eq_of_toNat_eq
  rw [BitVec.toNat_and, BitVec.toNat_ofNat, BitVec.toNat_ofNat, Nat.mod_eq_of_lt h, Nat.mod_eq_of_lt (show N % 256 < 2 ^ 64 by omega)]
  exact Nat.and_two_pow_sub_one_eq_mod N 8
theorem l_cnt : ∀ k, k < 64 → ((nI k).toInt64.toUInt64 &&& Int64.toUInt64 63) = UInt64.ofNat k := by decide
theorem l_shr {N k : Nat} (h : N < 2 ^ 64) (hk : k < 64) : shrL (lN N) (nI k) = lN (N / 2 ^ k) := by
  unfold shrL
  rw [l_cnt k hk]
  apply Int64.toBitVec_inj.mp
  apply BitVec.eq_of_toNat_eq
  have h1 : ((lN N).toUInt64 >>> UInt64.ofNat k).toNat = N / 2 ^ k := by
    rw [UInt64.toNat_shiftRight, UInt64.toNat_ofNat']
    rw [show (lN N).toUInt64.toNat = (BitVec.ofNat 64 N).toNat from rfl, BitVec.toNat_ofNat, Nat.mod_eq_of_lt h, Nat.mod_eq_of_lt (show k < 2 ^ 64 by omega), Nat.mod_eq_of_lt hk, Nat.shiftRight_eq_div_pow]
  have h2 : N / 2 ^ k < 2 ^ 64 := Nat.lt_of_le_of_lt (Nat.div_le_self _ _) h
  rw [l_bv, BitVec.toNat_ofNat, Nat.mod_eq_of_lt h2]
  exact h1
theorem l_eq0 {N : Nat} (h : N < 2 ^ 64) : lg_cmp (lN N) 0 = 0 ↔ N = 0 := by
  constructor
  · intro q
    unfold lg_cmp at q
    by_cases c1 : lN N > 0
    · rw [if_pos c1] at q
      exact absurd q (by decide)
    · rw [if_neg c1] at q
      by_cases c2 : lN N = 0
      · have := congrArg (fun x : Int64 => x.toBitVec.toNat) c2
        rw [l_bv, BitVec.toNat_ofNat, Nat.mod_eq_of_lt h] at this
        exact this
      · rw [if_neg c2] at q
        exact absurd q (by decide)
  · rintro rfl
    decide
theorem lg_n {a b : Nat} (ha : a < 2 ^ 63) (hb : b < 2 ^ 63) : lg_cmp (lN a) (lN b) = if b < a then 1 else if a = b then 0 else -1 := by
  unfold lg_cmp
  by_cases c : b < a
  · rw [if_pos (show lN a > lN b from (pk_lLT hb ha).mpr c), if_pos c]
  · rw [if_neg (show ¬ lN a > lN b from fun q => c ((pk_lLT hb ha).mp q)), if_neg c]
    by_cases c2 : a = b
    · rw [if_pos ((pk_lEQ ha hb).mpr c2), if_pos c2]
    · rw [if_neg (fun q => c2 ((pk_lEQ ha hb).mp q)), if_neg c2]
theorem l_33 (b : Nat) (h : b < 256) : lg_cmp (lN b) 33 < 0 ↔ b < 33 := by
  have e := lg_n (a := b) (b := 33) (by omega) (by omega)
  rw [show lN 33 = (33 : Int64) from rfl] at e
  rw [e]
  by_cases c : 33 < b
  · rw [if_pos c]; exact ⟨fun q => absurd q (by decide), fun q => by omega⟩
  · rw [if_neg c]
    by_cases c2 : b = 33
    · rw [if_pos c2]; exact ⟨fun q => absurd q (by decide), fun q => by omega⟩
    · rw [if_neg c2]; exact ⟨fun _ => by omega, fun _ => by decide⟩
theorem l_126 (b : Nat) (h : b < 256) : lg_cmp (lN b) 126 ≤ 0 ↔ b ≤ 126 := by
  have e := lg_n (a := b) (b := 126) (by omega) (by omega)
  rw [show lN 126 = (126 : Int64) from rfl] at e
  rw [e]
  by_cases c : 126 < b
  · rw [if_pos c]; exact ⟨fun q => absurd q (by decide), fun q => by omega⟩
  · rw [if_neg c]
    by_cases c2 : b = 126
    · rw [if_pos c2]; exact ⟨fun q => by omega, fun q => by decide⟩
    · rw [if_neg c2]; exact ⟨fun _ => by omega, fun _ => by decide⟩
def bysL : Nat → Nat → List Nat
  | 0, _ => []
  | n + 1, N => if N = 0 then [] else N % 256 :: bysL n (N / 256)
def okB (l : List Nat) : Bool := l.all (fun c => decide (33 ≤ c) && decide (c ≤ 126))
def sPut (tx : List Nat) (N : Nat) : Int32 × List Nat :=
  if (bysL 8 N).length = 0 then (-2, tx) else if okB (bysL 8 N) = true then (if tx.length + (bysL 8 N).length ≤ 80 then (nI (tx.length + (bysL 8 N).length), tx ++ (bysL 8 N).reverse) else (-4, tx)) else (-2, tx)
theorem bysL_len : ∀ (F N : Nat), (bysL F N).length ≤ F
  | 0, _ => Nat.le_refl _
  | F + 1, N => by
    unfold bysL
    split
    · simp
    · rw [List.length_cons]
      exact Nat.succ_le_succ (bysL_len F _)
theorem bysL_get : ∀ (F N k c : Nat), (bysL F N)[k]? = some c → c = N / 256 ^ k % 256
  | 0, N, k, c, h => by simp [bysL] at h
  | F + 1, N, k, c, h => by
    unfold bysL at h
    split at h
    · simp at h
    · cases k with
      | zero =>
        simp at h
        rw [Nat.pow_zero, Nat.div_one, h]
      | succ k =>
        rw [List.getElem?_cons_succ] at h
        rw [bysL_get F (N / 256) k c h, Nat.div_div_eq_div_mul, Nat.pow_succ, Nat.mul_comm]
theorem okB_cons {c : Nat} {l : List Nat} : okB (c :: l) = (decide (33 ≤ c) && decide (c ≤ 126) && okB l) := rfl
theorem k_told : ∀ (F n i N : Nat) (μ : mT), i + F = 8 → F < n → N < 256 ^ F →
    f_X2_manyTold_L8 n (lN N) (nI i) (nI i) μ = some (if okB (bysL F N) = true then nI (i + (bysL F N).length) else 0, μ) := by
  intro F
  induction F with
  | zero =>
    intro n i N μ hi hn hN
    obtain ⟨n, rfl⟩ : ∃ n', n = n' + 1 := ⟨n - 1, by omega⟩
    rw [f_X2_manyTold_L8, z_l8, if_pos (nI_le (by omega) (by omega))]
    rfl
  | succ F ih =>
    intro n i N μ hi hn hN
    obtain ⟨n, rfl⟩ : ∃ n', n = n' + 1 := ⟨n - 1, by omega⟩
    have hp : 256 ^ (F + 1) ≤ 256 ^ 8 := Nat.pow_le_pow_right (by omega) (by omega)
    have hN64 : N < 2 ^ 64 := Nat.lt_of_lt_of_le hN hp
    rw [f_X2_manyTold_L8, z_l8, if_neg (nI_ge (by omega) (by omega))]
    unfold bysL
    by_cases c : N = 0
    · rw [if_pos ((l_eq0 hN64).mpr c), if_pos c]
      rfl
    · have hm := Nat.mod_lt N (show 0 < 256 by decide)
      rw [if_neg (fun q => c ((l_eq0 hN64).mp q)), if_neg c, l_and hN64, q_lt, okB_cons]
      by_cases c1 : N % 256 < 33
      · rw [if_pos ((l_33 _ hm).mpr c1), if_neg (by simp; omega)]
      · rw [if_neg (fun q => c1 ((l_33 _ hm).mp q))]
        by_cases c2 : N % 256 ≤ 126
        · have hd : N / 256 < 256 ^ F := by
            rw [Nat.pow_succ] at hN
            exact Nat.div_lt_of_lt_mul (by rw [Nat.mul_comm]; exact hN)
          rw [if_pos ((l_126 _ hm).mpr c2), q_lt, q_lt, q_lt, ← z_l8, z_l8, l_shr hN64 (by omega), show (nI i + 1 : Int32) = nI (i + 1) from nI_1 i, show (2 : Nat) ^ 8 = 256 from rfl, ih n (i + 1) (N / 256) μ (by omega) (by omega) hd]
          rw [decide_eq_true (show 33 ≤ N % 256 by omega), decide_eq_true c2]
          simp only [Bool.true_and]
          rw [List.length_cons, show i + 1 + (bysL F (N / 256)).length = i + ((bysL F (N / 256)).length + 1) by omega]
        · rw [if_neg (fun q => c2 ((l_126 _ hm).mp q)), if_neg (by simp; omega)]
