def pZ (y : yT) (nw : Nat) : Prop := ∀ w, nw ≤ w → w < 30 → y.1 6 w = 0
/-- what holds before and behind each act -/
def LI (nt B : Nat) (μ : mT) : Prop := ∃ y nw tm, PR μ y ∧ iY y nt nw tm B ∧ pE y nw tm ∧ pZ y nw
theorem LI.up {nt B B' : Nat} {μ : mT} (h : LI nt B μ) (hb : B ≤ B') : LI nt B' μ := by
  obtain ⟨y, nw, tm, h1, h2, h3, h4⟩ := h
  exact ⟨y, nw, tm, h1, h2.up hb, h3, h4⟩
def Gd (o : Option (Int32 × mT)) (Q : mT → Prop) : Prop := ∃ μ', o = some (1, μ') ∧ Q μ'
theorem gd_lt {α : Type} {a : α} {f : α → Option (Int32 × mT)} {Q : mT → Prop} (h : ∀ J, J = a → Gd (f J) Q) : Gd (lt a f) Q := h a rfl
theorem gd_some {μ : mT} {Q : mT → Prop} (h : Q μ) : Gd (some (1, μ)) Q := ⟨μ, rfl, h⟩
theorem i_as (a b c : Int32) : a + (b - c) = a + b - c := by
  rw [Int32.sub_eq_add_neg, Int32.sub_eq_add_neg, Int32.add_assoc]
theorem ff {μ : mT} {y : yT} {nt nw tm B W : Nat} (h : PR μ y) (hi : iY y nt nw tm B) (h1 : 1 ≤ W) (h2 : W ≤ 500) : f_X7_freeFrom (nI W) μ = some (free (nI W) y.2.2.1 (y.1 0 6), μ) := by
  have e1 : (1 : Int32) = nI 1 := rfl
  have e5 : (500 : Int32) = nI 500 := rfl
  rw [k_freeFrom h.1 hi, if_neg (by rw [e1, e5, nI_ltI (by omega) (by omega), nI_ltI (by omega) (by omega)]; omega)]
theorem l_timed {μ : mT} {y : yT} {nt nw tm B : Nat} {minute begins whole coup was moves waited : Int32} (h : PR μ y) (hi : iY y nt nw tm B) (e1 : y.1 0 6 = begins + whole) (e2 : y.1 0 14 = was + coup) (e3 : y.1 0 15 = moves + 1) (e4 : y.1 0 16 = waited + begins - minute) : f_L_isTimed minute begins whole coup was moves waited μ = some (1, μ) := by
  unfold f_L_isTimed
  rw [c0 h hi, q_bm, if_pos e1, c9 h hi, q_bm, if_pos e2, c10 h hi, q_bm, if_pos e3, c11 h hi, q_bm, if_pos e4]
theorem mv_all {y z : yT} {nt nw tm B a j : Nat} {m : Int32} (hi : iY y nt nw tm B) (he : pE y nw tm) (hB : B < 1000000000) (hz0 : ∀ k, z.1 0 k = y.1 0 k) (hzb : z.2.2.1 = y.2.2.1) (ha : a ≤ 100) (hm : m = nI a) (hj : j ≤ 2) :
    ∃ W T, m + nI j * y.1 0 3 = nI W ∧ a ≤ W ∧ W ≤ a + 6 ∧ mvw z m (nI j) = nI W ∧ mvf z m (nI j) = nI T ∧ free (nI W) y.2.2.1 (y.1 0 6) = nI T ∧ tm ≤ T ∧ T ≤ B ∧ (mvm z m (nI j)).1 0 6 = nI (T + W) := by
  obtain ⟨⟨⟨c, c1, c2⟩, -, -⟩, -⟩ := he
  have hjc : j * c ≤ 2 * 3 := Nat.mul_le_mul hj c1
  have e1 : m + nI j * y.1 0 3 = nI (a + j * c) := by rw [hm, c2, q_mul, q_add]
  have hW : mvw z m (nI j) = nI (a + j * c) := by
    unfold mvw
    rw [hz0, e1]
  obtain ⟨T, t1, t2, t3⟩ := free_bd (m := nI (a + j * c)) (B := B) (by omega) hi.bends hi.tmB
  have eT : free (nI (a + j * c)) y.2.2.1 (y.1 0 6) = nI T := by rw [hi.htm, t3]
  have hT : mvf z m (nI j) = nI T := by
    unfold mvf
    rw [hW, hz0, hzb, eT]
  exact ⟨a + j * c, T, e1, by omega, by omega, hW, hT, eT, t1, t2, by rw [mvm_6, hT, hW, nI_add]⟩
theorem sPull_ok {y : yT} {nt nw tm B t n : Nat} (hi : iY y nt nw tm B) (ht : t < nt) (hn : 1 ≤ n ∧ n ≤ 30) : sPull y (nI t) (nI n) = if canP y t n = true then (nI ((y.2.1 8).length + n), sDraw y t n) else (-5, y) := by
  have h8 := hi.nt8
  have e1 : (1 : Int32) = nI 1 := rfl
  have e5 : (30 : Int32) = nI 30 := rfl
  unfold sPull
  rw [if_pos (isT_t hi.hnt hi.nt8 ht), if_neg (by rw [e1, e5, nI_ltI (by omega) (by omega), nI_ltI (by omega) (by omega)]; omega), q_cl (by omega), q_cl (by omega)]
theorem isT_no {y : yT} {nt nw tm B : Nat} (hi : iY y nt nw tm B) : ¬ isT y (nI nt) = true := by
  have h8 := hi.nt8
  unfold isT
  rw [hi.hnt, Bool.and_eq_true, Bool.not_eq_true', Bool.not_eq_true', decide_eq_false_iff_not, decide_eq_false_iff_not]
  exact fun z => z.2 (Int32.le_refl _)
theorem iY_pull {y : yT} {nt nw tm B t n tm' : Nat} (hi : iY y nt nw tm B) (hB : B < 1000000000) (ht : t < nt) (hn : 1 ≤ n ∧ n ≤ 30) (hc : canP y t n = true) (h6 : (sDraw y t n).1 0 6 = nI tm') (h6' : tm' < 2147483648) : iY (sDraw y t n) nt nw tm' (B + 5000) := by
  have h := kp_pull (a := nI t) (b := nI n) (⟨nt, nw, tm, hi⟩ : kY y B) hB
  rw [sPull_ok hi ht hn, if_pos hc] at h
  refine kY_id h (by omega) ?_ hi.nt8 ?_ hi.nw30 h6 h6'
  · rw [sDraw_s (by omega)]; exact hi.hnt
  · rw [sDraw_s (by omega)]; exact hi.hnw
