def xF (V : iV) (u : Nat → Nat → Nat) (a : Nat → Nat) (l1 l2 : Nat) : xT := (fun κ j => if κ < 18 then u j κ else if κ < 27 then u 11 κ else if κ < 40 then a κ else if κ = 40 then l1 else l2, V.1, V.2.1, V.2.2.1)
def wtot (V : iV) (u : Nat → Nat → Nat) (a : Nat → Nat) : va_W := wX8 V a ++ (wX7 V u ++ [])
def bk7 (V : iV) (u : Nat → Nat → Nat) : va_W := [(u 11 18, .inr (7, [.ref (u 0 0), .ref (u 11 20), .ref (u 11 19), .ref (u 11 23), .ref (u 11 24), .ref (u 11 21), .ref (u 11 26)])), (u 11 23, .inl (V.2.1 3, 2, .inr (.inr (.inr (.inr (va_up (va_up (fun _ => none) (0 : Int32).toNatClampNeg (some (u 9 0))) (1 : Int32).toNatClampNeg (some (u 10 0)))))))), (u 11 24, .inl (V.2.1 1, 2, .inl (fun _ => 0))), (u 11 26, .inl (V.2.1 0, 8, .inl (fun _ => 0)))]
def bk1 (V : iV) (a y0 y1 y2 y3 y4 y5 y6 : Nat → Nat) : va_W := [(a 19, .inr (1, [.int 0, .ref (a 22)])), (a 22, .inl (V.2.1 3, 7, .inr (.inr (.inr (.inr (va_up (va_up (va_up (va_up (va_up (va_up (va_up (fun _ => none) (0 : Int32).toNatClampNeg (some (y0 0))) (1 : Int32).toNatClampNeg (some (y1 0))) (2 : Int32).toNatClampNeg (some (y2 0))) (3 : Int32).toNatClampNeg (some (y3 0))) (4 : Int32).toNatClampNeg (some (y4 0))) (5 : Int32).toNatClampNeg (some (y5 0))) (6 : Int32).toNatClampNeg (some (y6 0))))))))]
def bk4 (V : iV) (a y : Nat → Nat) : va_W := [(a 20, .inr (4, [.ref (y 0)]))]
def bls (V : iV) (u : Nat → Nat → Nat) (a : Nat → Nat) : List va_W := [wX8 V a, bk7 V u, wX6 V (u 10), wX6 V (u 9), wX2 V (u 11), bk1 V (u 11) (u 2) (u 3) (u 4) (u 5) (u 6) (u 7) (u 8), wX6 V (u 8), wX6 V (u 7), wX6 V (u 6), wX6 V (u 5), wX6 V (u 4), wX6 V (u 3), wX6 V (u 2), bk4 V (u 11) (u 1), wX6 V (u 1), wX6 V (u 0)]
def bll : List Nat := [13, 4, 18, 18, 2, 2, 18, 18, 18, 18, 18, 18, 18, 1, 18, 18]
theorem tot_fl {V : iV} {u : Nat → Nat → Nat} {a : Nat → Nat} : wtot V u a = (bls V u a).flatten := by
  unfold wtot wX7 wX1 wX4 bls bk7 bk1 bk4
  simp only [List.flatten_cons, List.flatten_nil, List.append_assoc, List.append_nil]
theorem fl_get : ∀ (Ls : List va_W) (d : Nat) (Lb : va_W) (p : Nat), Ls[d]? = some Lb → p < Lb.length → Ls.flatten[((Ls.take d).map List.length).sum + p]? = Lb[p]?
  | [], d, Lb, p, h, _ => by simp at h
  | L0 :: Ls, 0, Lb, p, h, hp => by
    rw [List.getElem?_cons_zero] at h
    cases h
    rw [List.take_zero, List.map_nil, List.sum_nil, Nat.zero_add, List.flatten_cons, List.getElem?_append_left hp]
  | L0 :: Ls, d + 1, Lb, p, h, hp => by
    rw [List.getElem?_cons_succ] at h
    rw [List.take_succ_cons, List.map_cons, List.sum_cons, List.flatten_cons, List.getElem?_append_right (by omega), ← fl_get Ls d Lb p h hp]
    congr 1
    omega
section TW
variable {V : iV} {u : Nat → Nat → Nat} {a : Nat → Nat} {l1 l2 : Nat}
theorem bls_len : (bls V u a).map List.length = bll := rfl
theorem yc_len {b : Nat → Nat} : (wX6 V b).length = 18 := rfl
theorem tot_at {d off p : Nat} {Lb : va_W} (hd : (bls V u a)[d]? = some Lb) (ho : (bll.take d).sum = off) (hp : p < Lb.length) : (wtot V u a)[off + p]? = Lb[p]? := by
  rw [tot_fl, ← ho, ← bls_len (V := V) (u := u) (a := a), ← List.map_take]
  exact fl_get _ d Lb p hd hp
def oy (j : Nat) : Nat := ([202, 184, 165, 147, 129, 111, 93, 75, 57, 35, 17] : List Nat).getD j 0
def pk (κ : Nat) : Nat := ([0, 12, 9, 5, 1, 2, 3, 4, 13, 14, 15, 16, 17, 10, 11, 6, 7, 8] : List Nat).getD κ 0
def po (i : Nat) : Nat := ([13, 55, 183, 53, 56, 14, 15, 54, 16, 0, 1, 2, 3, 4, 5, 6, 7, 8, 9, 10, 11, 12] : List Nat).getD i 0
def pos (n : Nat) : Nat := if n < 198 then oy (n % 11) + pk (n / 11) else po (n - 198)
theorem pos_inj : ∀ n, n < 220 → ∀ n', n' < 220 → pos n = pos n' → n = n' := by decide +kernel
theorem tot_y {j p : Nat} (hj : j < 11) (hp : p < 18) : (wtot V u a)[oy j + p]? = (wX6 V (u j))[p]? := by
  rcases (show j = 0 ∨ j = 1 ∨ j = 2 ∨ j = 3 ∨ j = 4 ∨ j = 5 ∨ j = 6 ∨ j = 7 ∨ j = 8 ∨ j = 9 ∨ j = 10 by omega) with rfl | rfl | rfl | rfl | rfl | rfl | rfl | rfl | rfl | rfl | rfl
  · rw [show oy 0 = 202 from rfl]
    exact tot_at (d := 15) (off := 202) rfl (by decide) (by rw [yc_len]; exact hp)
  · rw [show oy 1 = 184 from rfl]
    exact tot_at (d := 14) (off := 184) rfl (by decide) (by rw [yc_len]; exact hp)
  · rw [show oy 2 = 165 from rfl]
    exact tot_at (d := 12) (off := 165) rfl (by decide) (by rw [yc_len]; exact hp)
  · rw [show oy 3 = 147 from rfl]
    exact tot_at (d := 11) (off := 147) rfl (by decide) (by rw [yc_len]; exact hp)
  · rw [show oy 4 = 129 from rfl]
    exact tot_at (d := 10) (off := 129) rfl (by decide) (by rw [yc_len]; exact hp)
  · rw [show oy 5 = 111 from rfl]
    exact tot_at (d := 9) (off := 111) rfl (by decide) (by rw [yc_len]; exact hp)
  · rw [show oy 6 = 93 from rfl]
    exact tot_at (d := 8) (off := 93) rfl (by decide) (by rw [yc_len]; exact hp)
  · rw [show oy 7 = 75 from rfl]
    exact tot_at (d := 7) (off := 75) rfl (by decide) (by rw [yc_len]; exact hp)
  · rw [show oy 8 = 57 from rfl]
    exact tot_at (d := 6) (off := 57) rfl (by decide) (by rw [yc_len]; exact hp)
  · rw [show oy 9 = 35 from rfl]
    exact tot_at (d := 3) (off := 35) rfl (by decide) (by rw [yc_len]; exact hp)
  · rw [show oy 10 = 17 from rfl]
    exact tot_at (d := 2) (off := 17) rfl (by decide) (by rw [yc_len]; exact hp)
theorem yc_at {j κ : Nat} (hκ : κ < 18) : (wX6 V (u j))[pk κ]? = some (u j κ, x_c (xF V u a l1 l2) κ j (mem0 κ j)) := by
  rcases (show κ = 0 ∨ κ = 1 ∨ κ = 2 ∨ κ = 3 ∨ κ = 4 ∨ κ = 5 ∨ κ = 6 ∨ κ = 7 ∨ κ = 8 ∨ κ = 9 ∨ κ = 10 ∨ κ = 11 ∨ κ = 12 ∨ κ = 13 ∨ κ = 14 ∨ κ = 15 ∨ κ = 16 ∨ κ = 17 by omega) with rfl | rfl | rfl | rfl | rfl | rfl | rfl | rfl | rfl | rfl | rfl | rfl | rfl | rfl | rfl | rfl | rfl | rfl
  all_goals rfl
theorem qk_lt {κ : Nat} (hκ : κ < 18) : pk κ < 18 := by
  rcases (show κ = 0 ∨ κ = 1 ∨ κ = 2 ∨ κ = 3 ∨ κ = 4 ∨ κ = 5 ∨ κ = 6 ∨ κ = 7 ∨ κ = 8 ∨ κ = 9 ∨ κ = 10 ∨ κ = 11 ∨ κ = 12 ∨ κ = 13 ∨ κ = 14 ∨ κ = 15 ∨ κ = 16 ∨ κ = 17 by omega) with rfl | rfl | rfl | rfl | rfl | rfl | rfl | rfl | rfl | rfl | rfl | rfl | rfl | rfl | rfl | rfl | rfl | rfl
  all_goals decide
theorem ty_at {j κ : Nat} (hj : j < 11) (hκ : κ < 18) : (wtot V u a)[oy j + pk κ]? = some (u j κ, x_c (xF V u a l1 l2) κ j (mem0 κ j)) := (tot_y hj (qk_lt hκ)).trans (yc_at hκ)
theorem to_18 : (wtot V u a)[13]? = some ((xF V u a l1 l2).1 18 0, x_c (xF V u a l1 l2) 18 0 (mem0 18 0)) := tot_at (d := 1) (off := 13) (p := 0) (Lb := bk7 V u) rfl (by decide) (Nat.le_of_ble_eq_true rfl)
theorem to_19 : (wtot V u a)[55]? = some ((xF V u a l1 l2).1 19 0, x_c (xF V u a l1 l2) 19 0 (mem0 19 0)) := tot_at (d := 5) (off := 55) (p := 0) (Lb := bk1 V (u 11) (u 2) (u 3) (u 4) (u 5) (u 6) (u 7) (u 8)) rfl (by decide) (Nat.le_of_ble_eq_true rfl)
theorem to_20 : (wtot V u a)[183]? = some ((xF V u a l1 l2).1 20 0, x_c (xF V u a l1 l2) 20 0 (mem0 20 0)) := tot_at (d := 13) (off := 183) (p := 0) (Lb := bk4 V (u 11) (u 1)) rfl (by decide) (Nat.le_of_ble_eq_true rfl)
theorem to_21 : (wtot V u a)[53]? = some ((xF V u a l1 l2).1 21 0, x_c (xF V u a l1 l2) 21 0 (mem0 21 0)) := tot_at (d := 4) (off := 53) (p := 0) (Lb := wX2 V (u 11)) rfl (by decide) (Nat.le_of_ble_eq_true rfl)
theorem to_22 : ∃ e, (wtot V u a)[56]? = some ((xF V u a l1 l2).1 22 0, e) := ⟨_, tot_at (d := 5) (off := 55) (p := 1) (Lb := bk1 V (u 11) (u 2) (u 3) (u 4) (u 5) (u 6) (u 7) (u 8)) rfl (by decide) (Nat.le_of_ble_eq_true rfl)⟩
theorem to_23 : ∃ e, (wtot V u a)[14]? = some ((xF V u a l1 l2).1 23 0, e) := ⟨_, tot_at (d := 1) (off := 13) (p := 1) (Lb := bk7 V u) rfl (by decide) (Nat.le_of_ble_eq_true rfl)⟩
theorem to_24 : (wtot V u a)[15]? = some ((xF V u a l1 l2).1 24 0, x_c (xF V u a l1 l2) 24 0 (mem0 24 0)) := tot_at (d := 1) (off := 13) (p := 2) (Lb := bk7 V u) rfl (by decide) (Nat.le_of_ble_eq_true rfl)
theorem to_25 : (wtot V u a)[54]? = some ((xF V u a l1 l2).1 25 0, x_c (xF V u a l1 l2) 25 0 (mem0 25 0)) := tot_at (d := 4) (off := 53) (p := 1) (Lb := wX2 V (u 11)) rfl (by decide) (Nat.le_of_ble_eq_true rfl)
theorem to_26 : (wtot V u a)[16]? = some ((xF V u a l1 l2).1 26 0, x_c (xF V u a l1 l2) 26 0 (mem0 26 0)) := tot_at (d := 1) (off := 13) (p := 3) (Lb := bk7 V u) rfl (by decide) (Nat.le_of_ble_eq_true rfl)
theorem to_27 : (wtot V u a)[0]? = some ((xF V u a l1 l2).1 27 0, x_c (xF V u a l1 l2) 27 0 (mem0 27 0)) := tot_at (d := 0) (off := 0) (p := 0) (Lb := wX8 V a) rfl (by decide) (Nat.le_of_ble_eq_true rfl)
theorem to_28 : ∃ e, (wtot V u a)[1]? = some ((xF V u a l1 l2).1 28 0, e) := ⟨_, tot_at (d := 0) (off := 0) (p := 1) (Lb := wX8 V a) rfl (by decide) (Nat.le_of_ble_eq_true rfl)⟩
theorem to_29 : (wtot V u a)[2]? = some ((xF V u a l1 l2).1 29 0, x_c (xF V u a l1 l2) 29 0 (mem0 29 0)) := tot_at (d := 0) (off := 0) (p := 2) (Lb := wX8 V a) rfl (by decide) (Nat.le_of_ble_eq_true rfl)
theorem to_30 : (wtot V u a)[3]? = some ((xF V u a l1 l2).1 30 0, x_c (xF V u a l1 l2) 30 0 (mem0 30 0)) := tot_at (d := 0) (off := 0) (p := 3) (Lb := wX8 V a) rfl (by decide) (Nat.le_of_ble_eq_true rfl)
theorem to_31 : (wtot V u a)[4]? = some ((xF V u a l1 l2).1 31 0, x_c (xF V u a l1 l2) 31 0 (mem0 31 0)) := tot_at (d := 0) (off := 0) (p := 4) (Lb := wX8 V a) rfl (by decide) (Nat.le_of_ble_eq_true rfl)
theorem to_32 : (wtot V u a)[5]? = some ((xF V u a l1 l2).1 32 0, x_c (xF V u a l1 l2) 32 0 (mem0 32 0)) := tot_at (d := 0) (off := 0) (p := 5) (Lb := wX8 V a) rfl (by decide) (Nat.le_of_ble_eq_true rfl)
theorem to_33 : (wtot V u a)[6]? = some ((xF V u a l1 l2).1 33 0, x_c (xF V u a l1 l2) 33 0 (mem0 33 0)) := tot_at (d := 0) (off := 0) (p := 6) (Lb := wX8 V a) rfl (by decide) (Nat.le_of_ble_eq_true rfl)
theorem to_34 : (wtot V u a)[7]? = some ((xF V u a l1 l2).1 34 0, x_c (xF V u a l1 l2) 34 0 (mem0 34 0)) := tot_at (d := 0) (off := 0) (p := 7) (Lb := wX8 V a) rfl (by decide) (Nat.le_of_ble_eq_true rfl)
theorem to_35 : (wtot V u a)[8]? = some ((xF V u a l1 l2).1 35 0, x_c (xF V u a l1 l2) 35 0 (mem0 35 0)) := tot_at (d := 0) (off := 0) (p := 8) (Lb := wX8 V a) rfl (by decide) (Nat.le_of_ble_eq_true rfl)
theorem to_36 : (wtot V u a)[9]? = some ((xF V u a l1 l2).1 36 0, x_c (xF V u a l1 l2) 36 0 (mem0 36 0)) := tot_at (d := 0) (off := 0) (p := 9) (Lb := wX8 V a) rfl (by decide) (Nat.le_of_ble_eq_true rfl)
theorem to_37 : (wtot V u a)[10]? = some ((xF V u a l1 l2).1 37 0, x_c (xF V u a l1 l2) 37 0 (mem0 37 0)) := tot_at (d := 0) (off := 0) (p := 10) (Lb := wX8 V a) rfl (by decide) (Nat.le_of_ble_eq_true rfl)
theorem to_38 : (wtot V u a)[11]? = some ((xF V u a l1 l2).1 38 0, x_c (xF V u a l1 l2) 38 0 (mem0 38 0)) := tot_at (d := 0) (off := 0) (p := 11) (Lb := wX8 V a) rfl (by decide) (Nat.le_of_ble_eq_true rfl)
theorem to_39 : (wtot V u a)[12]? = some ((xF V u a l1 l2).1 39 0, x_c (xF V u a l1 l2) 39 0 (mem0 39 0)) := tot_at (d := 0) (off := 0) (p := 12) (Lb := wX8 V a) rfl (by decide) (Nat.le_of_ble_eq_true rfl)
theorem adr {n : Nat} (hn : n < 220) : ∃ e, (wtot V u a)[pos n]? = some ((xF V u a l1 l2).1 (x_k n).1 (x_k n).2, e) := by
  unfold pos x_k
  by_cases c : n < 198
  · rw [if_pos c, if_pos c]
    have hκ : n / 11 < 18 := by omega
    have h := ty_at (V := V) (u := u) (a := a) (l1 := l1) (l2 := l2) (show n % 11 < 11 by omega) hκ
    have e1 : (xF V u a l1 l2).1 (n / 11) (n % 11) = u (n % 11) (n / 11) := if_pos hκ
    refine ⟨x_c (xF V u a l1 l2) (n / 11) (n % 11) (mem0 (n / 11) (n % 11)), ?_⟩
    dsimp only
    rw [e1]
    exact h
  · rw [if_neg c, if_neg c]
    have hd : n = 198 ∨ n = 199 ∨ n = 200 ∨ n = 201 ∨ n = 202 ∨ n = 203 ∨ n = 204 ∨ n = 205 ∨ n = 206 ∨ n = 207 ∨ n = 208 ∨ n = 209 ∨ n = 210 ∨ n = 211 ∨ n = 212 ∨ n = 213 ∨ n = 214 ∨ n = 215 ∨ n = 216 ∨ n = 217 ∨ n = 218 ∨ n = 219 := by omega
    rcases hd with rfl | rfl | rfl | rfl | rfl | rfl | rfl | rfl | rfl | rfl | rfl | rfl | rfl | rfl | rfl | rfl | rfl | rfl | rfl | rfl | rfl | rfl
    · exact ⟨_, to_18⟩
    · exact ⟨_, to_19⟩
    · exact ⟨_, to_20⟩
    · exact ⟨_, to_21⟩
    · exact to_22
    · exact to_23
    · exact ⟨_, to_24⟩
    · exact ⟨_, to_25⟩
    · exact ⟨_, to_26⟩
    · exact ⟨_, to_27⟩
    · exact to_28
    · exact ⟨_, to_29⟩
    · exact ⟨_, to_30⟩
    · exact ⟨_, to_31⟩
    · exact ⟨_, to_32⟩
    · exact ⟨_, to_33⟩
    · exact ⟨_, to_34⟩
    · exact ⟨_, to_35⟩
    · exact ⟨_, to_36⟩
    · exact ⟨_, to_37⟩
    · exact ⟨_, to_38⟩
    · exact ⟨_, to_39⟩
theorem xF_ok {A : Nat → Prop} (hA : ∀ q, A q → V.2.2.1 ≤ q) (hD : va_D A (wtot V u a)) : xOK (xF V u a l1 l2) := by
  refine ⟨fun n n' hn hn' e => ?_, fun n hn => ?_⟩
  · obtain ⟨e1, h1⟩ := adr (V := V) (u := u) (a := a) (l1 := l1) (l2 := l2) hn
    obtain ⟨e2, h2⟩ := adr (V := V) (u := u) (a := a) (l1 := l1) (l2 := l2) hn'
    exact pos_inj n hn n' hn' (hD.1 _ _ _ _ h1 h2 e)
  · obtain ⟨e1, h1⟩ := adr (V := V) (u := u) (a := a) (l1 := l1) (l2 := l2) hn
    exact hA _ (hD.2 _ _ h1)
theorem cellq {D : va_G} {cA : ClassId} {n q : Nat} {f g : Nat → Option Nat} {H : Heap} (hfg : ∀ k, k < n → f k = g k) (h : va_at D vwCl (q, .inl (cA, n, .inr (.inr (.inr (.inr f))))) H) : va_at D vwCl (q, .inl (cA, n, .inr (.inr (.inr (.inr g))))) H := by
  have e : vp_cell cA (n, .inr (.inr (.inr (.inr f)))) = vp_cell cA (n, .inr (.inr (.inr (.inr g)))) := by
    rw [vp_cell_q, vp_cell_q]
    unfold arrV
    have : (fun j : Fin n => va_rf (f j.val)) = fun j : Fin n => va_rf (g j.val) := funext fun j => by rw [hfg j.val j.isLt]
    rw [this]
  have h : H[q]? = some (vp_cell cA (n, .inr (.inr (.inr (.inr f))))) := h
  rw [e] at h
  exact h
theorem up_fv : (upd (upd (upd (upd (upd (upd (fun _ => 0) (0 : Int32).toNatClampNeg 16) (1 : Int32).toNatClampNeg 12) (2 : Int32).toNatClampNeg 4) (3 : Int32).toNatClampNeg 1) (4 : Int32).toNatClampNeg 9) (5 : Int32).toNatClampNeg 20) = fv := by
  funext k
  have e0 : (0 : Int32).toNatClampNeg = 0 := rfl
  have e1 : (1 : Int32).toNatClampNeg = 1 := rfl
  have e2 : (2 : Int32).toNatClampNeg = 2 := rfl
  have e3 : (3 : Int32).toNatClampNeg = 3 := rfl
  have e4 : (4 : Int32).toNatClampNeg = 4 := rfl
  have e5 : (5 : Int32).toNatClampNeg = 5 := rfl
  rw [e0, e1, e2, e3, e4, e5]
  unfold upd fv
  by_cases c5 : k = 5
  · rw [if_pos c5, c5]; rfl
  by_cases c4 : k = 4
  · rw [if_neg c5, if_pos c4, c4]; rfl
  by_cases c3 : k = 3
  · rw [if_neg c5, if_neg c4, if_pos c3, c3]; rfl
  by_cases c2 : k = 2
  · rw [if_neg c5, if_neg c4, if_neg c3, if_pos c2, c2]; rfl
  by_cases c1 : k = 1
  · rw [if_neg c5, if_neg c4, if_neg c3, if_neg c2, if_pos c1, c1]; rfl
  by_cases c0 : k = 0
  · rw [if_neg c5, if_neg c4, if_neg c3, if_neg c2, if_neg c1, if_pos c0, c0]; rfl
  rw [if_neg c5, if_neg c4, if_neg c3, if_neg c2, if_neg c1, if_neg c0, if_neg c0, if_neg c1, if_neg c2, if_neg c3, if_neg c4, if_neg c5]
theorem ta_22 {H : Heap} (hP : va_P V.1 vwCl (wtot V u a) H) : va_at V.1 vwCl ((xF V u a l1 l2).1 22 0, x_c (xF V u a l1 l2) 22 0 (mem0 22 0)) H := by
  refine cellq (fun k hk => ?_) (hP 56 _ (tot_at (d := 5) (off := 55) (p := 1) (Lb := bk1 V (u 11) (u 2) (u 3) (u 4) (u 5) (u 6) (u 7) (u 8)) rfl (by decide) (Nat.le_of_ble_eq_true rfl)))
  rcases (show k = 0 ∨ k = 1 ∨ k = 2 ∨ k = 3 ∨ k = 4 ∨ k = 5 ∨ k = 6 by omega) with rfl | rfl | rfl | rfl | rfl | rfl | rfl
  all_goals rfl
theorem ta_23 {H : Heap} (hP : va_P V.1 vwCl (wtot V u a) H) : va_at V.1 vwCl ((xF V u a l1 l2).1 23 0, x_c (xF V u a l1 l2) 23 0 (mem0 23 0)) H := by
  refine cellq (fun k hk => ?_) (hP 14 _ (tot_at (d := 1) (off := 13) (p := 1) (Lb := bk7 V u) rfl (by decide) (Nat.le_of_ble_eq_true rfl)))
  rcases (show k = 0 ∨ k = 1 by omega) with rfl | rfl
  all_goals rfl
theorem ta_28 {H : Heap} (hP : va_P V.1 vwCl (wtot V u a) H) : va_at V.1 vwCl ((xF V u a l1 l2).1 28 0, x_c (xF V u a l1 l2) 28 0 (mem0 28 0)) H := by
  have h := hP 1 _ (tot_at (d := 0) (off := 0) (p := 1) (Lb := wX8 V a) rfl (by decide) (Nat.le_of_ble_eq_true rfl))
  rw [up_fv] at h
  exact h
set_option maxRecDepth 20000 in
theorem xF_P {H : Heap} (hP : va_P V.1 vwCl (wtot V u a) H) : va_P (xF V u a l1 l2).2.1 vwCl (x_w (xF V u a l1 l2) mem0) H := by
  intro n q hq
  have hn : n < 220 := by
    have := (List.getElem?_eq_some_iff.mp hq).1
    rwa [x_wl] at this
  rw [x_wn _ _ hn] at hq
  cases hq
  unfold x_k
  by_cases c : n < 198
  · rw [if_pos c]
    have hκ : n / 11 < 18 := by omega
    have h := hP _ _ (ty_at (l1 := l1) (l2 := l2) (show n % 11 < 11 by omega) hκ)
    have e1 : (xF V u a l1 l2).1 (n / 11) (n % 11) = u (n % 11) (n / 11) := if_pos hκ
    rw [e1]
    exact h
  · rw [if_neg c]
    have hd : n = 198 ∨ n = 199 ∨ n = 200 ∨ n = 201 ∨ n = 202 ∨ n = 203 ∨ n = 204 ∨ n = 205 ∨ n = 206 ∨ n = 207 ∨ n = 208 ∨ n = 209 ∨ n = 210 ∨ n = 211 ∨ n = 212 ∨ n = 213 ∨ n = 214 ∨ n = 215 ∨ n = 216 ∨ n = 217 ∨ n = 218 ∨ n = 219 := by omega
    rcases hd with rfl | rfl | rfl | rfl | rfl | rfl | rfl | rfl | rfl | rfl | rfl | rfl | rfl | rfl | rfl | rfl | rfl | rfl | rfl | rfl | rfl | rfl
    · exact hP _ _ to_18
    · exact hP _ _ to_19
    · exact hP _ _ to_20
    · exact hP _ _ to_21
    · exact ta_22 hP
    · exact ta_23 hP
    · exact hP _ _ to_24
    · exact hP _ _ to_25
    · exact hP _ _ to_26
    · exact hP _ _ to_27
    · exact ta_28 hP
    · exact hP _ _ to_29
    · exact hP _ _ to_30
    · exact hP _ _ to_31
    · exact hP _ _ to_32
    · exact hP _ _ to_33
    · exact hP _ _ to_34
    · exact hP _ _ to_35
    · exact hP _ _ to_36
    · exact hP _ _ to_37
    · exact hP _ _ to_38
    · exact hP _ _ to_39
end TW
