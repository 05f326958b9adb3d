def xF (V : iV) (u : Nat → Nat → Nat) (l1 l2 : Nat) : xT := (fun κ j => if κ < 18 then u j κ else if κ < 27 then u 11 κ else if κ = 40 then l1 else l2, V.1, V.2.1, V.2.2.1)
def wtot (V : iV) (u : Nat → Nat → Nat) : va_W := wX7 V u ++ []
def bk7 (V : iV) (u : Nat → Nat → Nat) : va_W := [(u 11 18, .inr (7, [.ref (u 0 0), .ref (u 11 20), .ref (u 11 19), .ref (u 11 23), .ref (u 11 24), .ref (u 11 21), .ref (u 11 26)])), (u 11 23, .inl (V.2.1 3, 2, .inr (.inr (.inr (.inr (va_up (va_up (fun _ => none) (0 : Int32).toNatClampNeg (some (u 9 0))) (1 : Int32).toNatClampNeg (some (u 10 0)))))))), (u 11 24, .inl (V.2.1 1, 2, .inl (fun _ => 0))), (u 11 26, .inl (V.2.1 0, 8, .inl (fun _ => 0)))]
def bk1 (V : iV) (a y0 y1 y2 y3 y4 y5 y6 : Nat → Nat) : va_W := [(a 19, .inr (1, [.int 0, .ref (a 22)])), (a 22, .inl (V.2.1 3, 7, .inr (.inr (.inr (.inr (va_up (va_up (va_up (va_up (va_up (va_up (va_up (fun _ => none) (0 : Int32).toNatClampNeg (some (y0 0))) (1 : Int32).toNatClampNeg (some (y1 0))) (2 : Int32).toNatClampNeg (some (y2 0))) (3 : Int32).toNatClampNeg (some (y3 0))) (4 : Int32).toNatClampNeg (some (y4 0))) (5 : Int32).toNatClampNeg (some (y5 0))) (6 : Int32).toNatClampNeg (some (y6 0))))))))]
def bk4 (V : iV) (a y : Nat → Nat) : va_W := [(a 20, .inr (4, [.ref (y 0)]))]
def bls (V : iV) (u : Nat → Nat → Nat) : List va_W := [bk7 V u, wX6 V (u 10), wX6 V (u 9), wX2 V (u 11), bk1 V (u 11) (u 2) (u 3) (u 4) (u 5) (u 6) (u 7) (u 8), wX6 V (u 8), wX6 V (u 7), wX6 V (u 6), wX6 V (u 5), wX6 V (u 4), wX6 V (u 3), wX6 V (u 2), bk4 V (u 11) (u 1), wX6 V (u 1), wX6 V (u 0)]
def bll : List Nat := [4, 18, 18, 2, 2, 18, 18, 18, 18, 18, 18, 18, 1, 18, 18]
theorem tot_fl {V : iV} {u : Nat → Nat → Nat} : wtot V u = (bls V u).flatten := by
  unfold wtot wX7 wX1 wX4 bls bk7 bk1 bk4
  simp only [List.flatten_cons, List.flatten_nil, List.append_assoc, List.append_nil]
theorem fl_get : ∀ (Ls : List va_W) (d : Nat) (Lb : va_W) (p : Nat), Ls[d]? = some Lb → p < Lb.length → Ls.flatten[((Ls.take d).map List.length).sum + p]? = Lb[p]?
  | [], d, Lb, p, h, _ => by simp at h
  | L0 :: Ls, 0, Lb, p, h, hp => by
    rw [List.getElem?_cons_zero] at h
    cases h
    rw [List.take_zero, List.map_nil, List.sum_nil, Nat.zero_add, List.flatten_cons, List.getElem?_append_left hp]
  | L0 :: Ls, d + 1, Lb, p, h, hp => by
    rw [List.getElem?_cons_succ] at h
    rw [List.take_succ_cons, List.map_cons, List.sum_cons, List.flatten_cons, List.getElem?_append_right (by omega), ← fl_get Ls d Lb p h hp]
    congr 1
    omega
section TW
variable {V : iV} {u : Nat → Nat → Nat} {l1 l2 : Nat}
theorem bls_len : (bls V u).map List.length = bll := rfl
theorem yc_len {b : Nat → Nat} : (wX6 V b).length = 18 := rfl
theorem tot_at {d off p : Nat} {Lb : va_W} (hd : (bls V u)[d]? = some Lb) (ho : (bll.take d).sum = off) (hp : p < Lb.length) : (wtot V u)[off + p]? = Lb[p]? := by
  rw [tot_fl, ← ho, ← bls_len (V := V) (u := u), ← List.map_take]
  exact fl_get _ d Lb p hd hp
def oy (j : Nat) : Nat := ([189, 171, 152, 134, 116, 98, 80, 62, 44, 22, 4] : List Nat).getD j 0
def pk (κ : Nat) : Nat := ([0, 12, 9, 5, 1, 2, 3, 4, 13, 14, 15, 16, 17, 10, 11, 6, 7, 8] : List Nat).getD κ 0
def po (i : Nat) : Nat := ([0, 42, 170, 40, 43, 1, 2, 41, 3] : List Nat).getD i 0
def pos (n : Nat) : Nat := if n < 198 then oy (n % 11) + pk (n / 11) else po (n - 198)
theorem pos_inj : ∀ n, n < 207 → ∀ n', n' < 207 → pos n = pos n' → n = n' := by decide +kernel
theorem tot_y {j p : Nat} (hj : j < 11) (hp : p < 18) : (wtot V u)[oy j + p]? = (wX6 V (u j))[p]? := by
  rcases (show j = 0 ∨ j = 1 ∨ j = 2 ∨ j = 3 ∨ j = 4 ∨ j = 5 ∨ j = 6 ∨ j = 7 ∨ j = 8 ∨ j = 9 ∨ j = 10 by omega) with rfl | rfl | rfl | rfl | rfl | rfl | rfl | rfl | rfl | rfl | rfl
  · rw [show oy 0 = 189 from rfl]
    exact tot_at (d := 14) (off := 189) rfl (by decide) (by rw [yc_len]; exact hp)
  · rw [show oy 1 = 171 from rfl]
    exact tot_at (d := 13) (off := 171) rfl (by decide) (by rw [yc_len]; exact hp)
  · rw [show oy 2 = 152 from rfl]
    exact tot_at (d := 11) (off := 152) rfl (by decide) (by rw [yc_len]; exact hp)
  · rw [show oy 3 = 134 from rfl]
    exact tot_at (d := 10) (off := 134) rfl (by decide) (by rw [yc_len]; exact hp)
  · rw [show oy 4 = 116 from rfl]
    exact tot_at (d := 9) (off := 116) rfl (by decide) (by rw [yc_len]; exact hp)
  · rw [show oy 5 = 98 from rfl]
    exact tot_at (d := 8) (off := 98) rfl (by decide) (by rw [yc_len]; exact hp)
  · rw [show oy 6 = 80 from rfl]
    exact tot_at (d := 7) (off := 80) rfl (by decide) (by rw [yc_len]; exact hp)
  · rw [show oy 7 = 62 from rfl]
    exact tot_at (d := 6) (off := 62) rfl (by decide) (by rw [yc_len]; exact hp)
  · rw [show oy 8 = 44 from rfl]
    exact tot_at (d := 5) (off := 44) rfl (by decide) (by rw [yc_len]; exact hp)
  · rw [show oy 9 = 22 from rfl]
    exact tot_at (d := 2) (off := 22) rfl (by decide) (by rw [yc_len]; exact hp)
  · rw [show oy 10 = 4 from rfl]
    exact tot_at (d := 1) (off := 4) rfl (by decide) (by rw [yc_len]; exact hp)
theorem yc_at {j κ : Nat} (hκ : κ < 18) : (wX6 V (u j))[pk κ]? = some (u j κ, x_c (xF V u l1 l2) κ j (mem0 κ j)) := by
  rcases (show κ = 0 ∨ κ = 1 ∨ κ = 2 ∨ κ = 3 ∨ κ = 4 ∨ κ = 5 ∨ κ = 6 ∨ κ = 7 ∨ κ = 8 ∨ κ = 9 ∨ κ = 10 ∨ κ = 11 ∨ κ = 12 ∨ κ = 13 ∨ κ = 14 ∨ κ = 15 ∨ κ = 16 ∨ κ = 17 by omega) with rfl | rfl | rfl | rfl | rfl | rfl | rfl | rfl | rfl | rfl | rfl | rfl | rfl | rfl | rfl | rfl | rfl | rfl
  all_goals rfl
theorem qk_lt {κ : Nat} (hκ : κ < 18) : pk κ < 18 := by
  rcases (show κ = 0 ∨ κ = 1 ∨ κ = 2 ∨ κ = 3 ∨ κ = 4 ∨ κ = 5 ∨ κ = 6 ∨ κ = 7 ∨ κ = 8 ∨ κ = 9 ∨ κ = 10 ∨ κ = 11 ∨ κ = 12 ∨ κ = 13 ∨ κ = 14 ∨ κ = 15 ∨ κ = 16 ∨ κ = 17 by omega) with rfl | rfl | rfl | rfl | rfl | rfl | rfl | rfl | rfl | rfl | rfl | rfl | rfl | rfl | rfl | rfl | rfl | rfl
  all_goals decide
theorem ty_at {j κ : Nat} (hj : j < 11) (hκ : κ < 18) : (wtot V u)[oy j + pk κ]? = some (u j κ, x_c (xF V u l1 l2) κ j (mem0 κ j)) := (tot_y hj (qk_lt hκ)).trans (yc_at hκ)
theorem to_18 : (wtot V u)[0]? = some ((xF V u l1 l2).1 18 0, x_c (xF V u l1 l2) 18 0 (mem0 18 0)) := tot_at (d := 0) (off := 0) (p := 0) (Lb := bk7 V u) rfl (by decide) (Nat.le_of_ble_eq_true rfl)
theorem to_19 : (wtot V u)[42]? = some ((xF V u l1 l2).1 19 0, x_c (xF V u l1 l2) 19 0 (mem0 19 0)) := tot_at (d := 4) (off := 42) (p := 0) (Lb := bk1 V (u 11) (u 2) (u 3) (u 4) (u 5) (u 6) (u 7) (u 8)) rfl (by decide) (Nat.le_of_ble_eq_true rfl)
theorem to_20 : (wtot V u)[170]? = some ((xF V u l1 l2).1 20 0, x_c (xF V u l1 l2) 20 0 (mem0 20 0)) := tot_at (d := 12) (off := 170) (p := 0) (Lb := bk4 V (u 11) (u 1)) rfl (by decide) (Nat.le_of_ble_eq_true rfl)
theorem to_21 : (wtot V u)[40]? = some ((xF V u l1 l2).1 21 0, x_c (xF V u l1 l2) 21 0 (mem0 21 0)) := tot_at (d := 3) (off := 40) (p := 0) (Lb := wX2 V (u 11)) rfl (by decide) (Nat.le_of_ble_eq_true rfl)
theorem to_22 : ∃ e, (wtot V u)[43]? = some ((xF V u l1 l2).1 22 0, e) := ⟨_, tot_at (d := 4) (off := 42) (p := 1) (Lb := bk1 V (u 11) (u 2) (u 3) (u 4) (u 5) (u 6) (u 7) (u 8)) rfl (by decide) (Nat.le_of_ble_eq_true rfl)⟩
theorem to_23 : ∃ e, (wtot V u)[1]? = some ((xF V u l1 l2).1 23 0, e) := ⟨_, tot_at (d := 0) (off := 0) (p := 1) (Lb := bk7 V u) rfl (by decide) (Nat.le_of_ble_eq_true rfl)⟩
theorem to_24 : (wtot V u)[2]? = some ((xF V u l1 l2).1 24 0, x_c (xF V u l1 l2) 24 0 (mem0 24 0)) := tot_at (d := 0) (off := 0) (p := 2) (Lb := bk7 V u) rfl (by decide) (Nat.le_of_ble_eq_true rfl)
theorem to_25 : (wtot V u)[41]? = some ((xF V u l1 l2).1 25 0, x_c (xF V u l1 l2) 25 0 (mem0 25 0)) := tot_at (d := 3) (off := 40) (p := 1) (Lb := wX2 V (u 11)) rfl (by decide) (Nat.le_of_ble_eq_true rfl)
theorem to_26 : (wtot V u)[3]? = some ((xF V u l1 l2).1 26 0, x_c (xF V u l1 l2) 26 0 (mem0 26 0)) := tot_at (d := 0) (off := 0) (p := 3) (Lb := bk7 V u) rfl (by decide) (Nat.le_of_ble_eq_true rfl)
theorem adr {n : Nat} (hn : n < 207) : ∃ e, (wtot V u)[pos n]? = some ((xF V u l1 l2).1 (x_k n).1 (x_k n).2, e) := by
  unfold pos x_k
  by_cases c : n < 198
  · rw [if_pos c, if_pos c]
    have hκ : n / 11 < 18 := by omega
    have h := ty_at (V := V) (u := u) (l1 := l1) (l2 := l2) (show n % 11 < 11 by omega) hκ
    have e1 : (xF V u l1 l2).1 (n / 11) (n % 11) = u (n % 11) (n / 11) := if_pos hκ
    refine ⟨x_c (xF V u l1 l2) (n / 11) (n % 11) (mem0 (n / 11) (n % 11)), ?_⟩
    dsimp only
    rw [e1]
    exact h
  · rw [if_neg c, if_neg c]
    have hd : n = 198 ∨ n = 199 ∨ n = 200 ∨ n = 201 ∨ n = 202 ∨ n = 203 ∨ n = 204 ∨ n = 205 ∨ n = 206 := by omega
    rcases hd with rfl | rfl | rfl | rfl | rfl | rfl | rfl | rfl | rfl
    · exact ⟨_, to_18⟩
    · exact ⟨_, to_19⟩
    · exact ⟨_, to_20⟩
    · exact ⟨_, to_21⟩
    · exact to_22
    · exact to_23
    · exact ⟨_, to_24⟩
    · exact ⟨_, to_25⟩
    · exact ⟨_, to_26⟩
theorem xF_ok {A : Nat → Prop} (hA : ∀ q, A q → V.2.2.1 ≤ q) (hD : va_D A (wtot V u)) : xOK (xF V u l1 l2) := by
  refine ⟨fun n n' hn hn' e => ?_, fun n hn => ?_⟩
  · obtain ⟨e1, h1⟩ := adr (V := V) (u := u) (l1 := l1) (l2 := l2) hn
    obtain ⟨e2, h2⟩ := adr (V := V) (u := u) (l1 := l1) (l2 := l2) hn'
    exact pos_inj n hn n' hn' (hD.1 _ _ _ _ h1 h2 e)
  · obtain ⟨e1, h1⟩ := adr (V := V) (u := u) (l1 := l1) (l2 := l2) hn
    exact hA _ (hD.2 _ _ h1)
theorem cellq {D : va_G} {cA : ClassId} {n q : Nat} {f g : Nat → Option Nat} {H : Heap} (hfg : ∀ k, k < n → f k = g k) (h : va_at D vwCl (q, .inl (cA, n, .inr (.inr (.inr (.inr f))))) H) : va_at D vwCl (q, .inl (cA, n, .inr (.inr (.inr (.inr g))))) H := by
  have e : vp_cell cA (n, .inr (.inr (.inr (.inr f)))) = vp_cell cA (n, .inr (.inr (.inr (.inr g)))) := by
    rw [vp_cell_q, vp_cell_q]
    unfold arrV
    have : (fun j : Fin n => va_rf (f j.val)) = fun j : Fin n => va_rf (g j.val) := funext fun j => by rw [hfg j.val j.isLt]
    rw [this]
  have h : H[q]? = some (vp_cell cA (n, .inr (.inr (.inr (.inr f))))) := h
  rw [e] at h
  exact h
theorem ta_22 {H : Heap} (hP : va_P V.1 vwCl (wtot V u) H) : va_at V.1 vwCl ((xF V u l1 l2).1 22 0, x_c (xF V u l1 l2) 22 0 (mem0 22 0)) H := by
  refine cellq (fun k hk => ?_) (hP 43 _ (tot_at (d := 4) (off := 42) (p := 1) (Lb := bk1 V (u 11) (u 2) (u 3) (u 4) (u 5) (u 6) (u 7) (u 8)) rfl (by decide) (Nat.le_of_ble_eq_true rfl)))
  rcases (show k = 0 ∨ k = 1 ∨ k = 2 ∨ k = 3 ∨ k = 4 ∨ k = 5 ∨ k = 6 by omega) with rfl | rfl | rfl | rfl | rfl | rfl | rfl
  all_goals rfl
theorem ta_23 {H : Heap} (hP : va_P V.1 vwCl (wtot V u) H) : va_at V.1 vwCl ((xF V u l1 l2).1 23 0, x_c (xF V u l1 l2) 23 0 (mem0 23 0)) H := by
  refine cellq (fun k hk => ?_) (hP 1 _ (tot_at (d := 0) (off := 0) (p := 1) (Lb := bk7 V u) rfl (by decide) (Nat.le_of_ble_eq_true rfl)))
  rcases (show k = 0 ∨ k = 1 by omega) with rfl | rfl
  all_goals rfl
set_option maxRecDepth 20000 in
theorem xF_P {H : Heap} (hP : va_P V.1 vwCl (wtot V u) H) : va_P (xF V u l1 l2).2.1 vwCl (x_w (xF V u l1 l2) mem0) H := by
  intro n q hq
  have hn : n < 207 := by
    have := (List.getElem?_eq_some_iff.mp hq).1
    rwa [x_wl] at this
  rw [x_wn _ _ hn] at hq
  cases hq
  unfold x_k
  by_cases c : n < 198
  · rw [if_pos c]
    have hκ : n / 11 < 18 := by omega
    have h := hP _ _ (ty_at (l1 := l1) (l2 := l2) (show n % 11 < 11 by omega) hκ)
    have e1 : (xF V u l1 l2).1 (n / 11) (n % 11) = u (n % 11) (n / 11) := if_pos hκ
    rw [e1]
    exact h
  · rw [if_neg c]
    have hd : n = 198 ∨ n = 199 ∨ n = 200 ∨ n = 201 ∨ n = 202 ∨ n = 203 ∨ n = 204 ∨ n = 205 ∨ n = 206 := by omega
    rcases hd with rfl | rfl | rfl | rfl | rfl | rfl | rfl | rfl | rfl
    · exact hP _ _ to_18
    · exact hP _ _ to_19
    · exact hP _ _ to_20
    · exact hP _ _ to_21
    · exact ta_22 hP
    · exact ta_23 hP
    · exact hP _ _ to_24
    · exact hP _ _ to_25
    · exact hP _ _ to_26
end TW
