def isB (x : Int32) : Bool := decide (x = 0 ∨ x = 1)
theorem isB_n {x : Int32} (h : isB x = true) : narrow .boolean (.int x) = .int x := by
  rcases of_decide_eq_true h with rfl | rfl <;> decide
theorem isB_f {x : Int32} (h : isB x = true) : fits .boolean (.int x) = true := by
  rcases of_decide_eq_true h with rfl | rfl <;> decide
def cpk (sp dp m : Int32) (n0 n : Nat) : Bool := decide ((¬ sp < 0 ∧ ¬ dp < 0) ∧ ¬ m < 0 ∧ sp.toNatClampNeg + m.toNatClampNeg ≤ n0 ∧ dp.toNatClampNeg + m.toNatClampNeg ≤ n)
theorem cpk_1 {sp dp m : Int32} {n0 n : Nat} (h : cpk sp dp m n0 n = true) : ¬ sp < 0 := (of_decide_eq_true h).1.1
theorem cpk_2 {sp dp m : Int32} {n0 n : Nat} (h : cpk sp dp m n0 n = true) : ¬ dp < 0 := (of_decide_eq_true h).1.2
theorem cpk_3 {sp dp m : Int32} {n0 n : Nat} (h : cpk sp dp m n0 n = true) : ¬ m < 0 := (of_decide_eq_true h).2.1
theorem cpk_4 {sp dp m : Int32} {n0 n : Nat} (h : cpk sp dp m n0 n = true) : sp.toNatClampNeg + m.toNatClampNeg ≤ n0 := (of_decide_eq_true h).2.2.1
theorem cpk_5 {sp dp m : Int32} {n0 n : Nat} (h : cpk sp dp m n0 n = true) : dp.toNatClampNeg + m.toNatClampNeg ≤ n := (of_decide_eq_true h).2.2.2
theorem i_ne {x c : Int32} {n : Int} (hn : c.toInt = n) (h : ¬ x = c) : ¬ x.toInt = n := fun e => h (Int32.toInt_inj.mp (e.trans hn.symm))
theorem tr_tabD {X : xT} {own : String} {cc : ByteArray} {F L : Nat} {Γ : gT} (hO : Ok X own cc F L Γ) (pc : Nat) {μ : mT} {lv : List (Nat × Value)} {st : List Value} {dflt lo hi : Int} {offs : Array Int} {len : Nat} {x : Int32} (tgt : Nat) (h : x.toInt < lo ∨ hi < x.toInt ∨ (lo ≤ x.toInt ∧ x.toInt ≤ hi ∧ offs[(x.toInt - lo).toNat]? = some dflt)) (ht : (pc : Int) + dflt = (tgt : Int)) (d : decode cc pc = .ok (.tableswitch dflt lo hi offs, len)) (k : tj X Γ μ tgt lv st) : tj X Γ μ pc lv (.int x :: st) := by
  rcases h with h | h | ⟨h1, h2, h3⟩
  · exact tr_tabOut hO pc tgt (Or.inl h) ht d k
  · exact tr_tabOut hO pc tgt (Or.inr h) ht d k
  · exact tr_tabIn hO pc tgt (Int.not_lt.mpr h1) (Int.not_lt.mpr h2) h3 ht d k
theorem tr_sub {X : xT} {Γ : gT} {μ : mT} {pc : Nat} {lv lv' : List (Nat × Value)} {st : List Value} (ks : List Nat) (h : lv_pick lv ks = lv') (k : tj X Γ μ pc lv' st) : tj X Γ μ pc lv st := by
  obtain ⟨p, l, e, R, s, m, args, below, meth, c, kc, ks', Q, nL⟩ := Γ
  intro H locs la hP hS hl
  exact k H locs la hP hS (lv_sub hl ks h)
def f_X0_copyFrom (j : Nat) (j2 : Nat) (μ : mT) : Option (Int32 × mT) :=
  lt (upM μ 2 j 0 (μ 2 j2 0)) (fun μ1 => lt (upR μ1 13 j (va_cpy (μ1 13 j2) (μ1 13 j) (0 : Int32).toNatClampNeg (0 : Int32).toNatClampNeg (10 : Int32).toNatClampNeg)) (fun μ2 => lt (upR μ2 14 j (va_cpy (μ2 14 j2) (μ2 14 j) (0 : Int32).toNatClampNeg (0 : Int32).toNatClampNeg (10 : Int32).toNatClampNeg)) (fun μ3 => some (0, μ3))))
def f_X0_add (j : Nat) (a1 : Int32) (a2 : Int32) (μ : mT) : Option (Int32 × mT) :=
  gd (inb (μ 2 j 0) 10) (lt (upM μ 13 j (μ 2 j 0).toNatClampNeg a1) (fun μ1 => gd (inb (μ1 2 j 0) 10) (lt (upM μ1 14 j (μ1 2 j 0).toNatClampNeg a2) (fun μ2 => lt (upM μ2 2 j 0 ((μ2 2 j 0) + 1)) (fun μ3 => some (μ3 2 j 0, μ3))))))
def f_X0_dropEnded_L4 (j : Nat) (a1 : Int32) : Nat → Int32 → Int32 → mT → Option (Int32 × mT)
  | 0, _, _, _ => none
  | n + 1, v1, v2, μ3 =>
      (if (μ3 2 j 0) ≤ v2 then
      lt (upM μ3 2 j 0 v1) (fun μ4 => some (0, μ4))
      else
      gd (inb v2 10) (lt (fun (v6 : Int32) (μ7 : mT) => 
      lt (v2 + 1 : Int32) (fun v8 => f_X0_dropEnded_L4 j a1 n v6 v8 μ7)) (fun J5 =>
      (if (μ3 14 j v2.toNatClampNeg) ≤ a1 then
      J5 v1 μ3
      else
      gd (inb v2 10) (gd (inb v1 10) (lt (upM μ3 13 j v1.toNatClampNeg (μ3 13 j v2.toNatClampNeg)) (fun μ9 => gd (inb v2 10) (gd (inb v1 10) (lt (upM μ9 14 j v1.toNatClampNeg (μ9 14 j v2.toNatClampNeg)) (fun μ10 => lt (v1 + 1 : Int32) (fun v11 => J5 v11 μ10)))))))))))
def f_X0_dropEnded (j : Nat) (a1 : Int32) (μ : mT) : Option (Int32 × mT) :=
  f_X0_dropEnded_L4 j a1 fu 0 0 μ
def f_X0_firstFree_L17 (j : Nat) (a2 : Int32) (v2 : Int32) (K7 : Int32 → mT → Option (Int32 × mT)) : Nat → Int32 → Int32 → mT → Option (Int32 × mT)
  | 0, _, _, _ => none
  | n + 1, v4, v5, μ6 =>
      (if (μ6 2 j 0) ≤ v5 then
      K7 v4 μ6
      else
      gd (inb v5 10) (lt (fun (v12 : Int32) (μ13 : mT) => 
      lt (v5 + 1 : Int32) (fun v14 => f_X0_firstFree_L17 j a2 v2 K7 n v12 v14 μ13)) (fun J11 =>
      (if (v4 + a2) ≤ (μ6 13 j v5.toNatClampNeg) then
      J11 v4 μ6
      else
      gd (inb v5 10) ((if (μ6 14 j v5.toNatClampNeg) ≤ v4 then
      J11 v4 μ6
      else
      gd (inb v5 10) (lt (μ6 14 j v5.toNatClampNeg : Int32) (fun v15 => J11 v15 μ6))))))))
def f_X0_firstFree_L5 (j : Nat) (a2 : Int32) : Nat → Int32 → Int32 → mT → Option (Int32 × mT)
  | 0, _, _, _ => none
  | n + 1, v1, v2, μ3 =>
      (if (μ3 2 j 0) ≤ v2 then
      some (v1, μ3)
      else
      lt (fun (v8 : Int32) (μ9 : mT) =>
      lt (v2 + 1 : Int32) (fun v10 => f_X0_firstFree_L5 j a2 n v8 v10 μ9)) (fun K7 =>
      f_X0_firstFree_L17 j a2 v2 K7 fu v1 0 μ3))
def f_X0_firstFree (j : Nat) (a1 : Int32) (a2 : Int32) (μ : mT) : Option (Int32 × mT) :=
  f_X0_firstFree_L5 j a2 fu a1 0 μ
def f_X5_copyFrom (j : Nat) (j2 : Nat) (μ : mT) : Option (Int32 × mT) :=
  lt (upM μ 1 j 0 (μ 1 j2 0)) (fun μ1 => lt (upM μ1 1 j 1 (μ1 1 j2 1)) (fun μ2 => lt (upR μ2 8 j (va_cpy (μ2 8 j2) (μ2 8 j) (0 : Int32).toNatClampNeg (0 : Int32).toNatClampNeg (30 : Int32).toNatClampNeg)) (fun μ3 => lt (upR μ3 9 j (va_cpy (μ3 9 j2) (μ3 9 j) (0 : Int32).toNatClampNeg (0 : Int32).toNatClampNeg (30 : Int32).toNatClampNeg)) (fun μ4 => lt (upR μ4 10 j (va_cpy (μ4 10 j2) (μ4 10 j) (0 : Int32).toNatClampNeg (0 : Int32).toNatClampNeg (30 : Int32).toNatClampNeg)) (fun μ5 => lt (upR μ5 11 j (va_cpy (μ5 11 j2) (μ5 11 j) (0 : Int32).toNatClampNeg (0 : Int32).toNatClampNeg (9 : Int32).toNatClampNeg)) (fun μ6 => lt (upR μ6 12 j (va_cpy (μ6 12 j2) (μ6 12 j) (0 : Int32).toNatClampNeg (0 : Int32).toNatClampNeg (270 : Int32).toNatClampNeg)) (fun μ7 => some (0, μ7))))))))
def f_X3_copyFrom (j : Nat) (j2 : Nat) (μ : mT) : Option (Int32 × mT) :=
  lt (upM μ 3 j 0 (μ 3 j2 0)) (fun μ1 => lt (upR μ1 15 j (va_cpy (μ1 15 j2) (μ1 15 j) (0 : Int32).toNatClampNeg (0 : Int32).toNatClampNeg (8 : Int32).toNatClampNeg)) (fun μ2 => lt (upR μ2 16 j (va_cpy (μ2 16 j2) (μ2 16 j) (0 : Int32).toNatClampNeg (0 : Int32).toNatClampNeg (8 : Int32).toNatClampNeg)) (fun μ3 => lt (upR μ3 17 j (va_cpy (μ3 17 j2) (μ3 17 j) (0 : Int32).toNatClampNeg (0 : Int32).toNatClampNeg (64 : Int32).toNatClampNeg)) (fun μ4 => some (0, μ4)))))
def f_X6_copyFrom (j : Nat) (j2 : Nat) (μ : mT) : Option (Int32 × mT) :=
  lt (upM μ 0 j 0 (μ 0 j2 0)) (fun μ1 => lt (upM μ1 0 j 1 (μ1 0 j2 1)) (fun μ2 => lt (upM μ2 0 j 2 (μ2 0 j2 2)) (fun μ3 => lt (upM μ3 0 j 3 (μ3 0 j2 3)) (fun μ4 => lt (upM μ4 0 j 4 (μ4 0 j2 4)) (fun μ5 => lt (upM μ5 0 j 5 (μ5 0 j2 5)) (fun μ6 => lt (upR μ6 4 j (va_cpy (μ6 4 j2) (μ6 4 j) (0 : Int32).toNatClampNeg (0 : Int32).toNatClampNeg (6 : Int32).toNatClampNeg)) (fun μ7 => lt (upM μ7 0 j 7 (μ7 0 j2 7)) (fun μ8 => lt (upR μ8 5 j (va_cpy (μ8 5 j2) (μ8 5 j) (0 : Int32).toNatClampNeg (0 : Int32).toNatClampNeg (8 : Int32).toNatClampNeg)) (fun μ9 => lt (upR μ9 6 j (va_cpy (μ9 6 j2) (μ9 6 j) (0 : Int32).toNatClampNeg (0 : Int32).toNatClampNeg (8 : Int32).toNatClampNeg)) (fun μ10 => lt (upR μ10 7 j (va_cpy (μ10 7 j2) (μ10 7 j) (0 : Int32).toNatClampNeg (0 : Int32).toNatClampNeg (8 : Int32).toNatClampNeg)) (fun μ11 => bd (f_X5_copyFrom j j2 μ11) (fun _ μ13 => bd (f_X0_copyFrom j j2 μ13) (fun _ μ15 => bd (f_X3_copyFrom j j2 μ15) (fun _ μ17 => some (0, μ17)))))))))))))))
def f_X1_note (j2 : Nat) (μ : mT) : Option (Int32 × mT) :=
  gd (inb (μ 19 0 0) 7) (lt (μ 22 0 (μ 19 0 0).toNatClampNeg).toNatClampNeg (fun jj1 => gd (decide (jj1 < 11)) (bd (f_X6_copyFrom jj1 j2 μ) (fun _ μ3 => some (0, μ3)))))
def f_X1_dropOldest_L9 (jj1 : Nat) (K4 : mT → Option (Int32 × mT)) : Nat → Int32 → mT → Option (Int32 × mT)
  | 0, _, _ => none
  | n + 1, v2, μ3 =>
      (if 6 ≤ v2 then
      K4 μ3
      else
      gd (inb (v2 + 1) 7) (lt (μ3 22 0 (v2 + 1).toNatClampNeg).toNatClampNeg (fun jj7 => gd (decide (jj7 < 11)) (gd (inb v2 7) (lt (upM μ3 22 0 v2.toNatClampNeg (nI jj7)) (fun μ8 => lt (v2 + 1 : Int32) (fun v9 => f_X1_dropOldest_L9 jj1 K4 n v9 μ8)))))))
def f_X1_dropOldest  (μ : mT) : Option (Int32 × mT) :=
  lt (μ 22 0 (0 : Int32).toNatClampNeg).toNatClampNeg (fun jj1 => gd (decide (jj1 < 11)) (lt (fun (μ5 : mT) =>
  lt (upM μ5 22 0 (6 : Int32).toNatClampNeg (nI jj1)) (fun μ6 => some (0, μ6))) (fun K4 =>
  f_X1_dropOldest_L9 jj1 K4 fu 0 μ)))
def f_X1_kept (a1 : Int32) (μ : mT) : Option (Int32 × mT) :=
  (if (0 : Int32) ≤ a1 then
  (if 6 ≤ (μ 19 0 0) then
  bd (f_X1_dropOldest μ) (fun _ μ2 => some (a1, μ2))
  else
  lt (upM μ 19 0 0 ((μ 19 0 0) + 1)) (fun μ3 => some (a1, μ3)))
  else
  some (a1, μ))
def f_X1_takeBack (j2 : Nat) (μ : mT) : Option (Int32 × mT) :=
  (if (μ 19 0 0) = 0 then
  some ((-5), μ)
  else
  lt (upM μ 19 0 0 ((μ 19 0 0) - 1)) (fun μ1 => gd (inb (μ1 19 0 0) 7) (lt (μ1 22 0 (μ1 19 0 0).toNatClampNeg).toNatClampNeg (fun jj2 => gd (decide (jj2 < 11)) (bd (f_X6_copyFrom j2 jj2 μ1) (fun _ μ4 => some (μ4 19 0 0, μ4)))))))
def f_X2_manyTold_L8  : Nat → Int64 → Int32 → Int32 → mT → Option (Int32 × mT)
  | 0, _, _, _, _ => none
  | n + 1, v1, v2, v3, μ4 =>
      (if 8 ≤ v3 then
      some (v2, μ4)
      else
      (if (lg_cmp v1 0) = 0 then
      some (v2, μ4)
      else
      lt (v1 &&& 255 : Int64) (fun v5 => (if (lg_cmp v5 33) < 0 then
      some (0, μ4)
      else
      (if (lg_cmp v5 126) ≤ 0 then
      lt (v2 + 1 : Int32) (fun v6 => lt (shrL v1 8 : Int64) (fun v7 => lt (v3 + 1 : Int32) (fun v8 => f_X2_manyTold_L8 n v7 v6 v8 μ4)))
      else
      some (0, μ4))))))
def f_X2_manyTold (a0 : Int64) (μ : mT) : Option (Int32 × mT) :=
  f_X2_manyTold_L8 fu a0 0 0 μ
def f_X2_append_L29 (a1 : Int64) (v1 : Int32) (K5 : mT → Option (Int32 × mT)) : Nat → Int32 → mT → Option (Int32 × mT)
  | 0, _, _ => none
  | n + 1, v3, μ4 =>
      (if v1 ≤ v3 then
      K5 μ4
      else
      gd (inb ((μ4 21 0 0) + v3) 80) (gd (decide (vp_nar .char (toC (((shrL a1 (8 * ((v1 - 1) - v3))) &&& 255).toInt32)) = (toC (((shrL a1 (8 * ((v1 - 1) - v3))) &&& 255).toInt32)))) (lt (upM μ4 25 0 ((μ4 21 0 0) + v3).toNatClampNeg (toC (((shrL a1 (8 * ((v1 - 1) - v3))) &&& 255).toInt32))) (fun μ8 => lt (v3 + 1 : Int32) (fun v9 => f_X2_append_L29 a1 v1 K5 n v9 μ8)))))
def f_X2_append (a1 : Int64) (μ : mT) : Option (Int32 × mT) :=
  bd (f_X2_manyTold a1 μ) (fun v1 μ2 => (if v1 = 0 then
  some ((-2), μ2)
  else
  (if ((μ2 21 0 0) + v1) ≤ 80 then
  lt (fun (μ6 : mT) =>
  lt (upM μ6 21 0 0 ((μ6 21 0 0) + v1)) (fun μ7 => some (μ7 21 0 0, μ7))) (fun K5 =>
  f_X2_append_L29 a1 v1 K5 fu 0 μ2)
  else
  some ((-4), μ2))))
def f_X2_clear  (μ : mT) : Option (Int32 × mT) :=
  lt (μ 21 0 0 : Int32) (fun v1 => lt (upM μ 21 0 0 0) (fun μ2 => some (v1, μ2)))
def f_X2_codeAt (a1 : Int32) (μ : mT) : Option (Int32 × mT) :=
  (if a1 < 0 then
  some (0, μ)
  else
  (if (μ 21 0 0) ≤ a1 then
  some (0, μ)
  else
  gd (inb a1 80) (some (μ 25 0 a1.toNatClampNeg, μ))))
def f_X2_endsOrder (a1 : Int32) (μ : mT) : Option (Int32 × mT) :=
  (if a1 = (μ 21 0 0) then
  some (1, μ)
  else
  bd (f_X2_codeAt a1 μ) (fun v1 μ2 => (if v1 = 59 then
  some (1, μ2)
  else
  some (0, μ2))))
def f_X2_number_L5 (a2 : Int32) : Nat → Int32 → Int32 → mT → Option (Int32 × mT)
  | 0, _, _, _ => none
  | n + 1, v1, v2, μ3 =>
      (if a2 ≤ v2 then
      some (v1, μ3)
      else
      bd (f_X2_codeAt v2 μ3) (fun v4 μ5 => lt (((v1 * 10) + v4) - 48 : Int32) (fun v6 => lt (v2 + 1 : Int32) (fun v7 => f_X2_number_L5 a2 n v6 v7 μ5))))
def f_X2_number (a1 : Int32) (a2 : Int32) (μ : mT) : Option (Int32 × mT) :=
  f_X2_number_L5 a2 fu 0 a1 μ
def f_X2_dueBehindKind (a0 : Int32) (μ : mT) : Option (Int32 × mT) :=
  (if a0 = 112 then
  some (1, μ)
  else
  (if a0 = 113 then
  some (1, μ)
  else
  (if a0 = 114 then
  some (4, μ)
  else
  (if a0 = 116 then
  some (2, μ)
  else
  (if a0 = 119 then
  some (2, μ)
  else
  some (5, μ))))))
def f_X2_isDigit (a0 : Int32) (μ : mT) : Option (Int32 × mT) :=
  (if a0 < 48 then
  some (0, μ)
  else
  (if 57 < a0 then
  some (0, μ)
  else
  some (1, μ)))
def f_X2_dueBehind (a0 : Int32) (a1 : Int32) (μ : mT) : Option (Int32 × mT) :=
  (if a0 = 0 then
  bd (f_X2_dueBehindKind a1 μ) (fun v1 μ2 => some (v1, μ2))
  else
  (if a0 = 1 then
  (if a1 < 65 then
  some (5, μ)
  else
  (if 72 < a1 then
  some (5, μ)
  else
  some (2, μ)))
  else
  (if a0 = 2 then
  (if a1 = 48 then
  some (4, μ)
  else
  bd (f_X2_isDigit a1 μ) (fun v3 μ4 => (if v3 = 0 then
  some (5, μ4)
  else
  some (3, μ4))))
  else
  (if a0 = 3 then
  bd (f_X2_isDigit a1 μ) (fun v5 μ6 => (if v5 = 0 then
  (if a1 = 59 then
  some (0, μ6)
  else
  some (5, μ6))
  else
  some (4, μ6)))
  else
  (if a1 = 59 then
  some (0, μ)
  else
  some (5, μ))))))
def f_X2_firstFault_L4 (K4 : Int32 → mT → Option (Int32 × mT)) : Nat → Int32 → Int32 → mT → Option (Int32 × mT)
  | 0, _, _, _ => none
  | n + 1, v1, v2, μ3 =>
      (if (μ3 21 0 0) ≤ v2 then
      K4 v1 μ3
      else
      gd (inb v2 80) (bd (f_X2_dueBehind v1 (μ3 25 0 v2.toNatClampNeg) μ3) (fun v7 μ8 => (if v7 = 5 then
      some (v2, μ8)
      else
      lt (v2 + 1 : Int32) (fun v9 => f_X2_firstFault_L4 K4 n v7 v9 μ8)))))
def f_X2_firstFault  (μ : mT) : Option (Int32 × mT) :=
  lt (fun (v5 : Int32) (μ6 : mT) =>
  (if v5 = 3 then
  some ((-6), μ6)
  else
  (if v5 = 4 then
  some ((-6), μ6)
  else
  some (μ6 21 0 0, μ6)))) (fun K4 =>
  f_X2_firstFault_L4 K4 fu 0 0 μ)
def f_X3_has (j : Nat) (a1 : Int32) (μ : mT) : Option (Int32 × mT) :=
  (if a1 < 0 then
  some (0, μ)
  else
  (if (μ 3 j 0) ≤ a1 then
  some (0, μ)
  else
  some (1, μ)))
def f_X3_sizeOf (j : Nat) (a1 : Int32) (μ : mT) : Option (Int32 × mT) :=
  bd (f_X3_has j a1 μ) (fun v1 μ2 => (if v1 = 0 then
  some (0, μ2)
  else
  gd (inb a1 8) (some (μ2 16 j a1.toNatClampNeg, μ2))))
def f_X3_wagonOf (j : Nat) (a1 : Int32) (a2 : Int32) (μ : mT) : Option (Int32 × mT) :=
  bd (f_X3_has j a1 μ) (fun v1 μ2 => lt (fun (v4 : Int32) (μ5 : mT) => 
  (if v4 = 0 then
  some ((-6), μ5)
  else
  gd (inb ((a1 * 8) + a2) 64) (some (μ5 17 j ((a1 * 8) + a2).toNatClampNeg, μ5)))) (fun J3 =>
  lt (fun (μ7 : mT) => 
  J3 0 μ7) (fun J6 =>
  (if v1 = 0 then
  J6 μ2
  else
  (if a2 < 0 then
  J6 μ2
  else
  gd (inb a1 8) ((if (μ2 16 j a1.toNatClampNeg) ≤ a2 then
  J6 μ2
  else
  J3 1 μ2)))))))
def f_X3_trainOf_L12 (j : Nat) (a1 : Int32) (v1 : Int32) (K5 : mT → Option (Int32 × mT)) : Nat → Int32 → mT → Option (Int32 × mT)
  | 0, _, _ => none
  | n + 1, v3, μ4 =>
      gd (inb v1 8) ((if (μ4 16 j v1.toNatClampNeg) ≤ v3 then
      K5 μ4
      else
      gd (inb ((v1 * 8) + v3) 64) ((if (μ4 17 j ((v1 * 8) + v3).toNatClampNeg) = a1 then
      some (v1, μ4)
      else
      lt (v3 + 1 : Int32) (fun v8 => f_X3_trainOf_L12 j a1 v1 K5 n v8 μ4)))))
def f_X3_trainOf_L2 (j : Nat) (a1 : Int32) : Nat → Int32 → mT → Option (Int32 × mT)
  | 0, _, _ => none
  | n + 1, v1, μ2 =>
      (if (μ2 3 j 0) ≤ v1 then
      some ((-6), μ2)
      else
      lt (fun (μ6 : mT) =>
      lt (v1 + 1 : Int32) (fun v7 => f_X3_trainOf_L2 j a1 n v7 μ6)) (fun K5 =>
      f_X3_trainOf_L12 j a1 v1 K5 fu 0 μ2))
def f_X3_trainOf (j : Nat) (a1 : Int32) (μ : mT) : Option (Int32 × mT) :=
  f_X3_trainOf_L2 j a1 fu 0 μ
def f_X3_add (j : Nat) (a2 : Int32) (a3 : Int32) (μ : mT) : Option (Int32 × mT) :=
  gd (inb (μ 3 j 0) 8) (lt (upM μ 15 j (μ 3 j 0).toNatClampNeg a3) (fun μ1 => gd (inb (μ1 3 j 0) 8) (lt (upM μ1 16 j (μ1 3 j 0).toNatClampNeg a2) (fun μ2 => gd (cpk 0 ((μ2 3 j 0) * 8) a2 8 64) (lt (upR μ2 17 j (va_cpy (μ2 26 0) (μ2 17 j) (0 : Int32).toNatClampNeg ((μ2 3 j 0) * 8).toNatClampNeg a2.toNatClampNeg)) (fun μ3 => lt (upM μ3 3 j 0 ((μ3 3 j 0) + 1)) (fun μ4 => some ((μ4 3 j 0) - 1, μ4))))))))
def f_X3_remove_L12 (j : Nat) : Nat → Int32 → mT → Option (Int32 × mT)
  | 0, _, _ => none
  | n + 1, v2, μ3 =>
      (if (μ3 3 j 0) ≤ v2 then
      some (0, μ3)
      else
      gd (inb (v2 + 1) 8) (gd (inb v2 8) (lt (upM μ3 15 j v2.toNatClampNeg (μ3 15 j (v2 + 1).toNatClampNeg)) (fun μ4 => gd (inb (v2 + 1) 8) (gd (inb v2 8) (lt (upM μ4 16 j v2.toNatClampNeg (μ4 16 j (v2 + 1).toNatClampNeg)) (fun μ5 => gd (cpk ((v2 + 1) * 8) (v2 * 8) 8 64 64) (lt (upR μ5 17 j (va_cpy (μ5 17 j) (μ5 17 j) ((v2 + 1) * 8).toNatClampNeg (v2 * 8).toNatClampNeg (8 : Int32).toNatClampNeg)) (fun μ6 => lt (v2 + 1 : Int32) (fun v7 => f_X3_remove_L12 j n v7 μ6))))))))))
def f_X3_remove (j : Nat) (a1 : Int32) (μ : mT) : Option (Int32 × mT) :=
  lt (upM μ 3 j 0 ((μ 3 j 0) - 1)) (fun μ1 => f_X3_remove_L12 j fu a1 μ1)
def f_X5_manyIn (j : Nat) (a1 : Int32) (μ : mT) : Option (Int32 × mT) :=
  gd (inb a1 9) (some (μ 11 j a1.toNatClampNeg, μ))
def f_X5_wagonAt (j : Nat) (a1 : Int32) (a2 : Int32) (μ : mT) : Option (Int32 × mT) :=
  (if a2 < 0 then
  some ((-6), μ)
  else
  gd (inb a1 9) ((if a2 < (μ 11 j a1.toNatClampNeg) then
  lt (fun (v2 : Int32) (μ3 : mT) => 
  gd (inb ((a1 * 30) + v2) 270) (some (μ3 12 j ((a1 * 30) + v2).toNatClampNeg, μ3))) (fun J1 =>
  (if a1 = 8 then
  J1 a2 μ
  else
  gd (inb a1 9) (J1 (((μ 11 j a1.toNatClampNeg) - 1) - a2) μ)))
  else
  some ((-6), μ))))
def f_X6_manyAlike_L23 (j : Nat) (a1 : Int32) (v5 : Int32) : Nat → Int32 → mT → Option (Int32 × mT)
  | 0, _, _ => none
  | n + 1, v6, μ7 =>
      (if v5 ≤ v6 then
      some (v5, μ7)
      else
      bd (f_X5_wagonAt j 8 v6 μ7) (fun v8 μ9 => bd (f_X3_wagonOf j a1 v6 μ9) (fun v10 μ11 => (if v8 = v10 then
      lt (v6 + 1 : Int32) (fun v12 => f_X6_manyAlike_L23 j a1 v5 n v12 μ11)
      else
      some (v6, μ11)))))
def f_X6_manyAlike (j : Nat) (a1 : Int32) (μ : mT) : Option (Int32 × mT) :=
  bd (f_X5_manyIn j 8 μ) (fun v1 μ2 => bd (f_X3_sizeOf j a1 μ2) (fun v3 μ4 => lt (if v3 < v1 then v3 else v1 : Int32) (fun v5 => f_X6_manyAlike_L23 j a1 v5 fu 0 μ4)))
def f_X5_placeIn_L10 (j : Nat) (a1 : Int32) (a2 : Int32) (v1 : Int32) (K4 : Int32 → mT → Option (Int32 × mT)) : Nat → Int32 → mT → Option (Int32 × mT)
  | 0, _, _ => none
  | n + 1, v2, μ3 =>
      (if v1 ≤ v2 then
      some ((-6), μ3)
      else
      gd (inb ((a1 * 30) + v2) 270) ((if (μ3 12 j ((a1 * 30) + v2).toNatClampNeg) = a2 then
      K4 v2 μ3
      else
      lt (v2 + 1 : Int32) (fun v7 => f_X5_placeIn_L10 j a1 a2 v1 K4 n v7 μ3))))
def f_X5_placeIn (j : Nat) (a1 : Int32) (a2 : Int32) (μ : mT) : Option (Int32 × mT) :=
  gd (inb a1 9) (lt (μ 11 j a1.toNatClampNeg : Int32) (fun v1 => lt (fun (v5 : Int32) (μ6 : mT) =>
  (if a1 = 8 then
  some (v5, μ6)
  else
  some ((v1 - 1) - v5, μ6))) (fun K4 =>
  f_X5_placeIn_L10 j a1 a2 v1 K4 fu 0 μ)))
def f_X5_rowOf_L2 (j : Nat) (a1 : Int32) : Nat → Int32 → mT → Option (Int32 × mT)
  | 0, _, _ => none
  | n + 1, v1, μ2 =>
      (if 9 ≤ v1 then
      some ((-6), μ2)
      else
      bd (f_X5_placeIn j v1 a1 μ2) (fun v3 μ4 => (if v3 = ((-6)) then
      lt (v1 + 1 : Int32) (fun v5 => f_X5_rowOf_L2 j a1 n v5 μ4)
      else
      some (v1, μ4))))
def f_X5_rowOf (j : Nat) (a1 : Int32) (μ : mT) : Option (Int32 × mT) :=
  f_X5_rowOf_L2 j a1 fu 0 μ
def f_X4_trackOfNext (a1 : Int32) (a2 : Int32) (μ : mT) : Option (Int32 × mT) :=
  bd (f_X3_wagonOf 1 a1 a2 μ) (fun v1 μ2 => bd (f_X5_rowOf 1 v1 μ2) (fun v3 μ4 => (if v3 = 8 then
  some ((-6), μ4)
  else
  some (v3, μ4))))
def f_X4_manyNext_L32 (a1 : Int32) (a2 : Int32) (a3 : Int32) (v5 : Int32) : Nat → Int32 → mT → Option (Int32 × mT)
  | 0, _, _ => none
  | n + 1, v6, μ7 =>
      (if v5 ≤ v6 then
      some (v5, μ7)
      else
      bd (f_X5_wagonAt 1 a3 v6 μ7) (fun v8 μ9 => bd (f_X3_wagonOf 1 a1 (a2 + v6) μ9) (fun v10 μ11 => (if v8 = v10 then
      lt (v6 + 1 : Int32) (fun v12 => f_X4_manyNext_L32 a1 a2 a3 v5 n v12 μ11)
      else
      some (v6, μ11)))))
def f_X4_manyNext (a1 : Int32) (a2 : Int32) (a3 : Int32) (μ : mT) : Option (Int32 × mT) :=
  bd (f_X5_manyIn 1 a3 μ) (fun v1 μ2 => bd (f_X3_sizeOf 1 a1 μ2) (fun v3 μ4 => lt (if (v3 - a2) < v1 then (v3 - a2) else v1 : Int32) (fun v5 => f_X4_manyNext_L32 a1 a2 a3 v5 fu 0 μ4)))
def f_X5_shift_L15 (j : Nat) (a1 : Int32) (a2 : Int32) (v1 : Int32) : Nat → Int32 → mT → Option (Int32 × mT)
  | 0, _, _ => none
  | n + 1, v2, μ3 =>
      (if v1 ≤ v2 then
      some (0, μ3)
      else
      gd (inb a1 9) (gd (inb a1 9) (lt (upM μ3 11 j a1.toNatClampNeg ((μ3 11 j a1.toNatClampNeg) - 1)) (fun μ4 => gd (inb a2 9) (gd (inb a1 9) (gd (inb ((a1 * 30) + (μ4 11 j a1.toNatClampNeg)) 270) (gd (inb ((a2 * 30) + (μ4 11 j a2.toNatClampNeg)) 270) (lt (upM μ4 12 j ((a2 * 30) + (μ4 11 j a2.toNatClampNeg)).toNatClampNeg (μ4 12 j ((a1 * 30) + (μ4 11 j a1.toNatClampNeg)).toNatClampNeg)) (fun μ5 => gd (inb a2 9) (gd (inb a2 9) (lt (upM μ5 11 j a2.toNatClampNeg ((μ5 11 j a2.toNatClampNeg) + 1)) (fun μ6 => lt (v2 + 1 : Int32) (fun v7 => f_X5_shift_L15 j a1 a2 v1 n v7 μ6)))))))))))))
def f_X5_shift (j : Nat) (a1 : Int32) (a2 : Int32) (a3 : Int32) (μ : mT) : Option (Int32 × mT) :=
  gd (inb a1 9) (lt (if (μ 11 j a1.toNatClampNeg) < a3 then (μ 11 j a1.toNatClampNeg) else a3 : Int32) (fun v1 => f_X5_shift_L15 j a1 a2 v1 fu 0 μ))
def f_X5_notePulled_L16 (j : Nat) (a1 : Int32) (v1 : Int32) : Nat → Int32 → mT → Option (Int32 × mT)
  | 0, _, _ => none
  | n + 1, v2, μ3 =>
      (if a1 ≤ v2 then
      some (0, μ3)
      else
      (if (μ3 11 j (8 : Int32).toNatClampNeg) ≤ v2 then
      some (0, μ3)
      else
      gd (inb (v1 - v2) 270) (gd (inb (μ3 12 j (v1 - v2).toNatClampNeg) 30) (gd (inb (μ3 12 j (v1 - v2).toNatClampNeg) 30) (lt (upM μ3 10 j (μ3 12 j (v1 - v2).toNatClampNeg).toNatClampNeg ((μ3 10 j (μ3 12 j (v1 - v2).toNatClampNeg).toNatClampNeg) + 1)) (fun μ4 => lt (v2 + 1 : Int32) (fun v5 => f_X5_notePulled_L16 j a1 v1 n v5 μ4)))))))
def f_X5_notePulled (j : Nat) (a1 : Int32) (μ : mT) : Option (Int32 × mT) :=
  lt ((240 + (μ 11 j (8 : Int32).toNatClampNeg)) - 1 : Int32) (fun v1 => f_X5_notePulled_L16 j a1 v1 fu 0 μ)
def f_X6_comeTo (j : Nat) (a1 : Int32) (μ : mT) : Option (Int32 × mT) :=
  lt (upM μ 0 j 0 a1) (fun μ1 => bd (f_X0_dropEnded j a1 μ1) (fun _ μ3 => some (0, μ3)))
def f_X6_makeMove (j : Nat) (a1 : Int32) (a2 : Int32) (μ : mT) : Option (Int32 × mT) :=
  lt (a1 + (a2 * (μ 4 j (3 : Int32).toNatClampNeg)) : Int32) (fun v1 => bd (f_X0_firstFree j (μ 0 j 0) v1 μ) (fun v2 μ3 => lt (upM μ3 0 j 3 ((μ3 0 j 3) + (v2 - (μ3 0 j 0)))) (fun μ4 => lt (upM μ4 0 j 1 ((μ4 0 j 1) + a2)) (fun μ5 => lt (upM μ5 0 j 2 ((μ5 0 j 2) + 1)) (fun μ6 => bd (f_X6_comeTo j (v2 + v1) μ6) (fun _ μ8 => some (0, μ8)))))))
def f_X6_drawOut (j : Nat) (a1 : Int32) (a2 : Int32) (μ : mT) : Option (Int32 × mT) :=
  bd (f_X5_shift j a1 8 a2 μ) (fun _ μ2 => bd (f_X5_notePulled j a2 μ2) (fun _ μ4 => gd (inb a1 8) (gd (inb a1 8) (lt (upM μ4 6 j a1.toNatClampNeg ((μ4 6 j a1.toNatClampNeg) + a2)) (fun μ5 => bd (f_X5_manyIn j a1 μ5) (fun v6 μ7 => lt (fun (v9 : Int32) (μ10 : mT) => 
  bd (f_X6_makeMove j (μ5 4 j (2 : Int32).toNatClampNeg) v9 μ10) (fun _ μ12 => bd (f_X5_manyIn j 8 μ12) (fun v13 μ14 => some (v13, μ14)))) (fun J8 =>
  (if v6 ≤ 0 then
  J8 1 μ7
  else
  J8 2 μ7))))))))
def f_X4_fewestPulls_L36 (a2 : Int32) : Nat → Int32 → mT → Option (Int32 × mT)
  | 0, _, _ => none
  | n + 1, v7, μ8 =>
      (if 8 < v7 then
      some ((-6), μ8)
      else
      bd (f_X5_manyIn 1 8 μ8) (fun v9 μ10 => bd (f_X3_sizeOf 1 a2 μ10) (fun v11 μ12 => (if v9 = v11 then
      some (v7, μ12)
      else
      bd (f_X4_trackOfNext a2 v9 μ12) (fun v13 μ14 => lt (fun (v16 : Int32) (μ17 : mT) => 
      (if v16 = 0 then
      some ((-6), μ17)
      else
      bd (f_X6_drawOut 1 v13 v16 μ17) (fun v18 μ19 => lt (v7 + 1 : Int32) (fun v20 => f_X4_fewestPulls_L36 a2 n v20 μ19)))) (fun J15 =>
      (if v13 = ((-6)) then
      J15 0 μ14
      else
      bd (f_X4_manyNext a2 v9 v13 μ14) (fun v21 μ22 => J15 v21 μ22))))))))
def f_X4_fewestPulls (j2 : Nat) (a2 : Int32) (μ : mT) : Option (Int32 × mT) :=
  bd (f_X6_copyFrom 1 j2 μ) (fun _ μ2 => bd (f_X6_manyAlike 1 a2 μ2) (fun v3 μ4 => bd (f_X5_manyIn 1 8 μ4) (fun v5 μ6 => (if v3 = v5 then
  f_X4_fewestPulls_L36 a2 fu 0 μ6
  else
  some ((-6), μ6)))))
def f_X6_couldLeave (j : Nat) (a1 : Int32) (μ : mT) : Option (Int32 × mT) :=
  bd (f_X3_sizeOf j a1 μ) (fun v1 μ2 => bd (f_X5_manyIn j 8 μ2) (fun v3 μ4 => (if v3 = v1 then
  bd (f_X6_manyAlike j a1 μ4) (fun v5 μ6 => (if v5 = v1 then
  some (1, μ6)
  else
  some (0, μ6)))
  else
  some (0, μ4))))
def f_X5_lengthOfRow_L4 (j : Nat) (a1 : Int32) : Nat → Int32 → Int32 → mT → Option (Int32 × mT)
  | 0, _, _, _ => none
  | n + 1, v1, v2, μ3 =>
      gd (inb a1 9) ((if (μ3 11 j a1.toNatClampNeg) ≤ v2 then
      some (v1, μ3)
      else
      gd (inb ((a1 * 30) + v2) 270) (gd (inb (μ3 12 j ((a1 * 30) + v2).toNatClampNeg) 30) (lt (v1 + (μ3 8 j (μ3 12 j ((a1 * 30) + v2).toNatClampNeg).toNatClampNeg) : Int32) (fun v4 => lt (v2 + 1 : Int32) (fun v5 => f_X5_lengthOfRow_L4 j a1 n v4 v5 μ3))))))
def f_X5_lengthOfRow (j : Nat) (a1 : Int32) (μ : mT) : Option (Int32 × mT) :=
  f_X5_lengthOfRow_L4 j a1 fu 0 0 μ
def f_X6_canGoRound (j : Nat) (μ : mT) : Option (Int32 × mT) :=
  bd (f_X5_manyIn j 8 μ) (fun v1 μ2 => (if v1 ≤ 0 then
  some (0, μ2)
  else
  bd (f_X5_lengthOfRow j 8 μ2) (fun v3 μ4 => (if (μ4 4 j (1 : Int32).toNatClampNeg) < v3 then
  some (0, μ4)
  else
  some (1, μ4)))))
def f_X4_isTurned_L14 (a1 : Int32) (v1 : Int32) : Nat → Int32 → mT → Option (Int32 × mT)
  | 0, _, _ => none
  | n + 1, v3, μ4 =>
      (if v1 ≤ v3 then
      some (1, μ4)
      else
      bd (f_X5_wagonAt 1 8 ((v1 - 1) - v3) μ4) (fun v5 μ6 => bd (f_X3_wagonOf 1 a1 v3 μ6) (fun v7 μ8 => (if v5 = v7 then
      lt (v3 + 1 : Int32) (fun v9 => f_X4_isTurned_L14 a1 v1 n v9 μ8)
      else
      some (0, μ8)))))
def f_X4_isTurned (a1 : Int32) (μ : mT) : Option (Int32 × mT) :=
  bd (f_X3_sizeOf 1 a1 μ) (fun v1 μ2 => f_X4_isTurned_L14 a1 v1 fu 0 μ2)
def f_X5_lengthOfLast_L20 (j : Nat) (a1 : Int32) (a2 : Int32) (v1 : Int32) : Nat → Int32 → Int32 → mT → Option (Int32 × mT)
  | 0, _, _, _ => none
  | n + 1, v2, v3, μ4 =>
      (if a2 ≤ v3 then
      some (v2, μ4)
      else
      gd (inb a1 9) ((if (μ4 11 j a1.toNatClampNeg) ≤ v3 then
      some (v2, μ4)
      else
      gd (inb (v1 - v3) 270) (gd (inb (μ4 12 j (v1 - v3).toNatClampNeg) 30) (lt (v2 + (μ4 8 j (μ4 12 j (v1 - v3).toNatClampNeg).toNatClampNeg) : Int32) (fun v5 => lt (v3 + 1 : Int32) (fun v6 => f_X5_lengthOfLast_L20 j a1 a2 v1 n v5 v6 μ4)))))))
def f_X5_lengthOfLast (j : Nat) (a1 : Int32) (a2 : Int32) (μ : mT) : Option (Int32 × mT) :=
  gd (inb a1 9) (lt (((a1 * 30) + (μ 11 j a1.toNatClampNeg)) - 1 : Int32) (fun v1 => f_X5_lengthOfLast_L20 j a1 a2 v1 fu 0 0 μ))
def f_X6_canBringIn (j : Nat) (a1 : Int32) (a2 : Int32) (μ : mT) : Option (Int32 × mT) :=
  bd (f_X5_manyIn j 8 μ) (fun v1 μ2 => (if v1 < a2 then
  some (0, μ2)
  else
  bd (f_X5_lengthOfRow j a1 μ2) (fun v3 μ4 => bd (f_X5_lengthOfLast j 8 a2 μ4) (fun v5 μ6 => gd (inb a1 8) ((if (μ6 5 j a1.toNatClampNeg) < (v3 + v5) then
  some (0, μ6)
  else
  some (1, μ6)))))))
def f_X6_tracksFor_L4 (j : Nat) (a1 : Int32) : Nat → Int32 → Int32 → mT → Option (Int32 × mT)
  | 0, _, _, _ => none
  | n + 1, v1, v2, μ3 =>
      (if (μ3 0 j 7) ≤ v2 then
      some (v1, μ3)
      else
      lt (fun (v5 : Int32) (μ6 : mT) => 
      lt (v2 + 1 : Int32) (fun v7 => f_X6_tracksFor_L4 j a1 n v5 v7 μ6)) (fun J4 =>
      (if a1 ≤ 0 then
      J4 v1 μ3
      else
      bd (f_X6_canBringIn j v2 a1 μ3) (fun v8 μ9 => (if v8 = 0 then
      J4 v1 μ9
      else
      lt (v1 ||| (1 <<< (v2 &&& 31)) : Int32) (fun v10 => J4 v10 μ9))))))
def f_X6_tracksFor (j : Nat) (a1 : Int32) (μ : mT) : Option (Int32 × mT) :=
  f_X6_tracksFor_L4 j a1 fu 0 0 μ
def f_X6_canTakeOut (j : Nat) (a1 : Int32) (a2 : Int32) (μ : mT) : Option (Int32 × mT) :=
  bd (f_X5_manyIn j a1 μ) (fun v1 μ2 => (if v1 < a2 then
  some (0, μ2)
  else
  bd (f_X5_lengthOfRow j 8 μ2) (fun v3 μ4 => bd (f_X5_lengthOfLast j a1 a2 μ4) (fun v5 μ6 => (if (μ6 4 j (0 : Int32).toNatClampNeg) < (v3 + v5) then
  some (0, μ6)
  else
  some (1, μ6))))))
def f_X4_couldAfterOne (a1 : Int32) (μ : mT) : Option (Int32 × mT) :=
  bd (f_X5_manyIn 1 8 μ) (fun v1 μ2 => bd (f_X3_sizeOf 1 a1 μ2) (fun v3 μ4 => (if v1 = v3 then
  bd (f_X6_canGoRound 1 μ4) (fun v16 μ17 => (if v16 = 0 then
  some (0, μ17)
  else
  bd (f_X4_isTurned a1 μ17) (fun v18 μ19 => (if v18 = 0 then
  some (0, μ19)
  else
  some (1, μ19)))))
  else
  bd (f_X6_manyAlike 1 a1 μ4) (fun v5 μ6 => (if (if v3 < v1 then v3 else v1) ≤ v5 then
  (if v1 ≤ v3 then
  bd (f_X4_trackOfNext a1 v1 μ6) (fun v7 μ8 => lt (v3 - v1 : Int32) (fun v9 => (if v7 = ((-6)) then
  some (0, μ8)
  else
  bd (f_X4_manyNext a1 v1 v7 μ8) (fun v10 μ11 => (if v10 = v9 then
  bd (f_X6_canTakeOut 1 v7 v9 μ11) (fun v12 μ13 => (if v12 = 0 then
  some (0, μ13)
  else
  some (1, μ13)))
  else
  some (0, μ11))))))
  else
  bd (f_X6_tracksFor 1 (v1 - v3) μ6) (fun v14 μ15 => (if v14 = 0 then
  some (0, μ15)
  else
  some (1, μ15))))
  else
  some (0, μ6))))))
def f_X4_couldAfterTakingOut_L18 (a1 : Int32) (a2 : Int32) (v1 : Int32) : Nat → Int32 → Int32 → mT → Option (Int32 × mT)
  | 0, _, _, _ => none
  | n + 1, v3, v4, μ5 =>
      (if v1 < v4 then
      gd (isB v3) (some (v3, μ5))
      else
      (if v3 = 0 then
      bd (f_X6_canTakeOut 1 a2 v4 μ5) (fun v6 μ7 => lt (fun (v9 : Int32) (μ10 : mT) => 
      lt (v4 + 1 : Int32) (fun v11 => f_X4_couldAfterTakingOut_L18 a1 a2 v1 n v9 v11 μ10)) (fun J8 =>
      (if v6 = 0 then
      J8 v3 μ7
      else
      bd (f_X5_shift 1 a2 8 v4 μ7) (fun _ μ13 => bd (f_X4_couldAfterOne a1 μ13) (fun v14 μ15 => bd (f_X5_shift 1 8 a2 v4 μ15) (fun _ μ17 => J8 v14 μ17))))))
      else
      gd (isB v3) (some (v3, μ5))))
def f_X4_couldAfterTakingOut (a1 : Int32) (a2 : Int32) (μ : mT) : Option (Int32 × mT) :=
  bd (f_X5_manyIn 1 a2 μ) (fun v1 μ2 => f_X4_couldAfterTakingOut_L18 a1 a2 v1 fu 0 1 μ2)
def f_X4_couldAfterBringingIn_L19 (a1 : Int32) (a2 : Int32) (v1 : Int32) : Nat → Int32 → Int32 → mT → Option (Int32 × mT)
  | 0, _, _, _ => none
  | n + 1, v3, v4, μ5 =>
      (if v1 < v4 then
      gd (isB v3) (some (v3, μ5))
      else
      (if v3 = 0 then
      bd (f_X6_canBringIn 1 a2 v4 μ5) (fun v6 μ7 => lt (fun (v9 : Int32) (μ10 : mT) => 
      lt (v4 + 1 : Int32) (fun v11 => f_X4_couldAfterBringingIn_L19 a1 a2 v1 n v9 v11 μ10)) (fun J8 =>
      (if v6 = 0 then
      J8 v3 μ7
      else
      bd (f_X5_shift 1 8 a2 v4 μ7) (fun _ μ13 => bd (f_X4_couldAfterOne a1 μ13) (fun v14 μ15 => bd (f_X5_shift 1 a2 8 v4 μ15) (fun _ μ17 => J8 v14 μ17))))))
      else
      gd (isB v3) (some (v3, μ5))))
def f_X4_couldAfterBringingIn (a1 : Int32) (a2 : Int32) (μ : mT) : Option (Int32 × mT) :=
  bd (f_X5_manyIn 1 8 μ) (fun v1 μ2 => f_X4_couldAfterBringingIn_L19 a1 a2 v1 fu 0 1 μ2)
def f_X5_turnEngine_L18 (j : Nat) (v1 : Int32) : Nat → Int32 → mT → Option (Int32 × mT)
  | 0, _, _ => none
  | n + 1, v2, μ3 =>
      (if ((μ3 11 j (8 : Int32).toNatClampNeg) / 2) ≤ v2 then
      some (0, μ3)
      else
      gd (inb (240 + v2) 270) (lt (μ3 12 j (240 + v2).toNatClampNeg : Int32) (fun v4 => gd (inb (v1 - v2) 270) (gd (inb (240 + v2) 270) (lt (upM μ3 12 j (240 + v2).toNatClampNeg (μ3 12 j (v1 - v2).toNatClampNeg)) (fun μ5 => gd (inb (v1 - v2) 270) (lt (upM μ5 12 j (v1 - v2).toNatClampNeg v4) (fun μ6 => lt (v2 + 1 : Int32) (fun v7 => f_X5_turnEngine_L18 j v1 n v7 μ6)))))))))
def f_X5_turnEngine (j : Nat) (μ : mT) : Option (Int32 × mT) :=
  lt ((240 + (μ 11 j (8 : Int32).toNatClampNeg)) - 1 : Int32) (fun v1 => f_X5_turnEngine_L18 j v1 fu 0 μ)
def f_X4_couldAfterGoingRound (a1 : Int32) (μ : mT) : Option (Int32 × mT) :=
  bd (f_X6_canGoRound 1 μ) (fun v1 μ2 => (if v1 = 0 then
  some (0, μ2)
  else
  bd (f_X5_turnEngine 1 μ2) (fun _ μ4 => bd (f_X4_couldAfterOne a1 μ4) (fun v5 μ6 => bd (f_X5_turnEngine 1 μ6) (fun _ μ8 => gd (isB v5) (some (v5, μ8)))))))
def f_X4_fewestMoves_L33 (a2 : Int32) (K9 : mT → Option (Int32 × mT)) : Nat → Int32 → mT → Option (Int32 × mT)
  | 0, _, _ => none
  | n + 1, v7, μ8 =>
      (if (μ8 0 1 7) ≤ v7 then
      K9 μ8
      else
      bd (f_X4_couldAfterTakingOut a2 v7 μ8) (fun v13 μ14 => (if v13 = 0 then
      bd (f_X4_couldAfterBringingIn a2 v7 μ14) (fun v15 μ16 => (if v15 = 0 then
      lt (v7 + 1 : Int32) (fun v17 => f_X4_fewestMoves_L33 a2 K9 n v17 μ16)
      else
      some (2, μ16)))
      else
      some (2, μ14))))
def f_X4_fewestMoves (j2 : Nat) (a2 : Int32) (μ : mT) : Option (Int32 × mT) :=
  bd (f_X6_copyFrom 1 j2 μ) (fun _ μ2 => bd (f_X6_couldLeave 1 a2 μ2) (fun v3 μ4 => (if v3 = 0 then
  bd (f_X4_couldAfterOne a2 μ4) (fun v5 μ6 => (if v5 = 0 then
  lt (fun (μ10 : mT) =>
  bd (f_X4_couldAfterGoingRound a2 μ10) (fun v11 μ12 => (if v11 = 0 then
  some ((-6), μ12)
  else
  some (2, μ12)))) (fun K9 =>
  f_X4_fewestMoves_L33 a2 K9 fu 0 μ6)
  else
  some (1, μ6)))
  else
  some (0, μ4))))
def f_X5_add (j : Nat) (a1 : Int32) (a2 : Int32) (μ : mT) : Option (Int32 × mT) :=
  gd (inb (μ 1 j 0) 30) (lt (upM μ 8 j (μ 1 j 0).toNatClampNeg a2) (fun μ1 => gd (inb a1 9) (gd (inb ((a1 * 30) + (μ1 11 j a1.toNatClampNeg)) 270) (lt (upM μ1 12 j ((a1 * 30) + (μ1 11 j a1.toNatClampNeg)).toNatClampNeg (μ1 1 j 0)) (fun μ2 => gd (inb a1 9) (gd (inb a1 9) (lt (upM μ2 11 j a1.toNatClampNeg ((μ2 11 j a1.toNatClampNeg) + 1)) (fun μ3 => lt (upM μ3 1 j 0 ((μ3 1 j 0) + 1)) (fun μ4 => some ((μ4 1 j 0) - 1, μ4))))))))))
def f_X5_lengthOfWagon (j : Nat) (a1 : Int32) (μ : mT) : Option (Int32 × mT) :=
  (if a1 < 0 then
  some (0, μ)
  else
  (if (μ 1 j 0) ≤ a1 then
  some (0, μ)
  else
  gd (inb a1 30) (some (μ 8 j a1.toNatClampNeg, μ))))
def f_X5_engineLeaves_L10 (j : Nat) (a1 : Int32) (v1 : Int32) (K4 : mT → Option (Int32 × mT)) : Nat → Int32 → mT → Option (Int32 × mT)
  | 0, _, _ => none
  | n + 1, v2, μ3 =>
      (if v1 ≤ v2 then
      K4 μ3
      else
      gd (inb (240 + v2) 270) (gd (inb (μ3 12 j (240 + v2).toNatClampNeg) 30) (lt (upM μ3 9 j (μ3 12 j (240 + v2).toNatClampNeg).toNatClampNeg a1) (fun μ8 => lt (v2 + 1 : Int32) (fun v9 => f_X5_engineLeaves_L10 j a1 v1 K4 n v9 μ8)))))
def f_X5_engineLeaves (j : Nat) (a1 : Int32) (μ : mT) : Option (Int32 × mT) :=
  lt (μ 11 j (8 : Int32).toNatClampNeg : Int32) (fun v1 => lt (fun (μ5 : mT) =>
  lt (upM μ5 1 j 1 ((μ5 1 j 1) + v1)) (fun μ6 => lt (upM μ6 11 j (8 : Int32).toNatClampNeg 0) (fun μ7 => some (0, μ7)))) (fun K4 =>
  f_X5_engineLeaves_L10 j a1 v1 K4 fu 0 μ))
def f_X6_changeSetting (j : Nat) (a1 : Int32) (a2 : Int32) (μ : mT) : Option (Int32 × mT) :=
  (if a1 < 0 then
  some ((-2), μ)
  else
  (if a1 < 6 then
  gd (inb a1 6) ((if a2 < (cst 40 a1.toNatClampNeg) then
  some ((-2), μ)
  else
  gd (inb a1 6) ((if a2 ≤ (cst 41 a1.toNatClampNeg) then
  gd (inb a1 6) (lt (μ 4 j a1.toNatClampNeg : Int32) (fun v1 => gd (inb a1 6) (lt (upM μ 4 j a1.toNatClampNeg a2) (fun μ2 => some (v1, μ2)))))
  else
  some ((-2), μ)))))
  else
  some ((-2), μ)))
def f_X6_hasTrack (j : Nat) (a1 : Int32) (μ : mT) : Option (Int32 × mT) :=
  (if a1 < 0 then
  some (0, μ)
  else
  (if (μ 0 j 7) ≤ a1 then
  some (0, μ)
  else
  some (1, μ)))
def f_X6_addTrack (j : Nat) (a1 : Int32) (μ : mT) : Option (Int32 × mT) :=
  (if a1 < 4 then
  some ((-2), μ)
  else
  (if a1 ≤ 60 then
  (if (μ 0 j 7) < 8 then
  gd (inb (μ 0 j 7) 8) (lt (upM μ 5 j (μ 0 j 7).toNatClampNeg a1) (fun μ1 => lt (upM μ1 0 j 7 ((μ1 0 j 7) + 1)) (fun μ2 => some ((μ2 0 j 7) - 1, μ2))))
  else
  some ((-4), μ))
  else
  some ((-2), μ)))
def f_X6_addWagon (j : Nat) (a1 : Int32) (a2 : Int32) (μ : mT) : Option (Int32 × mT) :=
  bd (f_X6_hasTrack j a1 μ) (fun v1 μ2 => (if v1 = 0 then
  some ((-1), μ2)
  else
  (if a2 < 1 then
  some ((-2), μ2)
  else
  (if a2 ≤ 4 then
  (if (μ2 1 j 0) < 30 then
  bd (f_X5_lengthOfRow j a1 μ2) (fun v3 μ4 => gd (inb a1 8) ((if (v3 + a2) ≤ (μ4 5 j a1.toNatClampNeg) then
  bd (f_X5_add j a1 a2 μ4) (fun v5 μ6 => some (v5, μ6))
  else
  some ((-5), μ4))))
  else
  some ((-4), μ2))
  else
  some ((-2), μ2)))))
def f_X6_addBlock (j : Nat) (a1 : Int32) (a2 : Int32) (μ : mT) : Option (Int32 × mT) :=
  (if a1 < (μ 0 j 0) then
  some ((-2), μ)
  else
  (if ((μ 0 j 0) + 2000) < a1 then
  some ((-2), μ)
  else
  (if a2 < 1 then
  some ((-2), μ)
  else
  (if a2 ≤ 500 then
  (if (μ 2 j 0) < 10 then
  bd (f_X0_add j a1 (a1 + a2) μ) (fun v1 μ2 => some (v1, μ2))
  else
  some ((-4), μ))
  else
  some ((-2), μ)))))
def f_X6_takeOut (j : Nat) (a1 : Int32) (a2 : Int32) (μ : mT) : Option (Int32 × mT) :=
  bd (f_X6_hasTrack j a1 μ) (fun v1 μ2 => (if v1 = 0 then
  some ((-1), μ2)
  else
  (if a2 < 1 then
  some ((-2), μ2)
  else
  (if a2 ≤ 30 then
  bd (f_X6_canTakeOut j a1 a2 μ2) (fun v3 μ4 => (if v3 = 0 then
  some ((-5), μ4)
  else
  bd (f_X6_drawOut j a1 a2 μ4) (fun v5 μ6 => some (v5, μ6))))
  else
  some ((-2), μ2)))))
def f_X6_bringIn (j : Nat) (a1 : Int32) (a2 : Int32) (μ : mT) : Option (Int32 × mT) :=
  bd (f_X6_hasTrack j a1 μ) (fun v1 μ2 => (if v1 = 0 then
  some ((-1), μ2)
  else
  (if a2 < 1 then
  some ((-2), μ2)
  else
  (if a2 ≤ 30 then
  bd (f_X6_canBringIn j a1 a2 μ2) (fun v3 μ4 => (if v3 = 0 then
  some ((-5), μ4)
  else
  bd (f_X5_manyIn j a1 μ4) (fun v5 μ6 => lt (fun (v8 : Int32) (μ9 : mT) => 
  bd (f_X5_shift j 8 a1 a2 μ9) (fun _ μ11 => gd (inb a1 8) (gd (inb a1 8) (lt (upM μ11 7 j a1.toNatClampNeg ((μ11 7 j a1.toNatClampNeg) + a2)) (fun μ12 => bd (f_X6_makeMove j (μ12 4 j (2 : Int32).toNatClampNeg) v8 μ12) (fun _ μ14 => bd (f_X5_manyIn j 8 μ14) (fun v15 μ16 => some (v15, μ16)))))))) (fun J7 =>
  (if v5 ≤ 0 then
  J7 1 μ6
  else
  J7 2 μ6)))))
  else
  some ((-2), μ2)))))
def f_X6_goRound (j : Nat) (μ : mT) : Option (Int32 × mT) :=
  bd (f_X6_canGoRound j μ) (fun v1 μ2 => (if v1 = 0 then
  some ((-5), μ2)
  else
  bd (f_X5_turnEngine j μ2) (fun _ μ4 => bd (f_X6_makeMove j (μ4 4 j (4 : Int32).toNatClampNeg) 2 μ4) (fun _ μ6 => some (μ6 0 j 0, μ6)))))
def f_X6_letPass (j : Nat) (a1 : Int32) (μ : mT) : Option (Int32 × mT) :=
  (if a1 < 1 then
  some ((-2), μ)
  else
  (if a1 ≤ 999 then
  bd (f_X6_comeTo j ((μ 0 j 0) + a1) μ) (fun _ μ2 => some (μ2 0 j 0, μ2))
  else
  some ((-2), μ)))
def f_X6_areThere_L27 (j : Nat) (a2 : Int32) (v1 : Int32) (K9 : mT → Option (Int32 × mT)) : Nat → Int32 → mT → Option (Int32 × mT)
  | 0, _, _ => none
  | n + 1, v7, μ8 =>
      (if v1 ≤ v7 then
      K9 μ8
      else
      gd (inb v1 8) (gd (inb v7 8) ((if (μ8 26 0 v1.toNatClampNeg) = (μ8 26 0 v7.toNatClampNeg) then
      some (0, μ8)
      else
      lt (v7 + 1 : Int32) (fun v12 => f_X6_areThere_L27 j a2 v1 K9 n v12 μ8)))))
def f_X6_areThere_L2 (j : Nat) (a2 : Int32) (K3 : mT → Option (Int32 × mT)) : Nat → Int32 → mT → Option (Int32 × mT)
  | 0, _, _ => none
  | n + 1, v1, μ2 =>
      (if a2 ≤ v1 then
      K3 μ2
      else
      gd (inb v1 8) (bd (f_X5_rowOf j (μ2 26 0 v1.toNatClampNeg) μ2) (fun v5 μ6 => (if v5 = ((-6)) then
      some (0, μ6)
      else
      lt (fun (μ10 : mT) =>
      lt (v1 + 1 : Int32) (fun v11 => f_X6_areThere_L2 j a2 K3 n v11 μ10)) (fun K9 =>
      f_X6_areThere_L27 j a2 v1 K9 fu 0 μ6)))))
def f_X6_areThere (j : Nat) (a2 : Int32) (μ : mT) : Option (Int32 × mT) :=
  lt (fun (μ4 : mT) =>
  (if a2 ≤ 0 then
  some (0, μ4)
  else
  some (1, μ4))) (fun K3 =>
  f_X6_areThere_L2 j a2 K3 fu 0 μ)
def f_X6_addTrain_L50 (j : Nat) (a2 : Int32) (a3 : Int32) (K5 : mT → Option (Int32 × mT)) : Nat → Int32 → mT → Option (Int32 × mT)
  | 0, _, _ => none
  | n + 1, v3, μ4 =>
      (if a2 ≤ v3 then
      K5 μ4
      else
      gd (inb v3 8) (bd (f_X3_trainOf j (μ4 26 0 v3.toNatClampNeg) μ4) (fun v9 μ10 => (if v9 = ((-6)) then
      lt (v3 + 1 : Int32) (fun v11 => f_X6_addTrain_L50 j a2 a3 K5 n v11 μ10)
      else
      some ((-5), μ10)))))
def f_X6_addTrain (j : Nat) (a2 : Int32) (a3 : Int32) (μ : mT) : Option (Int32 × mT) :=
  bd (f_X6_areThere j a2 μ) (fun v1 μ2 => (if v1 = 0 then
  some ((-2), μ2)
  else
  (if a3 < (μ2 0 j 0) then
  some ((-2), μ2)
  else
  (if a3 ≤ ((μ2 0 j 0) + 5000) then
  (if (μ2 3 j 0) < 8 then
  lt (fun (μ6 : mT) =>
  bd (f_X3_add j a2 a3 μ6) (fun v7 μ8 => some (v7, μ8))) (fun K5 =>
  f_X6_addTrain_L50 j a2 a3 K5 fu 0 μ2)
  else
  some ((-4), μ2))
  else
  some ((-2), μ2)))))
def f_X6_strikeOut (j : Nat) (a1 : Int32) (μ : mT) : Option (Int32 × mT) :=
  bd (f_X3_has j a1 μ) (fun v1 μ2 => (if v1 = 0 then
  some ((-1), μ2)
  else
  bd (f_X3_remove j a1 μ2) (fun _ μ4 => some (μ4 3 j 0, μ4))))
def f_X6_letLeave (j : Nat) (a1 : Int32) (μ : mT) : Option (Int32 × mT) :=
  bd (f_X3_has j a1 μ) (fun v1 μ2 => (if v1 = 0 then
  some ((-1), μ2)
  else
  bd (f_X6_couldLeave j a1 μ2) (fun v3 μ4 => (if v3 = 0 then
  some ((-5), μ4)
  else
  gd (inb a1 8) (lt (if 0 < ((μ4 0 j 0) - (μ4 15 j a1.toNatClampNeg)) then ((μ4 0 j 0) - (μ4 15 j a1.toNatClampNeg)) else 0 : Int32) (fun v5 => lt (upM μ4 0 j 4 ((μ4 0 j 4) + (v5 * (μ4 4 j (5 : Int32).toNatClampNeg)))) (fun μ6 => bd (f_X5_engineLeaves j (μ6 0 j 0) μ6) (fun _ μ8 => bd (f_X3_remove j a1 μ8) (fun _ μ10 => lt (upM μ10 0 j 5 ((μ10 0 j 5) + 1)) (fun μ11 => some (v5, μ11)))))))))))
def f_X6_aboutTrack (j : Nat) (a1 : Int32) (a2 : Int32) (μ : mT) : Option (Int32 × mT) :=
  bd (f_X6_hasTrack j a1 μ) (fun v1 μ2 => (if v1 = 0 then
  some ((-1), μ2)
  else
  (if a2 = 0 then
  gd (inb a1 8) (some (μ2 5 j a1.toNatClampNeg, μ2))
  else
  (if a2 = 1 then
  bd (f_X5_manyIn j a1 μ2) (fun v3 μ4 => some (v3, μ4))
  else
  (if a2 = 2 then
  bd (f_X5_lengthOfRow j a1 μ2) (fun v5 μ6 => some (v5, μ6))
  else
  (if a2 = 3 then
  gd (inb a1 8) (some (μ2 6 j a1.toNatClampNeg, μ2))
  else
  (if a2 = 4 then
  gd (inb a1 8) (some (μ2 7 j a1.toNatClampNeg, μ2))
  else
  some ((-2), μ2))))))))
def f_X6_aboutWagon (j : Nat) (a1 : Int32) (a2 : Int32) (μ : mT) : Option (Int32 × mT) :=
  (if a1 < 0 then
  some ((-1), μ)
  else
  (if a1 < (μ 1 j 0) then
  bd (f_X5_rowOf j a1 μ) (fun v1 μ2 => lt (fun (v4 : Int32) (μ5 : mT) => 
  (if a2 = 0 then
  gd (inb a1 30) (some (μ5 8 j a1.toNatClampNeg, μ5))
  else
  (if a2 = 1 then
  (if v1 = 8 then
  some ((-6), μ5)
  else
  some (v1, μ5))
  else
  (if a2 = 2 then
  some (v4, μ5)
  else
  (if a2 = 3 then
  (if v1 = 8 then
  some (1, μ5)
  else
  some (0, μ5))
  else
  (if a2 = 4 then
  (if v1 = ((-6)) then
  gd (inb a1 30) (some (μ5 9 j a1.toNatClampNeg, μ5))
  else
  some ((-6), μ5))
  else
  (if a2 = 5 then
  gd (inb a1 30) (some (μ5 10 j a1.toNatClampNeg, μ5))
  else
  (if a2 = 6 then
  bd (f_X3_trainOf j a1 μ5) (fun v6 μ7 => some (v6, μ7))
  else
  (if a2 = 7 then
  (if v1 = 8 then
  some ((-6), μ5)
  else
  some (v4, μ5))
  else
  some ((-2), μ5)))))))))) (fun J3 =>
  (if v1 = ((-6)) then
  J3 ((-6)) μ2
  else
  bd (f_X5_placeIn j v1 a1 μ2) (fun v8 μ9 => J3 v8 μ9))))
  else
  some ((-1), μ)))
def f_X6_lengthOfList_L14 (j : Nat) (a1 : Int32) (v1 : Int32) : Nat → Int32 → Int32 → mT → Option (Int32 × mT)
  | 0, _, _, _ => none
  | n + 1, v3, v4, μ5 =>
      (if v1 ≤ v4 then
      some (v3, μ5)
      else
      bd (f_X3_wagonOf j a1 v4 μ5) (fun v6 μ7 => bd (f_X5_lengthOfWagon j v6 μ7) (fun v8 μ9 => lt (v3 + v8 : Int32) (fun v10 => lt (v4 + 1 : Int32) (fun v11 => f_X6_lengthOfList_L14 j a1 v1 n v10 v11 μ9)))))
def f_X6_lengthOfList (j : Nat) (a1 : Int32) (μ : mT) : Option (Int32 × mT) :=
  bd (f_X3_sizeOf j a1 μ) (fun v1 μ2 => f_X6_lengthOfList_L14 j a1 v1 fu 0 0 μ2)
def f_X6_aboutTrain (j : Nat) (a1 : Int32) (a2 : Int32) (μ : mT) : Option (Int32 × mT) :=
  bd (f_X3_has j a1 μ) (fun v1 μ2 => (if v1 = 0 then
  some ((-1), μ2)
  else
  (if a2 < 0 then
  some ((-2), μ2)
  else
  (if a2 ≤ 10 then
  (if a2 = 0 then
  bd (f_X3_sizeOf j a1 μ2) (fun v7 μ8 => some (v7, μ8))
  else
  (if a2 = 1 then
  gd (inb a1 8) (some (μ2 15 j a1.toNatClampNeg, μ2))
  else
  (if a2 = 10 then
  bd (f_X6_lengthOfList j a1 μ2) (fun v5 μ6 => some (v5, μ6))
  else
  bd (f_X3_wagonOf j a1 (a2 - 2) μ2) (fun v3 μ4 => some (v3, μ4)))))
  else
  some ((-2), μ2)))))
def f_X6_aboutYard (j : Nat) (a1 : Int32) (μ : mT) : Option (Int32 × mT) :=
  (if a1 = 0 then
  some (μ 0 j 0, μ)
  else
  (if a1 = 1 then
  some (μ 0 j 7, μ)
  else
  (if a1 = 2 then
  some (μ 1 j 0, μ)
  else
  (if a1 = 3 then
  bd (f_X5_manyIn j 8 μ) (fun v1 μ2 => some (v1, μ2))
  else
  (if a1 = 4 then
  bd (f_X5_lengthOfRow j 8 μ) (fun v3 μ4 => some (v3, μ4))
  else
  (if a1 = 5 then
  some (μ 1 j 1, μ)
  else
  (if a1 = 6 then
  some (μ 3 j 0, μ)
  else
  (if a1 = 7 then
  some (μ 0 j 5, μ)
  else
  (if a1 = 8 then
  some (μ 2 j 0, μ)
  else
  (if a1 = 9 then
  some (μ 0 j 1, μ)
  else
  (if a1 = 10 then
  some (μ 0 j 2, μ)
  else
  (if a1 = 11 then
  some (μ 0 j 3, μ)
  else
  (if a1 = 12 then
  some (μ 0 j 4, μ)
  else
  (if a1 < 15 then
  some ((-2), μ)
  else
  (if 21 ≤ a1 then
  some ((-2), μ)
  else
  gd (inb (a1 - 15) 6) (some (μ 4 j (a1 - 15).toNatClampNeg, μ)))))))))))))))))
def f_X6_isBuried_L20 (j : Nat) (a1 : Int32) (a2 : Int32) (v3 : Int32) : Nat → Int32 → mT → Option (Int32 × mT)
  | 0, _, _ => none
  | n + 1, v5, μ6 =>
      (if a2 ≤ v5 then
      some (0, μ6)
      else
      (if v3 = ((-6)) then
      some (0, μ6)
      else
      bd (f_X5_wagonAt j a1 v5 μ6) (fun v7 μ8 => bd (f_X3_trainOf j v7 μ8) (fun v9 μ10 => (if v9 = v3 then
      lt (v5 + 1 : Int32) (fun v11 => f_X6_isBuried_L20 j a1 a2 v3 n v11 μ10)
      else
      some (1, μ10))))))
def f_X6_isBuried (j : Nat) (a1 : Int32) (a2 : Int32) (μ : mT) : Option (Int32 × mT) :=
  bd (f_X5_wagonAt j a1 a2 μ) (fun v1 μ2 => bd (f_X3_trainOf j v1 μ2) (fun v3 μ4 => f_X6_isBuried_L20 j a1 a2 v3 fu 0 μ4))
def f_X6_manyBuried_L26 (j : Nat) (v2 : Int32) (v6 : Int32) (K10 : Int32 → mT → Option (Int32 × mT)) : Nat → Int32 → Int32 → mT → Option (Int32 × mT)
  | 0, _, _, _ => none
  | n + 1, v7, v8, μ9 =>
      (if v6 < v8 then
      K10 v7 μ9
      else
      bd (f_X6_isBuried j v2 v8 μ9) (fun v14 μ15 => lt (fun (v17 : Int32) (μ18 : mT) => 
      lt (v8 + 1 : Int32) (fun v19 => f_X6_manyBuried_L26 j v2 v6 K10 n v17 v19 μ18)) (fun J16 =>
      (if v14 = 0 then
      J16 v7 μ15
      else
      lt (v7 + 1 : Int32) (fun v20 => J16 v20 μ15)))))
def f_X6_manyBuried_L4 (j : Nat) : Nat → Int32 → Int32 → mT → Option (Int32 × mT)
  | 0, _, _, _ => none
  | n + 1, v1, v2, μ3 =>
      (if (μ3 0 j 7) ≤ v2 then
      some (v1, μ3)
      else
      bd (f_X5_manyIn j v2 μ3) (fun v4 μ5 => lt (v4 - 1 : Int32) (fun v6 => lt (fun (v11 : Int32) (μ12 : mT) =>
      lt (v2 + 1 : Int32) (fun v13 => f_X6_manyBuried_L4 j n v11 v13 μ12)) (fun K10 =>
      f_X6_manyBuried_L26 j v2 v6 K10 fu v1 0 μ5))))
def f_X6_manyBuried (j : Nat) (μ : mT) : Option (Int32 × mT) :=
  f_X6_manyBuried_L4 j fu 0 0 μ
def f_X7_set (a1 : Int32) (a2 : Int32) (μ : mT) : Option (Int32 × mT) :=
  bd (f_X1_note 0 μ) (fun _ μ2 => bd (f_X6_changeSetting 0 a1 a2 μ2) (fun v3 μ4 => bd (f_X1_kept v3 μ4) (fun v5 μ6 => some (v5, μ6))))
def f_X7_track (a1 : Int32) (μ : mT) : Option (Int32 × mT) :=
  bd (f_X1_note 0 μ) (fun _ μ2 => bd (f_X6_addTrack 0 a1 μ2) (fun v3 μ4 => bd (f_X1_kept v3 μ4) (fun v5 μ6 => some (v5, μ6))))
def f_X7_wagon (a1 : Int32) (a2 : Int32) (μ : mT) : Option (Int32 × mT) :=
  bd (f_X1_note 0 μ) (fun _ μ2 => bd (f_X6_addWagon 0 a1 a2 μ2) (fun v3 μ4 => bd (f_X1_kept v3 μ4) (fun v5 μ6 => some (v5, μ6))))
def f_X7_block (a1 : Int32) (a2 : Int32) (μ : mT) : Option (Int32 × mT) :=
  bd (f_X1_note 0 μ) (fun _ μ2 => bd (f_X6_addBlock 0 a1 a2 μ2) (fun v3 μ4 => bd (f_X1_kept v3 μ4) (fun v5 μ6 => some (v5, μ6))))
def f_X7_pull (a1 : Int32) (a2 : Int32) (μ : mT) : Option (Int32 × mT) :=
  bd (f_X1_note 0 μ) (fun _ μ2 => bd (f_X6_takeOut 0 a1 a2 μ2) (fun v3 μ4 => bd (f_X1_kept v3 μ4) (fun v5 μ6 => some (v5, μ6))))
def f_X7_push (a1 : Int32) (a2 : Int32) (μ : mT) : Option (Int32 × mT) :=
  bd (f_X1_note 0 μ) (fun _ μ2 => bd (f_X6_bringIn 0 a1 a2 μ2) (fun v3 μ4 => bd (f_X1_kept v3 μ4) (fun v5 μ6 => some (v5, μ6))))
def f_X7_round  (μ : mT) : Option (Int32 × mT) :=
  bd (f_X1_note 0 μ) (fun _ μ2 => bd (f_X6_goRound 0 μ2) (fun v3 μ4 => bd (f_X1_kept v3 μ4) (fun v5 μ6 => some (v5, μ6))))
def f_X7_pass (a1 : Int32) (μ : mT) : Option (Int32 × mT) :=
  bd (f_X1_note 0 μ) (fun _ μ2 => bd (f_X6_letPass 0 a1 μ2) (fun v3 μ4 => bd (f_X1_kept v3 μ4) (fun v5 μ6 => some (v5, μ6))))
def f_X7_readList_L8 (K5 : Int64 → Int32 → mT → Option (Int32 × mT)) : Nat → Int64 → Int32 → Int32 → mT → Option (Int32 × mT)
  | 0, _, _, _, _ => none
  | n + 1, v1, v2, v3, μ4 =>
      (if 8 ≤ v3 then
      K5 v1 v2 μ4
      else
      (if (lg_cmp v1 0) ≤ 0 then
      K5 v1 v2 μ4
      else
      lt ((v1 - v1 / 31 * 31).toInt32 : Int32) (fun v9 => (if v9 = 0 then
      some (0, μ4)
      else
      gd (inb v3 8) (lt (upM μ4 26 0 v3.toNatClampNeg (v9 - 1)) (fun μ10 => lt (v2 + 1 : Int32) (fun v11 => lt (v1 / 31 : Int64) (fun v12 => lt (v3 + 1 : Int32) (fun v13 => f_X7_readList_L8 K5 n v12 v11 v13 μ10)))))))))
def f_X7_readList (a1 : Int64) (μ : mT) : Option (Int32 × mT) :=
  lt (fun (v6 : Int64) (v7 : Int32) (μ8 : mT) =>
  (if (lg_cmp v6 0) = 0 then
  some (v7, μ8)
  else
  some (0, μ8))) (fun K5 =>
  f_X7_readList_L8 K5 fu a1 0 0 μ)
def f_X7_train (a1 : Int64) (a3 : Int32) (μ : mT) : Option (Int32 × mT) :=
  bd (f_X1_note 0 μ) (fun _ μ2 => bd (f_X7_readList a1 μ2) (fun v3 μ4 => bd (f_X6_addTrain 0 v3 a3 μ4) (fun v5 μ6 => bd (f_X1_kept v5 μ6) (fun v7 μ8 => some (v7, μ8)))))
def f_X7_strike (a1 : Int32) (μ : mT) : Option (Int32 × mT) :=
  bd (f_X1_note 0 μ) (fun _ μ2 => bd (f_X6_strikeOut 0 a1 μ2) (fun v3 μ4 => bd (f_X1_kept v3 μ4) (fun v5 μ6 => some (v5, μ6))))
def f_X7_leave (a1 : Int32) (μ : mT) : Option (Int32 × mT) :=
  bd (f_X1_note 0 μ) (fun _ μ2 => bd (f_X6_letLeave 0 a1 μ2) (fun v3 μ4 => bd (f_X1_kept v3 μ4) (fun v5 μ6 => some (v5, μ6))))
def f_X7_ofTrack (a1 : Int32) (a2 : Int32) (μ : mT) : Option (Int32 × mT) :=
  bd (f_X6_aboutTrack 0 a1 a2 μ) (fun v1 μ2 => some (v1, μ2))
def f_X7_at (a1 : Int32) (a2 : Int32) (μ : mT) : Option (Int32 × mT) :=
  (if a1 = ((-6)) then
  bd (f_X5_wagonAt 0 8 a2 μ) (fun v5 μ6 => some (v5, μ6))
  else
  bd (f_X6_hasTrack 0 a1 μ) (fun v1 μ2 => (if v1 = 0 then
  some ((-1), μ2)
  else
  bd (f_X5_wagonAt 0 a1 a2 μ2) (fun v3 μ4 => some (v3, μ4)))))
def f_X7_ofWagon (a1 : Int32) (a2 : Int32) (μ : mT) : Option (Int32 × mT) :=
  bd (f_X6_aboutWagon 0 a1 a2 μ) (fun v1 μ2 => some (v1, μ2))
def f_X7_ofTrain (a1 : Int32) (a2 : Int32) (μ : mT) : Option (Int32 × mT) :=
  bd (f_X6_aboutTrain 0 a1 a2 μ) (fun v1 μ2 => some (v1, μ2))
def f_X7_count (a1 : Int32) (μ : mT) : Option (Int32 × mT) :=
  (if a1 = 13 then
  some (μ 21 0 0, μ)
  else
  (if a1 = 14 then
  some (μ 19 0 0, μ)
  else
  bd (f_X6_aboutYard 0 a1 μ) (fun v1 μ2 => some (v1, μ2))))
def f_X7_freeFrom (a1 : Int32) (μ : mT) : Option (Int32 × mT) :=
  (if a1 < 1 then
  some ((-2), μ)
  else
  (if a1 ≤ 500 then
  bd (f_X0_firstFree 0 (μ 0 0 0) a1 μ) (fun v1 μ2 => some (v1, μ2))
  else
  some ((-2), μ)))
def f_X7_straight (a1 : Int32) (μ : mT) : Option (Int32 × mT) :=
  bd (f_X3_has 0 a1 μ) (fun v1 μ2 => (if v1 = 0 then
  some ((-1), μ2)
  else
  bd (f_X4_fewestPulls 0 a1 μ2) (fun v3 μ4 => (if v3 = ((-6)) then
  some (0, μ4)
  else
  some (1, μ4)))))
def f_X7_pulls (a1 : Int32) (μ : mT) : Option (Int32 × mT) :=
  bd (f_X3_has 0 a1 μ) (fun v1 μ2 => (if v1 = 0 then
  some ((-1), μ2)
  else
  bd (f_X4_fewestPulls 0 a1 μ2) (fun v3 μ4 => some (v3, μ4))))
def f_X7_wouldLeave (a1 : Int32) (μ : mT) : Option (Int32 × mT) :=
  bd (f_X3_has 0 a1 μ) (fun v1 μ2 => (if v1 = 0 then
  some ((-1), μ2)
  else
  bd (f_X4_fewestPulls 0 a1 μ2) (fun v3 μ4 => (if v3 = ((-6)) then
  some ((-6), μ4)
  else
  some (μ4 0 1 0, μ4)))))
def f_X7_moves (a1 : Int32) (μ : mT) : Option (Int32 × mT) :=
  bd (f_X3_has 0 a1 μ) (fun v1 μ2 => (if v1 = 0 then
  some ((-1), μ2)
  else
  bd (f_X4_fewestMoves 0 a1 μ2) (fun v3 μ4 => some (v3, μ4))))
def f_X7_roomFor  (μ : mT) : Option (Int32 × mT) :=
  bd (f_X5_manyIn 0 8 μ) (fun v1 μ2 => bd (f_X6_tracksFor 0 v1 μ2) (fun v3 μ4 => some (v3, μ4)))
def f_X7_buried  (μ : mT) : Option (Int32 × mT) :=
  bd (f_X6_manyBuried 0 μ) (fun v1 μ2 => some (v1, μ2))
def f_X7_put (a1 : Int64) (μ : mT) : Option (Int32 × mT) :=
  bd (f_X2_append a1 μ) (fun v1 μ2 => some (v1, μ2))
def f_X7_wipe  (μ : mT) : Option (Int32 × mT) :=
  bd (f_X2_clear μ) (fun v1 μ2 => some (v1, μ2))
def f_X7_fault  (μ : mT) : Option (Int32 × mT) :=
  bd (f_X2_firstFault μ) (fun v1 μ2 => some (v1, μ2))
def f_X7_carryOne (a1 : Int32) (a2 : Int32) (μ : mT) : Option (Int32 × mT) :=
  bd (f_X2_codeAt (a1 + 1) μ) (fun v1 μ2 => lt (v1 - 65 : Int32) (fun v3 => bd (f_X2_codeAt a1 μ2) (fun v4 μ5 => (if v4 = 112 then
  bd (f_X2_number (a1 + 2) a2 μ5) (fun v6 μ7 => bd (f_X6_takeOut 0 v3 v6 μ7) (fun v8 μ9 => some (v8, μ9)))
  else
  (if v4 = 113 then
  bd (f_X2_number (a1 + 2) a2 μ5) (fun v10 μ11 => bd (f_X6_bringIn 0 v3 v10 μ11) (fun v12 μ13 => some (v12, μ13)))
  else
  (if v4 = 114 then
  bd (f_X6_goRound 0 μ5) (fun v14 μ15 => some (v14, μ15))
  else
  (if v4 = 119 then
  bd (f_X2_number (a1 + 1) a2 μ5) (fun v16 μ17 => bd (f_X6_letPass 0 v16 μ17) (fun v18 μ19 => some (v18, μ19)))
  else
  bd (f_X2_number (a1 + 1) a2 μ5) (fun v20 μ21 => bd (f_X6_letLeave 0 v20 μ21) (fun v22 μ23 => some (v22, μ23))))))))))
def f_X7_carryOut_L32 (K9 : Int32 → mT → Option (Int32 × mT)) (K16 : Int32 → mT → Option (Int32 × mT)) : Nat → Int32 → Int32 → Int32 → mT → Option (Int32 × mT)
  | 0, _, _, _, _ => none
  | n + 1, v5, v6, v7, μ8 =>
      (if (μ8 21 0 0) < v7 then
      K16 v5 μ8
      else
      bd (f_X2_endsOrder v7 μ8) (fun v23 μ24 => lt (fun (v26 : Int32) (v27 : Int32) (μ28 : mT) => 
      lt (v7 + 1 : Int32) (fun v29 => f_X7_carryOut_L32 K9 K16 n v26 v27 v29 μ28)) (fun J25 =>
      (if v23 = 0 then
      J25 v5 v6 μ24
      else
      bd (f_X7_carryOne v6 v7 μ24) (fun v30 μ31 => (if (0 : Int32) ≤ v30 then
      lt (v5 + 1 : Int32) (fun v32 => lt (v7 + 1 : Int32) (fun v33 => J25 v32 v33 μ31))
      else
      K9 v5 μ31))))))
def f_X7_carryOut  (μ : mT) : Option (Int32 × mT) :=
  bd (f_X2_firstFault μ) (fun v1 μ2 => (if v1 = ((-6)) then
  bd (f_X1_note 0 μ2) (fun _ μ4 => lt (fun (v10 : Int32) (μ11 : mT) =>
  bd (f_X2_clear μ11) (fun v12 μ13 => bd (f_X1_kept v10 μ13) (fun v14 μ15 => some (v14, μ15)))) (fun K9 =>
  lt (fun (v17 : Int32) (μ18 : mT) =>
  bd (f_X2_clear μ18) (fun v19 μ20 => bd (f_X1_kept v17 μ20) (fun v21 μ22 => some (v21, μ22)))) (fun K16 =>
  f_X7_carryOut_L32 K9 K16 fu 0 0 0 μ4)))
  else
  some ((-3), μ2)))
def f_X7_undo  (μ : mT) : Option (Int32 × mT) :=
  bd (f_X1_takeBack 0 μ) (fun v1 μ2 => some (v1, μ2))
def f_X7_save (a1 : Int32) (μ : mT) : Option (Int32 × mT) :=
  (if a1 < 0 then
  some ((-2), μ)
  else
  (if a1 < 2 then
  gd (inb a1 2) (lt (μ 23 0 a1.toNatClampNeg).toNatClampNeg (fun jj1 => gd (decide (jj1 < 11)) (bd (f_X6_copyFrom jj1 0 μ) (fun _ μ3 => gd (inb a1 2) (lt (upM μ3 24 0 a1.toNatClampNeg 1) (fun μ4 => some (μ4 0 0 0, μ4)))))))
  else
  some ((-2), μ)))
def f_X7_restore (a1 : Int32) (μ : mT) : Option (Int32 × mT) :=
  (if a1 < 0 then
  some ((-2), μ)
  else
  (if a1 < 2 then
  gd (inb a1 2) ((if (μ 24 0 a1.toNatClampNeg) = 0 then
  some ((-5), μ)
  else
  bd (f_X1_note 0 μ) (fun _ μ2 => gd (inb a1 2) (lt (μ2 23 0 a1.toNatClampNeg).toNatClampNeg (fun jj3 => gd (decide (jj3 < 11)) (bd (f_X6_copyFrom 0 jj3 μ2) (fun _ μ5 => bd (f_X1_kept (μ5 0 0 0) μ5) (fun v6 μ7 => some (v6, μ7)))))))))
  else
  some ((-2), μ)))
def f_X8_in (a0 : Int32) (a1 : Int32) (a2 : Int32) (μ : mT) : Option (Int32 × mT) :=
  (if a0 < a1 then
  some (0, μ)
  else
  (if a2 < a0 then
  some (0, μ)
  else
  some (1, μ)))
def f_X8_record_L55 (K5 : mT → Option (Int32 × mT)) : Nat → Int32 → mT → Option (Int32 × mT)
  | 0, _, _ => none
  | n + 1, v3, μ4 =>
      (if 560 ≤ v3 then
      K5 μ4
      else
      gd (inb v3 560) (gd (inb (((μ4 27 0 4) * 560) + v3) 3360) (lt (upM μ4 31 0 (((μ4 27 0 4) * 560) + v3).toNatClampNeg (μ4 28 0 v3.toNatClampNeg)) (fun μ8 => lt (v3 + 1 : Int32) (fun v9 => f_X8_record_L55 K5 n v9 μ8)))))
def f_X8_record_L19 (K12 : mT → Option (Int32 × mT)) : Nat → Int32 → mT → Option (Int32 × mT)
  | 0, _, _ => none
  | n + 1, v10, μ11 =>
      (if 2800 ≤ v10 then
      K12 μ11
      else
      gd (inb (v10 + 560) 3360) (gd (inb v10 3360) (lt (upM μ11 31 0 v10.toNatClampNeg (μ11 31 0 (v10 + 560).toNatClampNeg)) (fun μ15 => lt (v10 + 1 : Int32) (fun v16 => f_X8_record_L19 K12 n v16 μ15)))))
def f_X8_record  (μ : mT) : Option (Int32 × mT) :=
  (if (μ 27 0 9) = 0 then
  lt (fun (μ2 : mT) => 
  lt (fun (μ6 : mT) =>
  lt (upM μ6 27 0 4 ((μ6 27 0 4) + 1)) (fun μ7 => some (0, μ7))) (fun K5 =>
  f_X8_record_L55 K5 fu 0 μ2)) (fun J1 =>
  (if (μ 27 0 4) = 6 then
  lt (fun (μ13 : mT) =>
  lt (upM μ13 27 0 4 5) (fun μ14 => J1 μ14)) (fun K12 =>
  f_X8_record_L19 K12 fu 0 μ)
  else
  J1 μ))
  else
  some (0, μ))
def f_X8_least (a0 : Int32) (μ : mT) : Option (Int32 × mT) :=
  (if a0 = 0 then
  some (4, μ)
  else
  (if a0 = 1 then
  some (2, μ)
  else
  (if a0 = 2 then
  some (1, μ)
  else
  (if a0 = 4 then
  some (1, μ)
  else
  some (0, μ)))))
def f_X8_most (a0 : Int32) (μ : mT) : Option (Int32 × mT) :=
  (if a0 = 2 then
  some (20, μ)
  else
  (if a0 = 3 then
  some (10, μ)
  else
  (if a0 = 5 then
  some (1000, μ)
  else
  some (60, μ))))
def f_X8_set (a1 : Int32) (a2 : Int32) (μ : mT) : Option (Int32 × mT) :=
  bd (f_X8_in a1 0 5 μ) (fun v1 μ2 => (if v1 = 0 then
  some ((-2), μ2)
  else
  bd (f_X8_least a1 μ2) (fun v3 μ4 => bd (f_X8_most a1 μ4) (fun v5 μ6 => bd (f_X8_in a2 v3 v5 μ6) (fun v7 μ8 => (if v7 = 0 then
  some ((-2), μ8)
  else
  bd (f_X8_record μ8) (fun _ μ10 => gd (inb a1 560) (lt (μ10 28 0 a1.toNatClampNeg : Int32) (fun v11 => gd (inb a1 560) (lt (upM μ10 28 0 a1.toNatClampNeg a2) (fun μ12 => some (v11, μ12))))))))))))
def f_X8_track (a1 : Int32) (μ : mT) : Option (Int32 × mT) :=
  bd (f_X8_in a1 4 60 μ) (fun v1 μ2 => (if v1 = 0 then
  some ((-2), μ2)
  else
  (if (μ2 28 0 (7 : Int32).toNatClampNeg) = 8 then
  some ((-4), μ2)
  else
  bd (f_X8_record μ2) (fun _ μ4 => gd (inb (20 + (4 * (μ4 28 0 (7 : Int32).toNatClampNeg))) 560) (lt (upM μ4 28 0 (20 + (4 * (μ4 28 0 (7 : Int32).toNatClampNeg))).toNatClampNeg a1) (fun μ5 => lt (upM μ5 28 0 (7 : Int32).toNatClampNeg ((μ5 28 0 (7 : Int32).toNatClampNeg) + 1)) (fun μ6 => some ((μ6 28 0 (7 : Int32).toNatClampNeg) - 1, μ6))))))))
def f_X8_isTrack (a1 : Int32) (μ : mT) : Option (Int32 × mT) :=
  bd (f_X8_in a1 0 ((μ 28 0 (7 : Int32).toNatClampNeg) - 1) μ) (fun v1 μ2 => gd (isB v1) (some (v1, μ2)))
def f_X8_isWagon (a1 : Int32) (μ : mT) : Option (Int32 × mT) :=
  bd (f_X8_in a1 0 ((μ 28 0 (8 : Int32).toNatClampNeg) - 1) μ) (fun v1 μ2 => gd (isB v1) (some (v1, μ2)))
def f_X8_manyOn (a1 : Int32) (μ : mT) : Option (Int32 × mT) :=
  gd (inb ((20 + (4 * a1)) + 1) 560) (some (μ 28 0 ((20 + (4 * a1)) + 1).toNatClampNeg, μ))
def f_X8_lengthOf (a1 : Int32) (μ : mT) : Option (Int32 × mT) :=
  gd (inb (330 + (4 * a1)) 560) (some (μ 28 0 (330 + (4 * a1)).toNatClampNeg, μ))
def f_X8_lengths_L5 (a1 : Int32) (a2 : Int32) : Nat → Int32 → Int32 → mT → Option (Int32 × mT)
  | 0, _, _, _ => none
  | n + 1, v1, v2, μ3 =>
      (if a2 ≤ v2 then
      some (v1, μ3)
      else
      gd (inb (a1 + v2) 560) (bd (f_X8_lengthOf (μ3 28 0 (a1 + v2).toNatClampNeg) μ3) (fun v4 μ5 => lt (v1 + v4 : Int32) (fun v6 => lt (v2 + 1 : Int32) (fun v7 => f_X8_lengths_L5 a1 a2 n v6 v7 μ5)))))
def f_X8_lengths (a1 : Int32) (a2 : Int32) (μ : mT) : Option (Int32 × mT) :=
  f_X8_lengths_L5 a1 a2 fu 0 0 μ
def f_X8_lengthOn (a1 : Int32) (μ : mT) : Option (Int32 × mT) :=
  bd (f_X8_manyOn a1 μ) (fun v1 μ2 => bd (f_X8_lengths (60 + (30 * a1)) v1 μ2) (fun v3 μ4 => some (v3, μ4)))
def f_X8_lengthAtEngine  (μ : mT) : Option (Int32 × mT) :=
  bd (f_X8_lengths 300 (μ 28 0 (9 : Int32).toNatClampNeg) μ) (fun v1 μ2 => some (v1, μ2))
def f_X8_wagon_L129 (a1 : Int32) (v9 : Int32) (v13 : Int32) (K18 : mT → Option (Int32 × mT)) : Nat → Int32 → mT → Option (Int32 × mT)
  | 0, _, _ => none
  | n + 1, v16, μ17 =>
      (if v16 ≤ 0 then
      K18 μ17
      else
      gd (inb ((v13 + v16) - 1) 560) (gd (inb (v13 + v16) 560) (lt (upM μ17 28 0 (v13 + v16).toNatClampNeg (μ17 28 0 ((v13 + v16) - 1).toNatClampNeg)) (fun μ22 => lt (v16 + (-1) : Int32) (fun v23 => f_X8_wagon_L129 a1 v9 v13 K18 n v23 μ22)))))
def f_X8_wagon (a1 : Int32) (a2 : Int32) (μ : mT) : Option (Int32 × mT) :=
  bd (f_X8_isTrack a1 μ) (fun v1 μ2 => (if v1 = 0 then
  some ((-1), μ2)
  else
  bd (f_X8_in a2 1 4 μ2) (fun v3 μ4 => (if v3 = 0 then
  some ((-2), μ4)
  else
  (if (μ4 28 0 (8 : Int32).toNatClampNeg) = 30 then
  some ((-4), μ4)
  else
  bd (f_X8_lengthOn a1 μ4) (fun v5 μ6 => gd (inb (20 + (4 * a1)) 560) ((if (v5 + a2) ≤ (μ6 28 0 (20 + (4 * a1)).toNatClampNeg) then
  bd (f_X8_record μ6) (fun _ μ8 => lt (μ8 28 0 (8 : Int32).toNatClampNeg : Int32) (fun v9 => gd (inb (330 + (4 * v9)) 560) (lt (upM μ8 28 0 (330 + (4 * v9)).toNatClampNeg a2) (fun μ10 => gd (inb ((330 + (4 * v9)) + 1) 560) (lt (upM μ10 28 0 ((330 + (4 * v9)) + 1).toNatClampNeg ((-6))) (fun μ11 => lt (upM μ11 28 0 (8 : Int32).toNatClampNeg ((μ11 28 0 (8 : Int32).toNatClampNeg) + 1)) (fun μ12 => lt (60 + (30 * a1) : Int32) (fun v13 => bd (f_X8_manyOn a1 μ12) (fun v14 μ15 => lt (fun (μ19 : mT) =>
  gd (inb v13 560) (lt (upM μ19 28 0 v13.toNatClampNeg v9) (fun μ20 => gd (inb ((20 + (4 * a1)) + 1) 560) (gd (inb ((20 + (4 * a1)) + 1) 560) (lt (upM μ20 28 0 ((20 + (4 * a1)) + 1).toNatClampNeg ((μ20 28 0 ((20 + (4 * a1)) + 1).toNatClampNeg) + 1)) (fun μ21 => some (v9, μ21))))))) (fun K18 =>
  f_X8_wagon_L129 a1 v9 v13 K18 fu v14 μ15))))))))))
  else
  some ((-5), μ6)))))))))
def f_X8_block (a1 : Int32) (a2 : Int32) (μ : mT) : Option (Int32 × mT) :=
  bd (f_X8_in a1 (μ 28 0 (6 : Int32).toNatClampNeg) ((μ 28 0 (6 : Int32).toNatClampNeg) + 2000) μ) (fun v1 μ2 => (if v1 = 0 then
  some ((-2), μ2)
  else
  bd (f_X8_in a2 1 500 μ2) (fun v3 μ4 => (if v3 = 0 then
  some ((-2), μ4)
  else
  (if (μ4 28 0 (13 : Int32).toNatClampNeg) = 10 then
  some ((-4), μ4)
  else
  bd (f_X8_record μ4) (fun _ μ6 => gd (inb (530 + (2 * (μ6 28 0 (13 : Int32).toNatClampNeg))) 560) (lt (upM μ6 28 0 (530 + (2 * (μ6 28 0 (13 : Int32).toNatClampNeg))).toNatClampNeg a1) (fun μ7 => gd (inb ((530 + (2 * (μ7 28 0 (13 : Int32).toNatClampNeg))) + 1) 560) (lt (upM μ7 28 0 ((530 + (2 * (μ7 28 0 (13 : Int32).toNatClampNeg))) + 1).toNatClampNeg (a1 + a2)) (fun μ8 => lt (upM μ8 28 0 (13 : Int32).toNatClampNeg ((μ8 28 0 (13 : Int32).toNatClampNeg) + 1)) (fun μ9 => some (μ9 28 0 (13 : Int32).toNatClampNeg, μ9))))))))))))
def f_X8_freeAt_L16 (a2 : Int32) (K8 : Int32 → Int32 → mT → Option (Int32 × mT)) : Nat → Int32 → Int32 → Int32 → mT → Option (Int32 × mT)
  | 0, _, _, _, _ => none
  | n + 1, v4, v5, v6, μ7 =>
      (if (μ7 28 0 (13 : Int32).toNatClampNeg) ≤ v6 then
      K8 v4 v5 μ7
      else
      gd (inb (530 + (2 * v6)) 560) (lt (μ7 28 0 (530 + (2 * v6)).toNatClampNeg : Int32) (fun v12 => gd (inb ((530 + (2 * v6)) + 1) 560) (lt (μ7 28 0 ((530 + (2 * v6)) + 1).toNatClampNeg : Int32) (fun v13 => lt (fun (v15 : Int32) (v16 : Int32) (μ17 : mT) => 
      lt (v6 + 1 : Int32) (fun v18 => f_X8_freeAt_L16 a2 K8 n v15 v16 v18 μ17)) (fun J14 =>
      (if (v4 + a2) ≤ v12 then
      J14 v4 v5 μ7
      else
      (if v13 ≤ v4 then
      J14 v4 v5 μ7
      else
      J14 v13 1 μ7))))))))
def f_X8_freeAt_L5 (a2 : Int32) : Nat → Int32 → Int32 → mT → Option (Int32 × mT)
  | 0, _, _, _ => none
  | n + 1, v1, v2, μ3 =>
      (if v2 = 0 then
      some (v1, μ3)
      else
      lt (fun (v9 : Int32) (v10 : Int32) (μ11 : mT) =>
      f_X8_freeAt_L5 a2 n v9 v10 μ11) (fun K8 =>
      f_X8_freeAt_L16 a2 K8 fu v1 0 0 μ3))
def f_X8_freeAt (a1 : Int32) (a2 : Int32) (μ : mT) : Option (Int32 × mT) :=
  f_X8_freeAt_L5 a2 fu a1 1 μ
def f_X8_comeTo_L12 (a1 : Int32) (K5 : Int32 → mT → Option (Int32 × mT)) : Nat → Int32 → Int32 → mT → Option (Int32 × mT)
  | 0, _, _, _ => none
  | n + 1, v2, v3, μ4 =>
      (if (μ4 28 0 (13 : Int32).toNatClampNeg) ≤ v3 then
      K5 v2 μ4
      else
      gd (inb ((530 + (2 * v3)) + 1) 560) (lt (fun (v10 : Int32) (μ11 : mT) => 
      lt (v3 + 1 : Int32) (fun v12 => f_X8_comeTo_L12 a1 K5 n v10 v12 μ11)) (fun J9 =>
      (if (μ4 28 0 ((530 + (2 * v3)) + 1).toNatClampNeg) ≤ a1 then
      J9 v2 μ4
      else
      gd (inb (530 + (2 * v3)) 560) (gd (inb (530 + (2 * v2)) 560) (lt (upM μ4 28 0 (530 + (2 * v2)).toNatClampNeg (μ4 28 0 (530 + (2 * v3)).toNatClampNeg)) (fun μ13 => gd (inb ((530 + (2 * v3)) + 1) 560) (gd (inb ((530 + (2 * v2)) + 1) 560) (lt (upM μ13 28 0 ((530 + (2 * v2)) + 1).toNatClampNeg (μ13 28 0 ((530 + (2 * v3)) + 1).toNatClampNeg)) (fun μ14 => lt (v2 + 1 : Int32) (fun v15 => J9 v15 μ14)))))))))))
def f_X8_comeTo (a1 : Int32) (μ : mT) : Option (Int32 × mT) :=
  lt (upM μ 28 0 (6 : Int32).toNatClampNeg a1) (fun μ1 => lt (fun (v6 : Int32) (μ7 : mT) =>
  lt (upM μ7 28 0 (13 : Int32).toNatClampNeg v6) (fun μ8 => some (0, μ8))) (fun K5 =>
  f_X8_comeTo_L12 a1 K5 fu 0 0 μ1))
def f_X8_take (a1 : Int32) (a2 : Int32) (μ : mT) : Option (Int32 × mT) :=
  lt (a1 + (a2 * (μ 28 0 (3 : Int32).toNatClampNeg)) : Int32) (fun v1 => bd (f_X8_freeAt (μ 28 0 (6 : Int32).toNatClampNeg) v1 μ) (fun v2 μ3 => lt (upM μ3 28 0 (16 : Int32).toNatClampNeg ((μ3 28 0 (16 : Int32).toNatClampNeg) + (v2 - (μ3 28 0 (6 : Int32).toNatClampNeg)))) (fun μ4 => lt (upM μ4 28 0 (14 : Int32).toNatClampNeg ((μ4 28 0 (14 : Int32).toNatClampNeg) + a2)) (fun μ5 => lt (upM μ5 28 0 (15 : Int32).toNatClampNeg ((μ5 28 0 (15 : Int32).toNatClampNeg) + 1)) (fun μ6 => bd (f_X8_comeTo (v2 + v1) μ6) (fun _ μ8 => some (0, μ8)))))))
def f_X8_drawOut_L89 (a1 : Int32) (a2 : Int32) (v1 : Int32) (v4 : Int32) (K11 : mT → Option (Int32 × mT)) : Nat → Int32 → mT → Option (Int32 × mT)
  | 0, _, _ => none
  | n + 1, v9, μ10 =>
      (if v4 ≤ v9 then
      K11 μ10
      else
      gd (inb ((v1 + v9) + a2) 560) (gd (inb (v1 + v9) 560) (lt (upM μ10 28 0 (v1 + v9).toNatClampNeg (μ10 28 0 ((v1 + v9) + a2).toNatClampNeg)) (fun μ16 => lt (v9 + 1 : Int32) (fun v17 => f_X8_drawOut_L89 a1 a2 v1 v4 K11 n v17 μ16)))))
def f_X8_drawOut_L20 (a1 : Int32) (a2 : Int32) (v1 : Int32) (v4 : Int32) (K7 : mT → Option (Int32 × mT)) : Nat → Int32 → mT → Option (Int32 × mT)
  | 0, _, _ => none
  | n + 1, v5, μ6 =>
      (if a2 ≤ v5 then
      K7 μ6
      else
      gd (inb (v1 + v5) 560) (gd (inb ((300 + (μ6 28 0 (9 : Int32).toNatClampNeg)) + v5) 560) (lt (upM μ6 28 0 ((300 + (μ6 28 0 (9 : Int32).toNatClampNeg)) + v5).toNatClampNeg (μ6 28 0 (v1 + v5).toNatClampNeg)) (fun μ18 => gd (inb (v1 + v5) 560) (gd (inb ((330 + (4 * (μ18 28 0 (v1 + v5).toNatClampNeg))) + 2) 560) (gd (inb ((330 + (4 * (μ18 28 0 (v1 + v5).toNatClampNeg))) + 2) 560) (lt (upM μ18 28 0 ((330 + (4 * (μ18 28 0 (v1 + v5).toNatClampNeg))) + 2).toNatClampNeg ((μ18 28 0 ((330 + (4 * (μ18 28 0 (v1 + v5).toNatClampNeg))) + 2).toNatClampNeg) + 1)) (fun μ19 => lt (v5 + 1 : Int32) (fun v20 => f_X8_drawOut_L20 a1 a2 v1 v4 K7 n v20 μ19)))))))))
def f_X8_drawOut (a1 : Int32) (a2 : Int32) (μ : mT) : Option (Int32 × mT) :=
  lt (60 + (30 * a1) : Int32) (fun v1 => bd (f_X8_manyOn a1 μ) (fun v2 μ3 => lt (v2 - a2 : Int32) (fun v4 => lt (fun (μ8 : mT) =>
  lt (fun (μ12 : mT) =>
  lt (upM μ12 28 0 (9 : Int32).toNatClampNeg ((μ12 28 0 (9 : Int32).toNatClampNeg) + a2)) (fun μ13 => gd (inb ((20 + (4 * a1)) + 1) 560) (lt (upM μ13 28 0 ((20 + (4 * a1)) + 1).toNatClampNeg v4) (fun μ14 => gd (inb ((20 + (4 * a1)) + 2) 560) (gd (inb ((20 + (4 * a1)) + 2) 560) (lt (upM μ14 28 0 ((20 + (4 * a1)) + 2).toNatClampNeg ((μ14 28 0 ((20 + (4 * a1)) + 2).toNatClampNeg) + a2)) (fun μ15 => (if v4 ≤ 0 then
  some (1, μ15)
  else
  some (2, μ15))))))))) (fun K11 =>
  f_X8_drawOut_L89 a1 a2 v1 v4 K11 fu 0 μ8)) (fun K7 =>
  f_X8_drawOut_L20 a1 a2 v1 v4 K7 fu 0 μ3))))
def f_X8_setBack_L66 (a1 : Int32) (a2 : Int32) (v1 : Int32) (v2 : Int32) (K12 : mT → Option (Int32 × mT)) : Nat → Int32 → mT → Option (Int32 × mT)
  | 0, _, _ => none
  | n + 1, v10, μ11 =>
      (if a2 ≤ v10 then
      K12 μ11
      else
      gd (inb ((300 + (μ11 28 0 (9 : Int32).toNatClampNeg)) + v10) 560) (gd (inb (v1 + v10) 560) (lt (upM μ11 28 0 (v1 + v10).toNatClampNeg (μ11 28 0 ((300 + (μ11 28 0 (9 : Int32).toNatClampNeg)) + v10).toNatClampNeg)) (fun μ16 => lt (v10 + 1 : Int32) (fun v17 => f_X8_setBack_L66 a1 a2 v1 v2 K12 n v17 μ16)))))
def f_X8_setBack_L21 (a1 : Int32) (a2 : Int32) (v1 : Int32) (v2 : Int32) (K7 : mT → Option (Int32 × mT)) : Nat → Int32 → mT → Option (Int32 × mT)
  | 0, _, _ => none
  | n + 1, v5, μ6 =>
      (if v5 < 0 then
      K7 μ6
      else
      gd (inb (v1 + v5) 560) (gd (inb ((v1 + v5) + a2) 560) (lt (upM μ6 28 0 ((v1 + v5) + a2).toNatClampNeg (μ6 28 0 (v1 + v5).toNatClampNeg)) (fun μ18 => lt (v5 + (-1) : Int32) (fun v19 => f_X8_setBack_L21 a1 a2 v1 v2 K7 n v19 μ18)))))
def f_X8_setBack (a1 : Int32) (a2 : Int32) (μ : mT) : Option (Int32 × mT) :=
  lt (60 + (30 * a1) : Int32) (fun v1 => bd (f_X8_manyOn a1 μ) (fun v2 μ3 => lt (v2 - 1 : Int32) (fun v4 => lt (fun (μ8 : mT) =>
  lt (upM μ8 28 0 (9 : Int32).toNatClampNeg ((μ8 28 0 (9 : Int32).toNatClampNeg) - a2)) (fun μ9 => lt (fun (μ13 : mT) =>
  gd (inb ((20 + (4 * a1)) + 1) 560) (lt (upM μ13 28 0 ((20 + (4 * a1)) + 1).toNatClampNeg (v2 + a2)) (fun μ14 => gd (inb ((20 + (4 * a1)) + 3) 560) (gd (inb ((20 + (4 * a1)) + 3) 560) (lt (upM μ14 28 0 ((20 + (4 * a1)) + 3).toNatClampNeg ((μ14 28 0 ((20 + (4 * a1)) + 3).toNatClampNeg) + a2)) (fun μ15 => (if v2 ≤ 0 then
  some (1, μ15)
  else
  some (2, μ15)))))))) (fun K12 =>
  f_X8_setBack_L66 a1 a2 v1 v2 K12 fu 0 μ9))) (fun K7 =>
  f_X8_setBack_L21 a1 a2 v1 v2 K7 fu v4 μ3))))
def f_X8_turnRound_L10 (v1 : Int32) : Nat → Int32 → mT → Option (Int32 × mT)
  | 0, _, _ => none
  | n + 1, v2, μ3 =>
      (if (v1 - 1) ≤ (2 * v2) then
      some (0, μ3)
      else
      gd (inb (300 + v2) 560) (lt (μ3 28 0 (300 + v2).toNatClampNeg : Int32) (fun v4 => gd (inb (((300 + v1) - 1) - v2) 560) (gd (inb (300 + v2) 560) (lt (upM μ3 28 0 (300 + v2).toNatClampNeg (μ3 28 0 (((300 + v1) - 1) - v2).toNatClampNeg)) (fun μ5 => gd (inb (((300 + v1) - 1) - v2) 560) (lt (upM μ5 28 0 (((300 + v1) - 1) - v2).toNatClampNeg v4) (fun μ6 => lt (v2 + 1 : Int32) (fun v7 => f_X8_turnRound_L10 v1 n v7 μ6)))))))))
def f_X8_turnRound  (μ : mT) : Option (Int32 × mT) :=
  lt (μ 28 0 (9 : Int32).toNatClampNeg : Int32) (fun v1 => f_X8_turnRound_L10 v1 fu 0 μ)
def f_X8_canPull (a1 : Int32) (a2 : Int32) (μ : mT) : Option (Int32 × mT) :=
  bd (f_X8_manyOn a1 μ) (fun v1 μ2 => (if v1 < a2 then
  some (0, μ2)
  else
  bd (f_X8_lengthAtEngine μ2) (fun v3 μ4 => bd (f_X8_lengths (60 + (30 * a1)) a2 μ4) (fun v5 μ6 => (if (μ6 28 0 (0 : Int32).toNatClampNeg) < (v3 + v5) then
  some (0, μ6)
  else
  some (1, μ6))))))
def f_X8_canPush (a1 : Int32) (a2 : Int32) (μ : mT) : Option (Int32 × mT) :=
  (if (μ 28 0 (9 : Int32).toNatClampNeg) < a2 then
  some (0, μ)
  else
  bd (f_X8_lengthOn a1 μ) (fun v1 μ2 => bd (f_X8_lengths ((300 + (μ2 28 0 (9 : Int32).toNatClampNeg)) - a2) a2 μ2) (fun v3 μ4 => gd (inb (20 + (4 * a1)) 560) ((if (μ4 28 0 (20 + (4 * a1)).toNatClampNeg) < (v1 + v3) then
  some (0, μ4)
  else
  some (1, μ4))))))
def f_X8_canRound  (μ : mT) : Option (Int32 × mT) :=
  (if (μ 28 0 (9 : Int32).toNatClampNeg) ≤ 0 then
  some (0, μ)
  else
  bd (f_X8_lengthAtEngine μ) (fun v1 μ2 => (if (μ2 28 0 (1 : Int32).toNatClampNeg) < v1 then
  some (0, μ2)
  else
  some (1, μ2))))
def f_X8_pull (a1 : Int32) (a2 : Int32) (μ : mT) : Option (Int32 × mT) :=
  bd (f_X8_isTrack a1 μ) (fun v1 μ2 => (if v1 = 0 then
  some ((-1), μ2)
  else
  bd (f_X8_in a2 1 30 μ2) (fun v3 μ4 => (if v3 = 0 then
  some ((-2), μ4)
  else
  bd (f_X8_canPull a1 a2 μ4) (fun v5 μ6 => (if v5 = 0 then
  some ((-5), μ6)
  else
  bd (f_X8_record μ6) (fun _ μ8 => bd (f_X8_drawOut a1 a2 μ8) (fun v9 μ10 => bd (f_X8_take (μ8 28 0 (2 : Int32).toNatClampNeg) v9 μ10) (fun _ μ12 => some (μ12 28 0 (9 : Int32).toNatClampNeg, μ12))))))))))
def f_X8_push (a1 : Int32) (a2 : Int32) (μ : mT) : Option (Int32 × mT) :=
  bd (f_X8_isTrack a1 μ) (fun v1 μ2 => (if v1 = 0 then
  some ((-1), μ2)
  else
  bd (f_X8_in a2 1 30 μ2) (fun v3 μ4 => (if v3 = 0 then
  some ((-2), μ4)
  else
  bd (f_X8_canPush a1 a2 μ4) (fun v5 μ6 => (if v5 = 0 then
  some ((-5), μ6)
  else
  bd (f_X8_record μ6) (fun _ μ8 => bd (f_X8_setBack a1 a2 μ8) (fun v9 μ10 => bd (f_X8_take (μ8 28 0 (2 : Int32).toNatClampNeg) v9 μ10) (fun _ μ12 => some (μ12 28 0 (9 : Int32).toNatClampNeg, μ12))))))))))
def f_X8_round  (μ : mT) : Option (Int32 × mT) :=
  bd (f_X8_canRound μ) (fun v1 μ2 => (if v1 = 0 then
  some ((-5), μ2)
  else
  bd (f_X8_record μ2) (fun _ μ4 => bd (f_X8_turnRound μ4) (fun _ μ6 => bd (f_X8_take (μ6 28 0 (4 : Int32).toNatClampNeg) 2 μ6) (fun _ μ8 => some (μ8 28 0 (6 : Int32).toNatClampNeg, μ8))))))
def f_X8_pass (a1 : Int32) (μ : mT) : Option (Int32 × mT) :=
  bd (f_X8_in a1 1 999 μ) (fun v1 μ2 => (if v1 = 0 then
  some ((-2), μ2)
  else
  bd (f_X8_record μ2) (fun _ μ4 => bd (f_X8_comeTo ((μ4 28 0 (6 : Int32).toNatClampNeg) + a1) μ4) (fun _ μ6 => some (μ6 28 0 (6 : Int32).toNatClampNeg, μ6)))))
def f_X8_isTrain (a1 : Int32) (μ : mT) : Option (Int32 × mT) :=
  bd (f_X8_in a1 0 ((μ 28 0 (11 : Int32).toNatClampNeg) - 1) μ) (fun v1 μ2 => gd (isB v1) (some (v1, μ2)))
def f_X8_trainOf_L15 (a1 : Int32) (v1 : Int32) (K5 : mT → Option (Int32 × mT)) : Nat → Int32 → mT → Option (Int32 × mT)
  | 0, _, _ => none
  | n + 1, v3, μ4 =>
      gd (inb ((450 + (10 * v1)) + 1) 560) ((if (μ4 28 0 ((450 + (10 * v1)) + 1).toNatClampNeg) ≤ v3 then
      K5 μ4
      else
      gd (inb (((450 + (10 * v1)) + 2) + v3) 560) ((if (μ4 28 0 (((450 + (10 * v1)) + 2) + v3).toNatClampNeg) = a1 then
      some (v1, μ4)
      else
      lt (v3 + 1 : Int32) (fun v8 => f_X8_trainOf_L15 a1 v1 K5 n v8 μ4)))))
def f_X8_trainOf_L2 (a1 : Int32) : Nat → Int32 → mT → Option (Int32 × mT)
  | 0, _, _ => none
  | n + 1, v1, μ2 =>
      (if (μ2 28 0 (11 : Int32).toNatClampNeg) ≤ v1 then
      some ((-6), μ2)
      else
      lt (fun (μ6 : mT) =>
      lt (v1 + 1 : Int32) (fun v7 => f_X8_trainOf_L2 a1 n v7 μ6)) (fun K5 =>
      f_X8_trainOf_L15 a1 v1 K5 fu 0 μ2))
def f_X8_trainOf (a1 : Int32) (μ : mT) : Option (Int32 × mT) :=
  f_X8_trainOf_L2 a1 fu 0 μ
def f_X8_readList_L8  : Nat → Int64 → Int32 → Int32 → mT → Option (Int32 × mT)
  | 0, _, _, _, _ => none
  | n + 1, v1, v2, v3, μ4 =>
      (if (lg_cmp v1 0) ≤ 0 then
      some (v2, μ4)
      else
      lt (((v1 - v1 / 31 * 31).toInt32) - 1 : Int32) (fun v5 => (if v2 = 8 then
      some (0, μ4)
      else
      bd (f_X8_isWagon v5 μ4) (fun v6 μ7 => (if v6 = 0 then
      some (0, μ7)
      else
      gd (inb ((330 + (4 * v5)) + 1) 560) ((if (0 : Int32) ≤ (μ7 28 0 ((330 + (4 * v5)) + 1).toNatClampNeg) then
      some (0, μ7)
      else
      (if ((v3 >>> (v5 &&& 31)) &&& 1) = 1 then
      some (0, μ7)
      else
      gd (inb v2 8) (lt (upM μ7 35 0 v2.toNatClampNeg v5) (fun μ8 => lt (v3 ||| (1 <<< (v5 &&& 31)) : Int32) (fun v9 => lt (v2 + 1 : Int32) (fun v10 => lt (v1 / 31 : Int64) (fun v11 => f_X8_readList_L8 n v11 v10 v9 μ8)))))))))))))
def f_X8_readList (a1 : Int64) (μ : mT) : Option (Int32 × mT) :=
  f_X8_readList_L8 fu a1 0 0 μ
def f_X8_train_L131 (v1 : Int32) (v11 : Int32) (K16 : mT → Option (Int32 × mT)) : Nat → Int32 → mT → Option (Int32 × mT)
  | 0, _, _ => none
  | n + 1, v14, μ15 =>
      (if v1 ≤ v14 then
      K16 μ15
      else
      gd (inb v14 8) (gd (inb ((v11 + 2) + v14) 560) (lt (upM μ15 28 0 ((v11 + 2) + v14).toNatClampNeg (μ15 35 0 v14.toNatClampNeg)) (fun μ19 => lt (v14 + 1 : Int32) (fun v20 => f_X8_train_L131 v1 v11 K16 n v20 μ19)))))
def f_X8_train_L59 (a3 : Int32) (v1 : Int32) (K7 : mT → Option (Int32 × mT)) : Nat → Int32 → mT → Option (Int32 × mT)
  | 0, _, _ => none
  | n + 1, v5, μ6 =>
      (if v1 ≤ v5 then
      K7 μ6
      else
      gd (inb v5 8) (bd (f_X8_trainOf (μ6 35 0 v5.toNatClampNeg) μ6) (fun v21 μ22 => (if v21 < 0 then
      lt (v5 + 1 : Int32) (fun v23 => f_X8_train_L59 a3 v1 K7 n v23 μ22)
      else
      some ((-5), μ22)))))
def f_X8_train (a1 : Int64) (a3 : Int32) (μ : mT) : Option (Int32 × mT) :=
  bd (f_X8_readList a1 μ) (fun v1 μ2 => (if v1 < 1 then
  some ((-2), μ2)
  else
  bd (f_X8_in a3 (μ2 28 0 (6 : Int32).toNatClampNeg) ((μ2 28 0 (6 : Int32).toNatClampNeg) + 5000) μ2) (fun v3 μ4 => (if v3 = 0 then
  some ((-2), μ4)
  else
  (if (μ4 28 0 (11 : Int32).toNatClampNeg) = 8 then
  some ((-4), μ4)
  else
  lt (fun (μ8 : mT) =>
  bd (f_X8_record μ8) (fun _ μ10 => lt (450 + (10 * (μ10 28 0 (11 : Int32).toNatClampNeg)) : Int32) (fun v11 => gd (inb v11 560) (lt (upM μ10 28 0 v11.toNatClampNeg a3) (fun μ12 => gd (inb (v11 + 1) 560) (lt (upM μ12 28 0 (v11 + 1).toNatClampNeg v1) (fun μ13 => lt (fun (μ17 : mT) =>
  lt (upM μ17 28 0 (11 : Int32).toNatClampNeg ((μ17 28 0 (11 : Int32).toNatClampNeg) + 1)) (fun μ18 => some ((μ18 28 0 (11 : Int32).toNatClampNeg) - 1, μ18))) (fun K16 =>
  f_X8_train_L131 v1 v11 K16 fu 0 μ13)))))))) (fun K7 =>
  f_X8_train_L59 a3 v1 K7 fu 0 μ4))))))
def f_X8_dropTrain_L20  : Nat → Int32 → mT → Option (Int32 × mT)
  | 0, _, _ => none
  | n + 1, v3, μ4 =>
      (if (450 + (10 * (μ4 28 0 (11 : Int32).toNatClampNeg))) ≤ v3 then
      some (0, μ4)
      else
      gd (inb (v3 + 10) 560) (gd (inb v3 560) (lt (upM μ4 28 0 v3.toNatClampNeg (μ4 28 0 (v3 + 10).toNatClampNeg)) (fun μ5 => lt (v3 + 1 : Int32) (fun v6 => f_X8_dropTrain_L20 n v6 μ5)))))
def f_X8_dropTrain (a1 : Int32) (μ : mT) : Option (Int32 × mT) :=
  lt (upM μ 28 0 (11 : Int32).toNatClampNeg ((μ 28 0 (11 : Int32).toNatClampNeg) - 1)) (fun μ1 => lt (450 + (10 * a1) : Int32) (fun v2 => f_X8_dropTrain_L20 fu v2 μ1))
def f_X8_strike (a1 : Int32) (μ : mT) : Option (Int32 × mT) :=
  bd (f_X8_isTrain a1 μ) (fun v1 μ2 => (if v1 = 0 then
  some ((-1), μ2)
  else
  bd (f_X8_record μ2) (fun _ μ4 => bd (f_X8_dropTrain a1 μ4) (fun _ μ6 => some (μ6 28 0 (11 : Int32).toNatClampNeg, μ6)))))
def f_X8_canLeave_L36 (v1 : Int32) : Nat → Int32 → Int32 → mT → Option (Int32 × mT)
  | 0, _, _, _ => none
  | n + 1, v5, v6, μ7 =>
      (if (μ7 28 0 (9 : Int32).toNatClampNeg) ≤ v6 then
      gd (isB v5) (some (v5, μ7))
      else
      (if v5 = 0 then
      gd (isB v5) (some (v5, μ7))
      else
      gd (inb ((v1 + 2) + v6) 560) (gd (inb (300 + v6) 560) (lt (fun (v9 : Int32) (μ10 : mT) => 
      lt (v6 + 1 : Int32) (fun v11 => f_X8_canLeave_L36 v1 n v9 v11 μ10)) (fun J8 =>
      (if (μ7 28 0 ((v1 + 2) + v6).toNatClampNeg) = (μ7 28 0 (300 + v6).toNatClampNeg) then
      J8 1 μ7
      else
      J8 0 μ7))))))
def f_X8_canLeave (a1 : Int32) (μ : mT) : Option (Int32 × mT) :=
  lt (450 + (10 * a1) : Int32) (fun v1 => gd (inb (v1 + 1) 560) (lt (fun (v3 : Int32) (μ4 : mT) => 
  f_X8_canLeave_L36 v1 fu v3 0 μ4) (fun J2 =>
  (if (μ 28 0 (v1 + 1).toNatClampNeg) = (μ 28 0 (9 : Int32).toNatClampNeg) then
  J2 1 μ
  else
  J2 0 μ))))
def f_X8_leave_L67 (a1 : Int32) (v9 : Int32) (K13 : mT → Option (Int32 × mT)) : Nat → Int32 → mT → Option (Int32 × mT)
  | 0, _, _ => none
  | n + 1, v11, μ12 =>
      (if (μ12 28 0 (9 : Int32).toNatClampNeg) ≤ v11 then
      K13 μ12
      else
      gd (inb (300 + v11) 560) (gd (inb ((330 + (4 * (μ12 28 0 (300 + v11).toNatClampNeg))) + 1) 560) (lt (upM μ12 28 0 ((330 + (4 * (μ12 28 0 (300 + v11).toNatClampNeg))) + 1).toNatClampNeg (μ12 28 0 (6 : Int32).toNatClampNeg)) (fun μ21 => lt (v11 + 1 : Int32) (fun v22 => f_X8_leave_L67 a1 v9 K13 n v22 μ21)))))
def f_X8_leave (a1 : Int32) (μ : mT) : Option (Int32 × mT) :=
  bd (f_X8_isTrain a1 μ) (fun v1 μ2 => (if v1 = 0 then
  some ((-1), μ2)
  else
  bd (f_X8_canLeave a1 μ2) (fun v3 μ4 => (if v3 = 0 then
  some ((-5), μ4)
  else
  bd (f_X8_record μ4) (fun _ μ6 => gd (inb (450 + (10 * a1)) 560) (lt (μ6 28 0 (450 + (10 * a1)).toNatClampNeg : Int32) (fun v7 => lt (fun (v9 : Int32) (μ10 : mT) => 
  lt (fun (μ14 : mT) =>
  lt (upM μ14 28 0 (10 : Int32).toNatClampNeg ((μ14 28 0 (10 : Int32).toNatClampNeg) + (μ14 28 0 (9 : Int32).toNatClampNeg))) (fun μ15 => lt (upM μ15 28 0 (9 : Int32).toNatClampNeg 0) (fun μ16 => lt (upM μ16 28 0 (12 : Int32).toNatClampNeg ((μ16 28 0 (12 : Int32).toNatClampNeg) + 1)) (fun μ17 => lt (upM μ17 28 0 (17 : Int32).toNatClampNeg ((μ17 28 0 (17 : Int32).toNatClampNeg) + ((μ17 28 0 (5 : Int32).toNatClampNeg) * v9))) (fun μ18 => bd (f_X8_dropTrain a1 μ18) (fun _ μ20 => some (v9, μ20))))))) (fun K13 =>
  f_X8_leave_L67 a1 v9 K13 fu 0 μ10)) (fun J8 =>
  (if (μ6 28 0 (6 : Int32).toNatClampNeg) ≤ v7 then
  J8 0 μ6
  else
  J8 ((μ6 28 0 (6 : Int32).toNatClampNeg) - v7) μ6)))))))))
def f_X8_ofTrack (a1 : Int32) (a2 : Int32) (μ : mT) : Option (Int32 × mT) :=
  bd (f_X8_isTrack a1 μ) (fun v1 μ2 => (if v1 = 0 then
  some ((-1), μ2)
  else
  (if a2 = 0 then
  gd (inb ((20 + (4 * a1)) + a2) 560) (some (μ2 28 0 ((20 + (4 * a1)) + a2).toNatClampNeg, μ2))
  else
  (if a2 = 1 then
  gd (inb ((20 + (4 * a1)) + a2) 560) (some (μ2 28 0 ((20 + (4 * a1)) + a2).toNatClampNeg, μ2))
  else
  (if a2 = 2 then
  bd (f_X8_lengthOn a1 μ2) (fun v3 μ4 => some (v3, μ4))
  else
  (if a2 = 3 then
  gd (inb (((20 + (4 * a1)) + a2) - 1) 560) (some (μ2 28 0 (((20 + (4 * a1)) + a2) - 1).toNatClampNeg, μ2))
  else
  (if a2 = 4 then
  gd (inb (((20 + (4 * a1)) + a2) - 1) 560) (some (μ2 28 0 (((20 + (4 * a1)) + a2) - 1).toNatClampNeg, μ2))
  else
  some ((-2), μ2))))))))
def f_X8_at (a1 : Int32) (a2 : Int32) (μ : mT) : Option (Int32 × mT) :=
  lt (fun (μ2 : mT) => 
  (if (0 : Int32) ≤ a1 then
  bd (f_X8_manyOn a1 μ2) (fun v3 μ4 => bd (f_X8_in a2 0 (v3 - 1) μ4) (fun v5 μ6 => (if v5 = 0 then
  some ((-6), μ6)
  else
  gd (inb ((60 + (30 * a1)) + a2) 560) (some (μ6 28 0 ((60 + (30 * a1)) + a2).toNatClampNeg, μ6)))))
  else
  bd (f_X8_in a2 0 ((μ2 28 0 (9 : Int32).toNatClampNeg) - 1) μ2) (fun v7 μ8 => (if v7 = 0 then
  some ((-6), μ8)
  else
  gd (inb (300 + a2) 560) (some (μ8 28 0 (300 + a2).toNatClampNeg, μ8)))))) (fun J1 =>
  (if a1 = ((-6)) then
  J1 μ
  else
  bd (f_X8_isTrack a1 μ) (fun v9 μ10 => (if v9 = 0 then
  some ((-1), μ10)
  else
  J1 μ10))))
def f_X8_placeIn_L3 (a1 : Int32) (a2 : Int32) (a3 : Int32) : Nat → Int32 → mT → Option (Int32 × mT)
  | 0, _, _ => none
  | n + 1, v1, μ2 =>
      (if a2 ≤ v1 then
      some ((-6), μ2)
      else
      gd (inb (a1 + v1) 560) ((if (μ2 28 0 (a1 + v1).toNatClampNeg) = a3 then
      some (v1, μ2)
      else
      lt (v1 + 1 : Int32) (fun v3 => f_X8_placeIn_L3 a1 a2 a3 n v3 μ2))))
def f_X8_placeIn (a1 : Int32) (a2 : Int32) (a3 : Int32) (μ : mT) : Option (Int32 × mT) :=
  f_X8_placeIn_L3 a1 a2 a3 fu 0 μ
def f_X8_trackOf_L2 (a1 : Int32) : Nat → Int32 → mT → Option (Int32 × mT)
  | 0, _, _ => none
  | n + 1, v1, μ2 =>
      (if (μ2 28 0 (7 : Int32).toNatClampNeg) ≤ v1 then
      some ((-6), μ2)
      else
      bd (f_X8_manyOn v1 μ2) (fun v3 μ4 => bd (f_X8_placeIn (60 + (30 * v1)) v3 a1 μ4) (fun v5 μ6 => (if v5 < 0 then
      lt (v1 + 1 : Int32) (fun v7 => f_X8_trackOf_L2 a1 n v7 μ6)
      else
      some (v1, μ6)))))
def f_X8_trackOf (a1 : Int32) (μ : mT) : Option (Int32 × mT) :=
  f_X8_trackOf_L2 a1 fu 0 μ
def f_X8_ofWagon (a1 : Int32) (a2 : Int32) (μ : mT) : Option (Int32 × mT) :=
  bd (f_X8_isWagon a1 μ) (fun v1 μ2 => (if v1 = 0 then
  some ((-1), μ2)
  else
  bd (f_X8_trackOf a1 μ2) (fun v3 μ4 => bd (f_X8_placeIn 300 (μ4 28 0 (9 : Int32).toNatClampNeg) a1 μ4) (fun v5 μ6 => lt (fun (v8 : Int32) (μ9 : mT) => 
  (if a2 = 0 then
  bd (f_X8_lengthOf a1 μ9) (fun v10 μ11 => some (v10, μ11))
  else
  (if a2 = 1 then
  some (v3, μ9)
  else
  (if a2 = 2 then
  (if (0 : Int32) ≤ v3 then
  some (v8, μ9)
  else
  some (v5, μ9))
  else
  (if a2 = 3 then
  (if v5 < 0 then
  some (0, μ9)
  else
  some (1, μ9))
  else
  (if a2 = 4 then
  gd (inb ((330 + (4 * a1)) + 1) 560) (some (μ9 28 0 ((330 + (4 * a1)) + 1).toNatClampNeg, μ9))
  else
  (if a2 = 5 then
  gd (inb ((330 + (4 * a1)) + 2) 560) (some (μ9 28 0 ((330 + (4 * a1)) + 2).toNatClampNeg, μ9))
  else
  (if a2 = 6 then
  bd (f_X8_trainOf a1 μ9) (fun v12 μ13 => some (v12, μ13))
  else
  (if a2 = 7 then
  some (v8, μ9)
  else
  some ((-2), μ9)))))))))) (fun J7 =>
  (if (0 : Int32) ≤ v3 then
  bd (f_X8_manyOn v3 μ6) (fun v14 μ15 => bd (f_X8_placeIn (60 + (30 * v3)) v14 a1 μ15) (fun v16 μ17 => J7 v16 μ17))
  else
  J7 ((-6)) μ6))))))
def f_X8_ofTrain (a1 : Int32) (a2 : Int32) (μ : mT) : Option (Int32 × mT) :=
  bd (f_X8_isTrain a1 μ) (fun v1 μ2 => (if v1 = 0 then
  some ((-1), μ2)
  else
  lt (450 + (10 * a1) : Int32) (fun v3 => bd (f_X8_in a2 2 9 μ2) (fun v4 μ5 => (if v4 = 0 then
  (if a2 = 0 then
  gd (inb (v3 + 1) 560) (some (μ5 28 0 (v3 + 1).toNatClampNeg, μ5))
  else
  (if a2 = 1 then
  gd (inb v3 560) (some (μ5 28 0 v3.toNatClampNeg, μ5))
  else
  (if a2 = 10 then
  gd (inb (v3 + 1) 560) (bd (f_X8_lengths (v3 + 2) (μ5 28 0 (v3 + 1).toNatClampNeg) μ5) (fun v6 μ7 => some (v6, μ7)))
  else
  some ((-2), μ5))))
  else
  gd (inb (v3 + 1) 560) ((if (μ5 28 0 (v3 + 1).toNatClampNeg) ≤ (a2 - 2) then
  some ((-6), μ5)
  else
  gd (inb (v3 + a2) 560) (some (μ5 28 0 (v3 + a2).toNatClampNeg, μ5)))))))))
def f_X8_count (a1 : Int32) (μ : mT) : Option (Int32 × mT) :=
  bd (f_X8_in a1 15 20 μ) (fun v1 μ2 => (if v1 = 0 then
  (if a1 = 0 then
  some (μ2 28 0 (6 : Int32).toNatClampNeg, μ2)
  else
  (if a1 = 1 then
  some (μ2 28 0 (7 : Int32).toNatClampNeg, μ2)
  else
  (if a1 = 2 then
  some (μ2 28 0 (8 : Int32).toNatClampNeg, μ2)
  else
  (if a1 = 3 then
  some (μ2 28 0 (9 : Int32).toNatClampNeg, μ2)
  else
  (if a1 = 4 then
  bd (f_X8_lengthAtEngine μ2) (fun v3 μ4 => some (v3, μ4))
  else
  (if a1 = 5 then
  some (μ2 28 0 (10 : Int32).toNatClampNeg, μ2)
  else
  (if a1 = 6 then
  some (μ2 28 0 (11 : Int32).toNatClampNeg, μ2)
  else
  (if a1 = 7 then
  some (μ2 28 0 (12 : Int32).toNatClampNeg, μ2)
  else
  (if a1 = 8 then
  some (μ2 28 0 (13 : Int32).toNatClampNeg, μ2)
  else
  (if a1 = 9 then
  gd (inb ((14 + a1) - 9) 560) (some (μ2 28 0 ((14 + a1) - 9).toNatClampNeg, μ2))
  else
  (if a1 = 10 then
  gd (inb ((14 + a1) - 9) 560) (some (μ2 28 0 ((14 + a1) - 9).toNatClampNeg, μ2))
  else
  (if a1 = 11 then
  gd (inb ((14 + a1) - 9) 560) (some (μ2 28 0 ((14 + a1) - 9).toNatClampNeg, μ2))
  else
  (if a1 = 12 then
  gd (inb ((14 + a1) - 9) 560) (some (μ2 28 0 ((14 + a1) - 9).toNatClampNeg, μ2))
  else
  (if a1 = 13 then
  some (μ2 27 0 8, μ2)
  else
  (if a1 = 14 then
  some (μ2 27 0 4, μ2)
  else
  some ((-2), μ2))))))))))))))))
  else
  gd (inb (a1 - 15) 560) (some (μ2 28 0 (a1 - 15).toNatClampNeg, μ2))))
def f_X8_freeFrom (a1 : Int32) (μ : mT) : Option (Int32 × mT) :=
  bd (f_X8_in a1 1 500 μ) (fun v1 μ2 => (if v1 = 0 then
  some ((-2), μ2)
  else
  bd (f_X8_freeAt (μ2 28 0 (6 : Int32).toNatClampNeg) a1 μ2) (fun v3 μ4 => some (v3, μ4))))
def f_X8_layPulls_L57 (v1 : Int32) : Nat → Int32 → mT → Option (Int32 × mT)
  | 0, _, _ => none
  | n + 1, v7, μ8 =>
      gd (inb (v1 + 1) 560) ((if (μ8 28 0 (v1 + 1).toNatClampNeg) ≤ v7 then
      some (1, μ8)
      else
      gd (inb ((v1 + 2) + v7) 560) (lt (μ8 28 0 ((v1 + 2) + v7).toNatClampNeg : Int32) (fun v9 => lt (fun (μ11 : mT) => 
      lt (v7 + 1 : Int32) (fun v12 => f_X8_layPulls_L57 v1 n v12 μ11)) (fun J10 =>
      (if (μ8 28 0 (9 : Int32).toNatClampNeg) ≤ v7 then
      bd (f_X8_trackOf v9 μ8) (fun v13 μ14 => (if v13 < 0 then
      some (0, μ14)
      else
      gd (inb v13 8) (gd (inb ((60 + (30 * v13)) + (μ14 36 0 v13.toNatClampNeg)) 560) ((if (μ14 28 0 ((60 + (30 * v13)) + (μ14 36 0 v13.toNatClampNeg)).toNatClampNeg) = v9 then
      gd (inb v13 8) (gd (inb v13 8) (lt (upM μ14 36 0 v13.toNatClampNeg ((μ14 36 0 v13.toNatClampNeg) + 1)) (fun μ15 => lt (fun (μ17 : mT) => 
      gd (inb (μ17 27 0 14) 8) (lt (upM μ17 37 0 (μ17 27 0 14).toNatClampNeg v13) (fun μ18 => gd (inb (μ18 27 0 14) 8) (lt (upM μ18 38 0 (μ18 27 0 14).toNatClampNeg 1) (fun μ19 => lt (upM μ19 27 0 14 ((μ19 27 0 14) + 1)) (fun μ20 => J10 μ20)))))) (fun J16 =>
      (if (μ15 27 0 14) ≤ 0 then
      J16 μ15
      else
      gd (inb ((μ15 27 0 14) - 1) 8) ((if (μ15 37 0 ((μ15 27 0 14) - 1).toNatClampNeg) = v13 then
      gd (inb ((μ15 27 0 14) - 1) 8) (gd (inb ((μ15 27 0 14) - 1) 8) (lt (upM μ15 38 0 ((μ15 27 0 14) - 1).toNatClampNeg ((μ15 38 0 ((μ15 27 0 14) - 1).toNatClampNeg) + 1)) (fun μ21 => J10 μ21)))
      else
      J16 μ15)))))))
      else
      some (0, μ14))))))
      else
      gd (inb (300 + v7) 560) ((if (μ8 28 0 (300 + v7).toNatClampNeg) = v9 then
      J10 μ8
      else
      some (0, μ8)))))))))
def f_X8_layPulls_L16 (v1 : Int32) (K5 : mT → Option (Int32 × mT)) : Nat → Int32 → mT → Option (Int32 × mT)
  | 0, _, _ => none
  | n + 1, v3, μ4 =>
      (if 8 ≤ v3 then
      K5 μ4
      else
      gd (inb v3 8) (lt (upM μ4 36 0 v3.toNatClampNeg 0) (fun μ22 => lt (v3 + 1 : Int32) (fun v23 => f_X8_layPulls_L16 v1 K5 n v23 μ22))))
def f_X8_layPulls (a1 : Int32) (μ : mT) : Option (Int32 × mT) :=
  lt (450 + (10 * a1) : Int32) (fun v1 => lt (upM μ 27 0 14 0) (fun μ2 => lt (fun (μ6 : mT) =>
  gd (inb (v1 + 1) 560) ((if (μ6 28 0 (9 : Int32).toNatClampNeg) ≤ (μ6 28 0 (v1 + 1).toNatClampNeg) then
  f_X8_layPulls_L57 v1 fu 0 μ6
  else
  some (0, μ6)))) (fun K5 =>
  f_X8_layPulls_L16 v1 K5 fu 0 μ2)))
def f_X8_straight (a1 : Int32) (μ : mT) : Option (Int32 × mT) :=
  bd (f_X8_isTrain a1 μ) (fun v1 μ2 => (if v1 = 0 then
  some ((-1), μ2)
  else
  bd (f_X8_layPulls a1 μ2) (fun v3 μ4 => (if v3 = 0 then
  some (0, μ4)
  else
  some (1, μ4)))))
def f_X8_pulls (a1 : Int32) (μ : mT) : Option (Int32 × mT) :=
  bd (f_X8_isTrain a1 μ) (fun v1 μ2 => (if v1 = 0 then
  some ((-1), μ2)
  else
  bd (f_X8_layPulls a1 μ2) (fun v3 μ4 => (if v3 = 0 then
  some ((-6), μ4)
  else
  some (μ4 27 0 14, μ4)))))
def f_X8_wouldLeave_L52  : Nat → Int32 → Int32 → mT → Option (Int32 × mT)
  | 0, _, _, _ => none
  | n + 1, v10, v11, μ12 =>
      (if (μ12 27 0 14) ≤ v11 then
      some (v10, μ12)
      else
      gd (inb v11 8) (lt (μ12 37 0 v11.toNatClampNeg : Int32) (fun v13 => gd (inb v13 8) (gd (inb v11 8) (gd (inb v13 8) (lt (upM μ12 36 0 v13.toNatClampNeg ((μ12 36 0 v13.toNatClampNeg) + (μ12 38 0 v11.toNatClampNeg))) (fun μ14 => bd (f_X8_manyOn v13 μ14) (fun v15 μ16 => gd (inb v13 8) (lt (fun (v18 : Int32) (μ19 : mT) => 
      lt ((μ14 28 0 (2 : Int32).toNatClampNeg) + ((μ14 28 0 (3 : Int32).toNatClampNeg) * v18) : Int32) (fun v20 => bd (f_X8_freeAt v10 v20 μ19) (fun v21 μ22 => lt (v21 + v20 : Int32) (fun v23 => lt (v11 + 1 : Int32) (fun v24 => f_X8_wouldLeave_L52 n v23 v24 μ22))))) (fun J17 =>
      (if v15 ≤ (μ16 36 0 v13.toNatClampNeg) then
      J17 1 μ16
      else
      J17 2 μ16)))))))))))
def f_X8_wouldLeave_L23 (K7 : mT → Option (Int32 × mT)) : Nat → Int32 → mT → Option (Int32 × mT)
  | 0, _, _ => none
  | n + 1, v5, μ6 =>
      (if 8 ≤ v5 then
      K7 μ6
      else
      gd (inb v5 8) (lt (upM μ6 36 0 v5.toNatClampNeg 0) (fun μ25 => lt (v5 + 1 : Int32) (fun v26 => f_X8_wouldLeave_L23 K7 n v26 μ25))))
def f_X8_wouldLeave (a1 : Int32) (μ : mT) : Option (Int32 × mT) :=
  bd (f_X8_isTrain a1 μ) (fun v1 μ2 => (if v1 = 0 then
  some ((-1), μ2)
  else
  bd (f_X8_layPulls a1 μ2) (fun v3 μ4 => (if v3 = 0 then
  some ((-6), μ4)
  else
  lt (fun (μ8 : mT) =>
  lt (μ8 28 0 (6 : Int32).toNatClampNeg : Int32) (fun v9 => f_X8_wouldLeave_L52 fu v9 0 μ8)) (fun K7 =>
  f_X8_wouldLeave_L23 K7 fu 0 μ4)))))
def f_X8_comeBack2_L2  : Nat → Int32 → mT → Option (Int32 × mT)
  | 0, _, _ => none
  | n + 1, v1, μ2 =>
      (if 560 ≤ v1 then
      some (0, μ2)
      else
      gd (inb v1 560) (gd (inb v1 560) (lt (upM μ2 28 0 v1.toNatClampNeg (μ2 30 0 v1.toNatClampNeg)) (fun μ3 => lt (v1 + 1 : Int32) (fun v4 => f_X8_comeBack2_L2 n v4 μ3)))))
def f_X8_comeBack2  (μ : mT) : Option (Int32 × mT) :=
  f_X8_comeBack2_L2 fu 0 μ
def f_X8_oneMore_L49 (a1 : Int32) (v6 : Int32) (K22 : Int32 → mT → Option (Int32 × mT)) : Nat → Int32 → Int32 → mT → Option (Int32 × mT)
  | 0, _, _, _ => none
  | n + 1, v19, v20, μ21 =>
      (if 31 ≤ v20 then
      K22 v19 μ21
      else
      (if v19 = 0 then
      bd (f_X8_canPull v6 v20 μ21) (fun v26 μ27 => lt (fun (v29 : Int32) (μ30 : mT) => 
      lt (fun (v32 : Int32) (μ33 : mT) => 
      lt (v20 + 1 : Int32) (fun v34 => f_X8_oneMore_L49 a1 v6 K22 n v32 v34 μ33)) (fun J31 =>
      (if v29 = 0 then
      bd (f_X8_canPush v6 v20 μ30) (fun v35 μ36 => (if v35 = 0 then
      J31 v29 μ36
      else
      bd (f_X8_setBack v6 v20 μ36) (fun v37 μ38 => bd (f_X8_canLeave a1 μ38) (fun v39 μ40 => bd (f_X8_comeBack2 μ40) (fun _ μ42 => J31 v39 μ42)))))
      else
      J31 v29 μ30))) (fun J28 =>
      (if v26 = 0 then
      J28 v19 μ27
      else
      bd (f_X8_drawOut v6 v20 μ27) (fun v43 μ44 => bd (f_X8_canLeave a1 μ44) (fun v45 μ46 => bd (f_X8_comeBack2 μ46) (fun _ μ48 => J28 v45 μ48))))))
      else
      K22 v19 μ21))
def f_X8_oneMore_L31 (a1 : Int32) (K8 : Int32 → mT → Option (Int32 × mT)) : Nat → Int32 → Int32 → mT → Option (Int32 × mT)
  | 0, _, _, _ => none
  | n + 1, v5, v6, μ7 =>
      (if (μ7 28 0 (7 : Int32).toNatClampNeg) ≤ v6 then
      K8 v5 μ7
      else
      (if v5 = 0 then
      lt (fun (v23 : Int32) (μ24 : mT) =>
      lt (v6 + 1 : Int32) (fun v25 => f_X8_oneMore_L31 a1 K8 n v23 v25 μ24)) (fun K22 =>
      f_X8_oneMore_L49 a1 v6 K22 fu v5 1 μ7)
      else
      K8 v5 μ7))
def f_X8_oneMore_L4 (a1 : Int32) (K3 : mT → Option (Int32 × mT)) : Nat → Int32 → mT → Option (Int32 × mT)
  | 0, _, _ => none
  | n + 1, v1, μ2 =>
      (if 560 ≤ v1 then
      K3 μ2
      else
      gd (inb v1 560) (gd (inb v1 560) (lt (upM μ2 30 0 v1.toNatClampNeg (μ2 28 0 v1.toNatClampNeg)) (fun μ49 => lt (v1 + 1 : Int32) (fun v50 => f_X8_oneMore_L4 a1 K3 n v50 μ49)))))
def f_X8_oneMore (a1 : Int32) (μ : mT) : Option (Int32 × mT) :=
  lt (fun (μ4 : mT) =>
  lt (fun (v9 : Int32) (μ10 : mT) =>
  (if v9 = 0 then
  bd (f_X8_canRound μ10) (fun v11 μ12 => (if v11 = 0 then
  gd (isB v9) (some (v9, μ12))
  else
  bd (f_X8_turnRound μ12) (fun _ μ14 => bd (f_X8_canLeave a1 μ14) (fun v15 μ16 => bd (f_X8_comeBack2 μ16) (fun _ μ18 => gd (isB v15) (some (v15, μ18)))))))
  else
  gd (isB v9) (some (v9, μ10)))) (fun K8 =>
  f_X8_oneMore_L31 a1 K8 fu 0 0 μ4)) (fun K3 =>
  f_X8_oneMore_L4 a1 K3 fu 0 μ)
def f_X8_comeBack_L2  : Nat → Int32 → mT → Option (Int32 × mT)
  | 0, _, _ => none
  | n + 1, v1, μ2 =>
      (if 560 ≤ v1 then
      some (0, μ2)
      else
      gd (inb v1 560) (gd (inb v1 560) (lt (upM μ2 28 0 v1.toNatClampNeg (μ2 29 0 v1.toNatClampNeg)) (fun μ3 => lt (v1 + 1 : Int32) (fun v4 => f_X8_comeBack_L2 n v4 μ3)))))
def f_X8_comeBack  (μ : mT) : Option (Int32 × mT) :=
  f_X8_comeBack_L2 fu 0 μ
def f_X8_moves_L79 (a1 : Int32) (v12 : Int32) (K31 : Int32 → mT → Option (Int32 × mT)) : Nat → Int32 → Int32 → mT → Option (Int32 × mT)
  | 0, _, _, _ => none
  | n + 1, v28, v29, μ30 =>
      (if 31 ≤ v29 then
      K31 v28 μ30
      else
      (if v28 = 0 then
      bd (f_X8_canPull v12 v29 μ30) (fun v35 μ36 => lt (fun (v38 : Int32) (μ39 : mT) => 
      lt (fun (v41 : Int32) (μ42 : mT) => 
      lt (v29 + 1 : Int32) (fun v43 => f_X8_moves_L79 a1 v12 K31 n v41 v43 μ42)) (fun J40 =>
      (if v38 = 0 then
      bd (f_X8_canPush v12 v29 μ39) (fun v44 μ45 => (if v44 = 0 then
      J40 v38 μ45
      else
      bd (f_X8_setBack v12 v29 μ45) (fun v46 μ47 => bd (f_X8_oneMore a1 μ47) (fun v48 μ49 => bd (f_X8_comeBack μ49) (fun _ μ51 => J40 v48 μ51)))))
      else
      J40 v38 μ39))) (fun J37 =>
      (if v35 = 0 then
      J37 v28 μ36
      else
      bd (f_X8_drawOut v12 v29 μ36) (fun v52 μ53 => bd (f_X8_oneMore a1 μ53) (fun v54 μ55 => bd (f_X8_comeBack μ55) (fun _ μ57 => J37 v54 μ57))))))
      else
      K31 v28 μ30))
def f_X8_moves_L61 (a1 : Int32) (K14 : Int32 → mT → Option (Int32 × mT)) : Nat → Int32 → Int32 → mT → Option (Int32 × mT)
  | 0, _, _, _ => none
  | n + 1, v11, v12, μ13 =>
      (if (μ13 28 0 (7 : Int32).toNatClampNeg) ≤ v12 then
      K14 v11 μ13
      else
      (if v11 = 0 then
      lt (fun (v32 : Int32) (μ33 : mT) =>
      lt (v12 + 1 : Int32) (fun v34 => f_X8_moves_L61 a1 K14 n v32 v34 μ33)) (fun K31 =>
      f_X8_moves_L79 a1 v12 K31 fu v11 1 μ13)
      else
      K14 v11 μ13))
def f_X8_moves_L34 (a1 : Int32) (K9 : mT → Option (Int32 × mT)) : Nat → Int32 → mT → Option (Int32 × mT)
  | 0, _, _ => none
  | n + 1, v7, μ8 =>
      (if 560 ≤ v7 then
      K9 μ8
      else
      gd (inb v7 560) (gd (inb v7 560) (lt (upM μ8 29 0 v7.toNatClampNeg (μ8 28 0 v7.toNatClampNeg)) (fun μ58 => lt (v7 + 1 : Int32) (fun v59 => f_X8_moves_L34 a1 K9 n v59 μ58)))))
def f_X8_moves (a1 : Int32) (μ : mT) : Option (Int32 × mT) :=
  bd (f_X8_isTrain a1 μ) (fun v1 μ2 => (if v1 = 0 then
  some ((-1), μ2)
  else
  bd (f_X8_canLeave a1 μ2) (fun v3 μ4 => (if v3 = 0 then
  bd (f_X8_oneMore a1 μ4) (fun v5 μ6 => (if v5 = 0 then
  lt (fun (μ10 : mT) =>
  lt (fun (v15 : Int32) (μ16 : mT) =>
  lt (fun (v18 : Int32) (μ19 : mT) => 
  (if v18 = 0 then
  some ((-6), μ19)
  else
  some (2, μ19))) (fun J17 =>
  (if v15 = 0 then
  bd (f_X8_canRound μ16) (fun v20 μ21 => (if v20 = 0 then
  J17 v15 μ21
  else
  bd (f_X8_turnRound μ21) (fun _ μ23 => bd (f_X8_oneMore a1 μ23) (fun v24 μ25 => bd (f_X8_comeBack μ25) (fun _ μ27 => J17 v24 μ27)))))
  else
  J17 v15 μ16))) (fun K14 =>
  f_X8_moves_L61 a1 K14 fu 0 0 μ10)) (fun K9 =>
  f_X8_moves_L34 a1 K9 fu 0 μ6)
  else
  some (1, μ6)))
  else
  some (0, μ4)))))
def f_X8_roomFor_L4  : Nat → Int32 → Int32 → mT → Option (Int32 × mT)
  | 0, _, _, _ => none
  | n + 1, v1, v2, μ3 =>
      (if (μ3 28 0 (7 : Int32).toNatClampNeg) ≤ v2 then
      some (v1, μ3)
      else
      lt (fun (v5 : Int32) (μ6 : mT) => 
      lt (v1 ||| v5 : Int32) (fun v7 => lt (v2 + 1 : Int32) (fun v8 => f_X8_roomFor_L4 n v7 v8 μ6))) (fun J4 =>
      lt (fun (μ10 : mT) => 
      J4 0 μ10) (fun J9 =>
      (if (μ3 28 0 (9 : Int32).toNatClampNeg) ≤ 0 then
      J9 μ3
      else
      bd (f_X8_canPush v2 (μ3 28 0 (9 : Int32).toNatClampNeg) μ3) (fun v11 μ12 => (if v11 = 0 then
      J9 μ12
      else
      J4 (1 <<< (v2 &&& 31)) μ12))))))
def f_X8_roomFor  (μ : mT) : Option (Int32 × mT) :=
  f_X8_roomFor_L4 fu 0 0 μ
def f_X8_buried_L57 (v5 : Int32) (v2 : Int32) (v4 : Int32) (v6 : Int32) (v14 : Int32) (K19 : Int32 → mT → Option (Int32 × mT)) : Nat → Int32 → Int32 → mT → Option (Int32 × mT)
  | 0, _, _, _ => none
  | n + 1, v16, v17, μ18 =>
      (if v6 ≤ v17 then
      K19 v16 μ18
      else
      lt (fun (v30 : Int32) (μ31 : mT) => 
      lt (v17 + 1 : Int32) (fun v32 => f_X8_buried_L57 v5 v2 v4 v6 v14 K19 n v30 v32 μ31)) (fun J29 =>
      lt (fun (μ34 : mT) => 
      J29 1 μ34) (fun J33 =>
      (if v16 = 0 then
      gd (inb (v4 + v17) 560) (bd (f_X8_trainOf (μ18 28 0 (v4 + v17).toNatClampNeg) μ18) (fun v35 μ36 => (if v35 = v14 then
      J29 0 μ36
      else
      J33 μ36)))
      else
      J33 μ18))))
def f_X8_buried_L26 (v2 : Int32) (v4 : Int32) (K8 : Int32 → mT → Option (Int32 × mT)) : Nat → Int32 → Int32 → mT → Option (Int32 × mT)
  | 0, _, _, _ => none
  | n + 1, v5, v6, μ7 =>
      bd (f_X8_manyOn v2 μ7) (fun v12 μ13 => (if v12 ≤ v6 then
      K8 v5 μ13
      else
      gd (inb (v4 + v6) 560) (bd (f_X8_trainOf (μ13 28 0 (v4 + v6).toNatClampNeg) μ13) (fun v14 μ15 => lt (fun (v20 : Int32) (μ21 : mT) =>
      lt (fun (v23 : Int32) (μ24 : mT) => 
      lt (v5 + v23 : Int32) (fun v25 => lt (v6 + 1 : Int32) (fun v26 => f_X8_buried_L26 v2 v4 K8 n v25 v26 μ24))) (fun J22 =>
      lt (fun (μ28 : mT) => 
      J22 0 μ28) (fun J27 =>
      (if v14 < 0 then
      J27 μ21
      else
      (if v20 = 0 then
      J27 μ21
      else
      J22 1 μ21))))) (fun K19 =>
      f_X8_buried_L57 v5 v2 v4 v6 v14 K19 fu 0 0 μ15)))))
def f_X8_buried_L4  : Nat → Int32 → Int32 → mT → Option (Int32 × mT)
  | 0, _, _, _ => none
  | n + 1, v1, v2, μ3 =>
      (if (μ3 28 0 (7 : Int32).toNatClampNeg) ≤ v2 then
      some (v1, μ3)
      else
      lt (60 + (30 * v2) : Int32) (fun v4 => lt (fun (v9 : Int32) (μ10 : mT) =>
      lt (v2 + 1 : Int32) (fun v11 => f_X8_buried_L4 n v9 v11 μ10)) (fun K8 =>
      f_X8_buried_L26 v2 v4 K8 fu v1 0 μ3)))
def f_X8_buried  (μ : mT) : Option (Int32 × mT) :=
  f_X8_buried_L4 fu 0 0 μ
def f_X8_sign  (μ : mT) : Option (Int32 × mT) :=
  (if (μ 27 0 8) ≤ (μ 27 0 17) then
  some (0, μ)
  else
  gd (inb (μ 27 0 17) 80) (some (μ 34 0 (μ 27 0 17).toNatClampNeg, μ)))
def f_X8_one (a1 : Int32) (a2 : Int32) (μ : mT) : Option (Int32 × mT) :=
  bd (f_X8_sign μ) (fun v1 μ2 => lt (v1 - a1 : Int32) (fun v3 => lt (fun (v5 : Int32) (μ6 : mT) => 
  gd (isB v5) (lt (upM μ6 27 0 18 v5) (fun μ7 => (if (μ7 27 0 18) = 0 then
  lt (upM μ7 27 0 17 ((μ7 27 0 17) + 1)) (fun μ8 => some (v3, μ8))
  else
  lt (upM μ7 27 0 17 ((μ7 27 0 17) + 0)) (fun μ9 => some (v3, μ9)))))) (fun J4 =>
  lt (fun (μ11 : mT) => 
  J4 1 μ11) (fun J10 =>
  (if (μ2 27 0 18) = 0 then
  bd (f_X8_in v3 0 a2 μ2) (fun v12 μ13 => (if v12 = 0 then
  J10 μ13
  else
  J4 0 μ13))
  else
  J10 μ2)))))
def f_X8_number_L9  : Nat → Int32 → mT → Option (Int32 × mT)
  | 0, _, _ => none
  | n + 1, v3, μ4 =>
      (if (μ4 27 0 18) = 0 then
      (if v3 ≤ 0 then
      some (v3, μ4)
      else
      bd (f_X8_sign μ4) (fun v5 μ6 => bd (f_X8_in v5 48 57 μ6) (fun v7 μ8 => (if v7 = 0 then
      some (v3, μ8)
      else
      bd (f_X8_sign μ8) (fun v9 μ10 => (if 99 < (((10 * v3) + v9) - 48) then
      some (v3, μ10)
      else
      bd (f_X8_sign μ10) (fun v11 μ12 => lt (((10 * v3) + v11) - 48 : Int32) (fun v13 => lt (upM μ12 27 0 17 ((μ12 27 0 17) + 1)) (fun μ14 => f_X8_number_L9 n v13 μ14)))))))))
      else
      some (v3, μ4))
def f_X8_number  (μ : mT) : Option (Int32 × mT) :=
  bd (f_X8_one 48 9 μ) (fun v1 μ2 => f_X8_number_L9 fu v1 μ2)
def f_X8_readOne  (μ : mT) : Option (Int32 × mT) :=
  lt (3 * (μ 27 0 16) : Int32) (fun v1 => bd (f_X8_sign μ) (fun v2 μ3 => gd (inb v1 240) (lt (upM μ3 39 0 v1.toNatClampNeg v2) (fun μ4 => gd (inb (v1 + 1) 240) (lt (upM μ4 39 0 (v1 + 1).toNatClampNeg 0) (fun μ5 => lt (fun (v7 : Int32) (μ8 : mT) => 
  gd (isB v7) (lt (upM μ8 27 0 18 v7) (fun μ9 => (if (μ9 27 0 18) = 0 then
  lt (upM μ9 27 0 17 ((μ9 27 0 17) + 1)) (fun μ10 => lt (fun (μ12 : mT) => 
  lt (upM μ12 27 0 16 ((μ12 27 0 16) + 1)) (fun μ13 => some (0, μ13))) (fun J11 =>
  lt (fun (μ15 : mT) => 
  bd (f_X8_one 65 7 μ15) (fun v16 μ17 => gd (inb (v1 + 1) 240) (lt (upM μ17 39 0 (v1 + 1).toNatClampNeg v16) (fun μ18 => lt (fun (v20 : Int32) (μ21 : mT) => 
  gd (inb (v1 + 2) 240) (lt (upM μ21 39 0 (v1 + 2).toNatClampNeg v20) (fun μ22 => J11 μ22))) (fun J19 =>
  (if (μ18 27 0 18) = 0 then
  bd (f_X8_number μ18) (fun v23 μ24 => J19 v23 μ24)
  else
  J19 0 μ18)))))) (fun J14 =>
  (if v2 = 112 then
  J14 μ10
  else
  (if v2 = 113 then
  J14 μ10
  else
  (if v2 = 114 then
  J11 μ10
  else
  bd (f_X8_number μ10) (fun v25 μ26 => gd (inb (v1 + 1) 240) (lt (upM μ26 39 0 (v1 + 1).toNatClampNeg v25) (fun μ27 => J11 μ27)))))))))
  else
  some (0, μ9))))) (fun J6 =>
  lt (fun (μ29 : mT) => 
  J6 0 μ29) (fun J28 =>
  (if v2 = 112 then
  J28 μ5
  else
  (if v2 = 113 then
  J28 μ5
  else
  (if v2 = 114 then
  J28 μ5
  else
  (if v2 = 119 then
  J28 μ5
  else
  (if v2 = 116 then
  J28 μ5
  else
  J6 1 μ5)))))))))))))
def f_X8_faultOf_L19 (K7 : mT → Option (Int32 × mT)) : Nat → mT → Option (Int32 × mT)
  | 0, _ => none
  | n + 1, μ6 =>
      (if (μ6 27 0 18) = 0 then
      (if (μ6 27 0 8) ≤ (μ6 27 0 17) then
      K7 μ6
      else
      bd (f_X8_sign μ6) (fun v9 μ10 => lt (fun (v12 : Int32) (μ13 : mT) => 
      gd (isB v12) (lt (upM μ13 27 0 18 v12) (fun μ14 => (if (μ14 27 0 18) = 0 then
      lt (upM μ14 27 0 17 ((μ14 27 0 17) + 1)) (fun μ15 => bd (f_X8_readOne μ15) (fun _ μ17 => f_X8_faultOf_L19 K7 n μ17))
      else
      f_X8_faultOf_L19 K7 n μ14)))) (fun J11 =>
      (if v9 = 59 then
      J11 0 μ10
      else
      J11 1 μ10))))
      else
      K7 μ6)
def f_X8_faultOf  (μ : mT) : Option (Int32 × mT) :=
  lt (upM μ 27 0 17 0) (fun μ1 => lt (upM μ1 27 0 16 0) (fun μ2 => lt (upM μ2 27 0 18 0) (fun μ3 => bd (f_X8_readOne μ3) (fun _ μ5 => lt (fun (μ8 : mT) =>
  (if (μ8 27 0 18) = 0 then
  some ((-6), μ8)
  else
  some (μ8 27 0 17, μ8))) (fun K7 =>
  f_X8_faultOf_L19 K7 fu μ5)))))
def f_X8_put_L85 (v5 : Int32) (K12 : mT → Option (Int32 × mT)) : Nat → Int64 → Int32 → mT → Option (Int32 × mT)
  | 0, _, _, _ => none
  | n + 1, v9, v10, μ11 =>
      (if v10 < 0 then
      K12 μ11
      else
      gd (inb ((μ11 27 0 8) + v10) 80) (lt (upM μ11 34 0 ((μ11 27 0 8) + v10).toNatClampNeg ((v9 &&& 255).toInt32)) (fun μ15 => lt (shrL v9 8 : Int64) (fun v16 => lt (v10 + (-1) : Int32) (fun v17 => f_X8_put_L85 v5 K12 n v16 v17 μ15)))))
def f_X8_put_L5 (a1 : Int64) (K4 : Int32 → Int64 → mT → Option (Int32 × mT)) : Nat → Int32 → Int64 → mT → Option (Int32 × mT)
  | 0, _, _, _ => none
  | n + 1, v1, v2, μ3 =>
      (if (lg_cmp (v2 &&& 255) 0) = 0 then
      K4 v1 v2 μ3
      else
      bd (f_X8_in ((v2 &&& 255).toInt32) 33 126 μ3) (fun v18 μ19 => (if v18 = 0 then
      some ((-2), μ19)
      else
      lt (v1 + 1 : Int32) (fun v20 => lt (shrL v2 8 : Int64) (fun v21 => f_X8_put_L5 a1 K4 n v20 v21 μ19)))))
def f_X8_put (a1 : Int64) (μ : mT) : Option (Int32 × mT) :=
  lt (fun (v5 : Int32) (v6 : Int64) (μ7 : mT) =>
  (if (lg_cmp v6 0) = 0 then
  (if v5 = 0 then
  some ((-2), μ7)
  else
  (if ((μ7 27 0 8) + v5) ≤ 80 then
  lt (v5 - 1 : Int32) (fun v8 => lt (fun (μ13 : mT) =>
  lt (upM μ13 27 0 8 ((μ13 27 0 8) + v5)) (fun μ14 => some (μ14 27 0 8, μ14))) (fun K12 =>
  f_X8_put_L85 v5 K12 fu a1 v8 μ7))
  else
  some ((-4), μ7)))
  else
  some ((-2), μ7))) (fun K4 =>
  f_X8_put_L5 a1 K4 fu 0 a1 μ)
def f_X8_wipe  (μ : mT) : Option (Int32 × mT) :=
  lt (μ 27 0 8 : Int32) (fun v1 => lt (upM μ 27 0 8 0) (fun μ2 => some (v1, μ2)))
def f_X8_fault  (μ : mT) : Option (Int32 × mT) :=
  bd (f_X8_faultOf μ) (fun v1 μ2 => some (v1, μ2))
def f_X8_carry (a1 : Int32) (μ : mT) : Option (Int32 × mT) :=
  gd (inb (a1 + 1) 240) (lt (μ 39 0 (a1 + 1).toNatClampNeg : Int32) (fun v1 => gd (inb a1 240) (lt (μ 39 0 a1.toNatClampNeg : Int32) (fun v2 => (if v2 = 112 then
  gd (inb (a1 + 2) 240) (bd (f_X8_pull v1 (μ 39 0 (a1 + 2).toNatClampNeg) μ) (fun v3 μ4 => some (v3, μ4)))
  else
  (if v2 = 113 then
  gd (inb (a1 + 2) 240) (bd (f_X8_push v1 (μ 39 0 (a1 + 2).toNatClampNeg) μ) (fun v5 μ6 => some (v5, μ6)))
  else
  (if v2 = 114 then
  bd (f_X8_round μ) (fun v7 μ8 => some (v7, μ8))
  else
  (if v2 = 119 then
  bd (f_X8_pass v1 μ) (fun v9 μ10 => some (v9, μ10))
  else
  bd (f_X8_leave v1 μ) (fun v11 μ12 => some (v11, μ12))))))))))
def f_X8_carryOut_L23 (K8 : Int32 → mT → Option (Int32 × mT)) : Nat → Int32 → mT → Option (Int32 × mT)
  | 0, _, _ => none
  | n + 1, v6, μ7 =>
      (if (μ7 27 0 16) ≤ v6 then
      K8 v6 μ7
      else
      bd (f_X8_carry (3 * v6) μ7) (fun v13 μ14 => (if v13 < 0 then
      K8 v6 μ14
      else
      lt (v6 + 1 : Int32) (fun v15 => f_X8_carryOut_L23 K8 n v15 μ14))))
def f_X8_carryOut  (μ : mT) : Option (Int32 × mT) :=
  bd (f_X8_faultOf μ) (fun v1 μ2 => (if v1 = ((-6)) then
  bd (f_X8_record μ2) (fun _ μ4 => lt (upM μ4 27 0 9 1) (fun μ5 => lt (fun (v9 : Int32) (μ10 : mT) =>
  lt (upM μ10 27 0 9 0) (fun μ11 => lt (upM μ11 27 0 8 0) (fun μ12 => some (v9, μ12)))) (fun K8 =>
  f_X8_carryOut_L23 K8 fu 0 μ5)))
  else
  some ((-3), μ2)))
def f_X8_undo_L22  : Nat → Int32 → mT → Option (Int32 × mT)
  | 0, _, _ => none
  | n + 1, v2, μ3 =>
      (if 560 ≤ v2 then
      some (μ3 27 0 4, μ3)
      else
      gd (inb (((μ3 27 0 4) * 560) + v2) 3360) (gd (inb v2 560) (lt (upM μ3 28 0 v2.toNatClampNeg (μ3 31 0 (((μ3 27 0 4) * 560) + v2).toNatClampNeg)) (fun μ4 => lt (v2 + 1 : Int32) (fun v5 => f_X8_undo_L22 n v5 μ4)))))
def f_X8_undo  (μ : mT) : Option (Int32 × mT) :=
  (if (μ 27 0 4) = 0 then
  some ((-5), μ)
  else
  lt (upM μ 27 0 4 ((μ 27 0 4) - 1)) (fun μ1 => f_X8_undo_L22 fu 0 μ1))
def f_X8_save_L14 (a1 : Int32) (K5 : mT → Option (Int32 × mT)) : Nat → Int32 → mT → Option (Int32 × mT)
  | 0, _, _ => none
  | n + 1, v3, μ4 =>
      (if 560 ≤ v3 then
      K5 μ4
      else
      gd (inb v3 560) (gd (inb ((a1 * 560) + v3) 1120) (lt (upM μ4 32 0 ((a1 * 560) + v3).toNatClampNeg (μ4 28 0 v3.toNatClampNeg)) (fun μ8 => lt (v3 + 1 : Int32) (fun v9 => f_X8_save_L14 a1 K5 n v9 μ8)))))
def f_X8_save (a1 : Int32) (μ : mT) : Option (Int32 × mT) :=
  bd (f_X8_in a1 0 1 μ) (fun v1 μ2 => (if v1 = 0 then
  some ((-2), μ2)
  else
  lt (fun (μ6 : mT) =>
  gd (inb a1 2) (lt (upM μ6 33 0 a1.toNatClampNeg 1) (fun μ7 => some (μ7 28 0 (6 : Int32).toNatClampNeg, μ7)))) (fun K5 =>
  f_X8_save_L14 a1 K5 fu 0 μ2)))
def f_X8_restore_L30 (a1 : Int32) : Nat → Int32 → mT → Option (Int32 × mT)
  | 0, _, _ => none
  | n + 1, v5, μ6 =>
      (if 560 ≤ v5 then
      some (μ6 28 0 (6 : Int32).toNatClampNeg, μ6)
      else
      gd (inb ((a1 * 560) + v5) 1120) (gd (inb v5 560) (lt (upM μ6 28 0 v5.toNatClampNeg (μ6 32 0 ((a1 * 560) + v5).toNatClampNeg)) (fun μ7 => lt (v5 + 1 : Int32) (fun v8 => f_X8_restore_L30 a1 n v8 μ7)))))
def f_X8_restore (a1 : Int32) (μ : mT) : Option (Int32 × mT) :=
  bd (f_X8_in a1 0 1 μ) (fun v1 μ2 => (if v1 = 0 then
  some ((-2), μ2)
  else
  gd (inb a1 2) ((if (μ2 33 0 a1.toNatClampNeg) = 0 then
  some ((-5), μ2)
  else
  bd (f_X8_record μ2) (fun _ μ4 => f_X8_restore_L30 a1 fu 0 μ4)))))
def f_L_law_L18 (xs : Nat → Int32) (Ls : Nat) : Nat → Int32 → mT → Option (Int32 × mT)
  | 0, _, _ => none
  | n + 1, v1, μ2 =>
      (if ((Int32.ofNat Ls) - 4) < v1 then
      some (1, μ2)
      else
      gd (inb v1 Ls) (lt (fun (μ4 : mT) => 
      lt (v1 + 4 : Int32) (fun v5 => f_L_law_L18 xs Ls n v5 μ4)) (fun J3 =>
      lt ((xs v1.toNatClampNeg) &&& 31 : Int32) (fun v6 => (if v6 = 0 then
      gd (inb (v1 + 1) Ls) (gd (inb (v1 + 2) Ls) (bd (f_X7_set (xs (v1 + 1).toNatClampNeg) (xs (v1 + 2).toNatClampNeg) μ2) (fun v7 μ8 => gd (inb (v1 + 1) Ls) (gd (inb (v1 + 2) Ls) (bd (f_X8_set (xs (v1 + 1).toNatClampNeg) (xs (v1 + 2).toNatClampNeg) μ8) (fun v9 μ10 => (if v7 = v9 then
      J3 μ10
      else
      some (0, μ10))))))))
      else
      (if v6 = 1 then
      gd (inb (v1 + 1) Ls) (bd (f_X7_track (xs (v1 + 1).toNatClampNeg) μ2) (fun v11 μ12 => gd (inb (v1 + 1) Ls) (bd (f_X8_track (xs (v1 + 1).toNatClampNeg) μ12) (fun v13 μ14 => (if v11 = v13 then
      J3 μ14
      else
      some (0, μ14))))))
      else
      (if v6 = 2 then
      gd (inb (v1 + 1) Ls) (gd (inb (v1 + 2) Ls) (bd (f_X7_wagon (xs (v1 + 1).toNatClampNeg) (xs (v1 + 2).toNatClampNeg) μ2) (fun v15 μ16 => gd (inb (v1 + 1) Ls) (gd (inb (v1 + 2) Ls) (bd (f_X8_wagon (xs (v1 + 1).toNatClampNeg) (xs (v1 + 2).toNatClampNeg) μ16) (fun v17 μ18 => (if v15 = v17 then
      J3 μ18
      else
      some (0, μ18))))))))
      else
      (if v6 = 3 then
      gd (inb (v1 + 1) Ls) (gd (inb (v1 + 2) Ls) (bd (f_X7_block (xs (v1 + 1).toNatClampNeg) (xs (v1 + 2).toNatClampNeg) μ2) (fun v19 μ20 => gd (inb (v1 + 1) Ls) (gd (inb (v1 + 2) Ls) (bd (f_X8_block (xs (v1 + 1).toNatClampNeg) (xs (v1 + 2).toNatClampNeg) μ20) (fun v21 μ22 => (if v19 = v21 then
      J3 μ22
      else
      some (0, μ22))))))))
      else
      (if v6 = 4 then
      gd (inb (v1 + 1) Ls) (gd (inb (v1 + 2) Ls) (bd (f_X7_pull (xs (v1 + 1).toNatClampNeg) (xs (v1 + 2).toNatClampNeg) μ2) (fun v23 μ24 => gd (inb (v1 + 1) Ls) (gd (inb (v1 + 2) Ls) (bd (f_X8_pull (xs (v1 + 1).toNatClampNeg) (xs (v1 + 2).toNatClampNeg) μ24) (fun v25 μ26 => (if v23 = v25 then
      J3 μ26
      else
      some (0, μ26))))))))
      else
      (if v6 = 5 then
      gd (inb (v1 + 1) Ls) (gd (inb (v1 + 2) Ls) (bd (f_X7_push (xs (v1 + 1).toNatClampNeg) (xs (v1 + 2).toNatClampNeg) μ2) (fun v27 μ28 => gd (inb (v1 + 1) Ls) (gd (inb (v1 + 2) Ls) (bd (f_X8_push (xs (v1 + 1).toNatClampNeg) (xs (v1 + 2).toNatClampNeg) μ28) (fun v29 μ30 => (if v27 = v29 then
      J3 μ30
      else
      some (0, μ30))))))))
      else
      (if v6 = 6 then
      bd (f_X7_round μ2) (fun v31 μ32 => bd (f_X8_round μ32) (fun v33 μ34 => (if v31 = v33 then
      J3 μ34
      else
      some (0, μ34))))
      else
      (if v6 = 7 then
      gd (inb (v1 + 1) Ls) (bd (f_X7_pass (xs (v1 + 1).toNatClampNeg) μ2) (fun v35 μ36 => gd (inb (v1 + 1) Ls) (bd (f_X8_pass (xs (v1 + 1).toNatClampNeg) μ36) (fun v37 μ38 => (if v35 = v37 then
      J3 μ38
      else
      some (0, μ38))))))
      else
      (if v6 = 8 then
      gd (inb (v1 + 1) Ls) (gd (inb (v1 + 2) Ls) (gd (inb (v1 + 3) Ls) (bd (f_X7_train ((shlL ((xs (v1 + 1).toNatClampNeg).toInt64) 32) ||| (((xs (v1 + 2).toNatClampNeg).toInt64) &&& 4294967295)) (xs (v1 + 3).toNatClampNeg) μ2) (fun v39 μ40 => gd (inb (v1 + 1) Ls) (gd (inb (v1 + 2) Ls) (gd (inb (v1 + 3) Ls) (bd (f_X8_train ((shlL ((xs (v1 + 1).toNatClampNeg).toInt64) 32) ||| (((xs (v1 + 2).toNatClampNeg).toInt64) &&& 4294967295)) (xs (v1 + 3).toNatClampNeg) μ40) (fun v41 μ42 => (if v39 = v41 then
      J3 μ42
      else
      some (0, μ42))))))))))
      else
      (if v6 = 9 then
      gd (inb (v1 + 1) Ls) (bd (f_X7_strike (xs (v1 + 1).toNatClampNeg) μ2) (fun v43 μ44 => gd (inb (v1 + 1) Ls) (bd (f_X8_strike (xs (v1 + 1).toNatClampNeg) μ44) (fun v45 μ46 => (if v43 = v45 then
      J3 μ46
      else
      some (0, μ46))))))
      else
      (if v6 = 10 then
      gd (inb (v1 + 1) Ls) (bd (f_X7_leave (xs (v1 + 1).toNatClampNeg) μ2) (fun v47 μ48 => gd (inb (v1 + 1) Ls) (bd (f_X8_leave (xs (v1 + 1).toNatClampNeg) μ48) (fun v49 μ50 => (if v47 = v49 then
      J3 μ50
      else
      some (0, μ50))))))
      else
      (if v6 = 11 then
      gd (inb (v1 + 1) Ls) (gd (inb (v1 + 2) Ls) (bd (f_X7_ofTrack (xs (v1 + 1).toNatClampNeg) (xs (v1 + 2).toNatClampNeg) μ2) (fun v51 μ52 => gd (inb (v1 + 1) Ls) (gd (inb (v1 + 2) Ls) (bd (f_X8_ofTrack (xs (v1 + 1).toNatClampNeg) (xs (v1 + 2).toNatClampNeg) μ52) (fun v53 μ54 => (if v51 = v53 then
      J3 μ54
      else
      some (0, μ54))))))))
      else
      (if v6 = 12 then
      gd (inb (v1 + 1) Ls) (gd (inb (v1 + 2) Ls) (bd (f_X7_at (xs (v1 + 1).toNatClampNeg) (xs (v1 + 2).toNatClampNeg) μ2) (fun v55 μ56 => gd (inb (v1 + 1) Ls) (gd (inb (v1 + 2) Ls) (bd (f_X8_at (xs (v1 + 1).toNatClampNeg) (xs (v1 + 2).toNatClampNeg) μ56) (fun v57 μ58 => (if v55 = v57 then
      J3 μ58
      else
      some (0, μ58))))))))
      else
      (if v6 = 13 then
      gd (inb (v1 + 1) Ls) (gd (inb (v1 + 2) Ls) (bd (f_X7_ofWagon (xs (v1 + 1).toNatClampNeg) (xs (v1 + 2).toNatClampNeg) μ2) (fun v59 μ60 => gd (inb (v1 + 1) Ls) (gd (inb (v1 + 2) Ls) (bd (f_X8_ofWagon (xs (v1 + 1).toNatClampNeg) (xs (v1 + 2).toNatClampNeg) μ60) (fun v61 μ62 => (if v59 = v61 then
      J3 μ62
      else
      some (0, μ62))))))))
      else
      (if v6 = 14 then
      gd (inb (v1 + 1) Ls) (gd (inb (v1 + 2) Ls) (bd (f_X7_ofTrain (xs (v1 + 1).toNatClampNeg) (xs (v1 + 2).toNatClampNeg) μ2) (fun v63 μ64 => gd (inb (v1 + 1) Ls) (gd (inb (v1 + 2) Ls) (bd (f_X8_ofTrain (xs (v1 + 1).toNatClampNeg) (xs (v1 + 2).toNatClampNeg) μ64) (fun v65 μ66 => (if v63 = v65 then
      J3 μ66
      else
      some (0, μ66))))))))
      else
      (if v6 = 15 then
      gd (inb (v1 + 1) Ls) (bd (f_X7_count (xs (v1 + 1).toNatClampNeg) μ2) (fun v67 μ68 => gd (inb (v1 + 1) Ls) (bd (f_X8_count (xs (v1 + 1).toNatClampNeg) μ68) (fun v69 μ70 => (if v67 = v69 then
      J3 μ70
      else
      some (0, μ70))))))
      else
      (if v6 = 16 then
      gd (inb (v1 + 1) Ls) (bd (f_X7_freeFrom (xs (v1 + 1).toNatClampNeg) μ2) (fun v71 μ72 => gd (inb (v1 + 1) Ls) (bd (f_X8_freeFrom (xs (v1 + 1).toNatClampNeg) μ72) (fun v73 μ74 => (if v71 = v73 then
      J3 μ74
      else
      some (0, μ74))))))
      else
      (if v6 = 17 then
      gd (inb (v1 + 1) Ls) (bd (f_X7_straight (xs (v1 + 1).toNatClampNeg) μ2) (fun v75 μ76 => gd (inb (v1 + 1) Ls) (bd (f_X8_straight (xs (v1 + 1).toNatClampNeg) μ76) (fun v77 μ78 => (if v75 = v77 then
      J3 μ78
      else
      some (0, μ78))))))
      else
      (if v6 = 18 then
      gd (inb (v1 + 1) Ls) (bd (f_X7_pulls (xs (v1 + 1).toNatClampNeg) μ2) (fun v79 μ80 => gd (inb (v1 + 1) Ls) (bd (f_X8_pulls (xs (v1 + 1).toNatClampNeg) μ80) (fun v81 μ82 => (if v79 = v81 then
      J3 μ82
      else
      some (0, μ82))))))
      else
      (if v6 = 19 then
      gd (inb (v1 + 1) Ls) (bd (f_X7_wouldLeave (xs (v1 + 1).toNatClampNeg) μ2) (fun v83 μ84 => gd (inb (v1 + 1) Ls) (bd (f_X8_wouldLeave (xs (v1 + 1).toNatClampNeg) μ84) (fun v85 μ86 => (if v83 = v85 then
      J3 μ86
      else
      some (0, μ86))))))
      else
      (if v6 = 20 then
      gd (inb (v1 + 1) Ls) (bd (f_X7_moves (xs (v1 + 1).toNatClampNeg) μ2) (fun v87 μ88 => gd (inb (v1 + 1) Ls) (bd (f_X8_moves (xs (v1 + 1).toNatClampNeg) μ88) (fun v89 μ90 => (if v87 = v89 then
      J3 μ90
      else
      some (0, μ90))))))
      else
      (if v6 = 21 then
      bd (f_X7_roomFor μ2) (fun v91 μ92 => bd (f_X8_roomFor μ92) (fun v93 μ94 => (if v91 = v93 then
      J3 μ94
      else
      some (0, μ94))))
      else
      (if v6 = 22 then
      bd (f_X7_buried μ2) (fun v95 μ96 => bd (f_X8_buried μ96) (fun v97 μ98 => (if v95 = v97 then
      J3 μ98
      else
      some (0, μ98))))
      else
      (if v6 = 23 then
      gd (inb (v1 + 1) Ls) (gd (inb (v1 + 2) Ls) (bd (f_X7_put ((shlL ((xs (v1 + 1).toNatClampNeg).toInt64) 32) ||| (((xs (v1 + 2).toNatClampNeg).toInt64) &&& 4294967295)) μ2) (fun v99 μ100 => gd (inb (v1 + 1) Ls) (gd (inb (v1 + 2) Ls) (bd (f_X8_put ((shlL ((xs (v1 + 1).toNatClampNeg).toInt64) 32) ||| (((xs (v1 + 2).toNatClampNeg).toInt64) &&& 4294967295)) μ100) (fun v101 μ102 => (if v99 = v101 then
      J3 μ102
      else
      some (0, μ102))))))))
      else
      (if v6 = 24 then
      bd (f_X7_wipe μ2) (fun v103 μ104 => bd (f_X8_wipe μ104) (fun v105 μ106 => (if v103 = v105 then
      J3 μ106
      else
      some (0, μ106))))
      else
      (if v6 = 25 then
      bd (f_X7_fault μ2) (fun v107 μ108 => bd (f_X8_fault μ108) (fun v109 μ110 => (if v107 = v109 then
      J3 μ110
      else
      some (0, μ110))))
      else
      (if v6 = 26 then
      bd (f_X7_carryOut μ2) (fun v111 μ112 => bd (f_X8_carryOut μ112) (fun v113 μ114 => (if v111 = v113 then
      J3 μ114
      else
      some (0, μ114))))
      else
      (if v6 = 27 then
      bd (f_X7_undo μ2) (fun v115 μ116 => bd (f_X8_undo μ116) (fun v117 μ118 => (if v115 = v117 then
      J3 μ118
      else
      some (0, μ118))))
      else
      (if v6 = 28 then
      gd (inb (v1 + 1) Ls) (bd (f_X7_save (xs (v1 + 1).toNatClampNeg) μ2) (fun v119 μ120 => gd (inb (v1 + 1) Ls) (bd (f_X8_save (xs (v1 + 1).toNatClampNeg) μ120) (fun v121 μ122 => (if v119 = v121 then
      J3 μ122
      else
      some (0, μ122))))))
      else
      (if v6 = 29 then
      gd (inb (v1 + 1) Ls) (bd (f_X7_restore (xs (v1 + 1).toNatClampNeg) μ2) (fun v123 μ124 => gd (inb (v1 + 1) Ls) (bd (f_X8_restore (xs (v1 + 1).toNatClampNeg) μ124) (fun v125 μ126 => (if v123 = v125 then
      J3 μ126
      else
      some (0, μ126))))))
      else
      J3 μ2))))))))))))))))))))))))))))))))))
def f_L_law (xs : Nat → Int32) (Ls : Nat) (μ : mT) : Option (Int32 × mT) :=
  f_L_law_L18 xs Ls fu 0 μ
