def isB (x : Int32) : Bool := decide (x = 0 ∨ x = 1)
theorem isB_n {x : Int32} (h : isB x = true) : narrow .boolean (.int x) = .int x := by
  rcases of_decide_eq_true h with rfl | rfl <;> decide
theorem isB_f {x : Int32} (h : isB x = true) : fits .boolean (.int x) = true := by
  rcases of_decide_eq_true h with rfl | rfl <;> decide
def cpk (sp dp m : Int32) (n0 n : Nat) : Bool := decide ((¬ sp < 0 ∧ ¬ dp < 0) ∧ ¬ m < 0 ∧ sp.toNatClampNeg + m.toNatClampNeg ≤ n0 ∧ dp.toNatClampNeg + m.toNatClampNeg ≤ n)
theorem cpk_1 {sp dp m : Int32} {n0 n : Nat} (h : cpk sp dp m n0 n = true) : ¬ sp < 0 := (of_decide_eq_true h).1.1
theorem cpk_2 {sp dp m : Int32} {n0 n : Nat} (h : cpk sp dp m n0 n = true) : ¬ dp < 0 := (of_decide_eq_true h).1.2
theorem cpk_3 {sp dp m : Int32} {n0 n : Nat} (h : cpk sp dp m n0 n = true) : ¬ m < 0 := (of_decide_eq_true h).2.1
theorem cpk_4 {sp dp m : Int32} {n0 n : Nat} (h : cpk sp dp m n0 n = true) : sp.toNatClampNeg + m.toNatClampNeg ≤ n0 := (of_decide_eq_true h).2.2.1
theorem cpk_5 {sp dp m : Int32} {n0 n : Nat} (h : cpk sp dp m n0 n = true) : dp.toNatClampNeg + m.toNatClampNeg ≤ n := (of_decide_eq_true h).2.2.2
theorem i_ne {x c : Int32} {n : Int} (hn : c.toInt = n) (h : ¬ x = c) : ¬ x.toInt = n := fun e => h (Int32.toInt_inj.mp (e.trans hn.symm))
theorem tr_tabD {X : xT} {own : String} {cc : ByteArray} {F L : Nat} {Γ : gT} (hO : Ok X own cc F L Γ) (pc : Nat) {μ : mT} {lv : List (Nat × Value)} {st : List Value} {dflt lo hi : Int} {offs : Array Int} {len : Nat} {x : Int32} (tgt : Nat) (h : x.toInt < lo ∨ hi < x.toInt ∨ (lo ≤ x.toInt ∧ x.toInt ≤ hi ∧ offs[(x.toInt - lo).toNat]? = some dflt)) (ht : (pc : Int) + dflt = (tgt : Int)) (d : decode cc pc = .ok (.tableswitch dflt lo hi offs, len)) (k : tj X Γ μ tgt lv st) : tj X Γ μ pc lv (.int x :: st) := by
  rcases h with h | h | ⟨h1, h2, h3⟩
  · exact tr_tabOut hO pc tgt (Or.inl h) ht d k
  · exact tr_tabOut hO pc tgt (Or.inr h) ht d k
  · exact tr_tabIn hO pc tgt (Int.not_lt.mpr h1) (Int.not_lt.mpr h2) h3 ht d k
theorem tr_sub {X : xT} {Γ : gT} {μ : mT} {pc : Nat} {lv lv' : List (Nat × Value)} {st : List Value} (ks : List Nat) (h : lv_pick lv ks = lv') (k : tj X Γ μ pc lv' st) : tj X Γ μ pc lv st := by
  obtain ⟨p, l, e, R, s, m, args, below, meth, c, kc, ks', Q, nL⟩ := Γ
  intro H locs la hP hS hl
  exact k H locs la hP hS (lv_sub hl ks h)
def f_X0_copyFrom (j : Nat) (j2 : Nat) (μ : mT) : Option (Int32 × mT) :=
  lt (upM μ 2 j 0 (μ 2 j2 0)) (fun μ1 => lt (upR μ1 13 j (va_cpy (μ1 13 j2) (μ1 13 j) (0 : Int32).toNatClampNeg (0 : Int32).toNatClampNeg (10 : Int32).toNatClampNeg)) (fun μ2 => lt (upR μ2 14 j (va_cpy (μ2 14 j2) (μ2 14 j) (0 : Int32).toNatClampNeg (0 : Int32).toNatClampNeg (10 : Int32).toNatClampNeg)) (fun μ3 => some (0, μ3))))
def f_X0_add (j : Nat) (a1 : Int32) (a2 : Int32) (μ : mT) : Option (Int32 × mT) :=
  gd (inb (μ 2 j 0) 10) (lt (upM μ 13 j (μ 2 j 0).toNatClampNeg a1) (fun μ1 => gd (inb (μ1 2 j 0) 10) (lt (upM μ1 14 j (μ1 2 j 0).toNatClampNeg a2) (fun μ2 => lt (upM μ2 2 j 0 ((μ2 2 j 0) + 1)) (fun μ3 => some (μ3 2 j 0, μ3))))))
def f_X0_dropEnded_L4 (j : Nat) (a1 : Int32) : Nat → Int32 → Int32 → mT → Option (Int32 × mT)
  | 0, _, _, _ => none
  | n + 1, v1, v2, μ3 =>
      (if (μ3 2 j 0) ≤ v2 then
      lt (upM μ3 2 j 0 v1) (fun μ4 => some (0, μ4))
      else
      gd (inb v2 10) (lt (fun (v6 : Int32) (μ7 : mT) => 
      lt (v2 + 1 : Int32) (fun v8 => f_X0_dropEnded_L4 j a1 n v6 v8 μ7)) (fun J5 =>
      (if (μ3 14 j v2.toNatClampNeg) ≤ a1 then
      J5 v1 μ3
      else
      gd (inb v2 10) (gd (inb v1 10) (lt (upM μ3 13 j v1.toNatClampNeg (μ3 13 j v2.toNatClampNeg)) (fun μ9 => gd (inb v2 10) (gd (inb v1 10) (lt (upM μ9 14 j v1.toNatClampNeg (μ9 14 j v2.toNatClampNeg)) (fun μ10 => lt (v1 + 1 : Int32) (fun v11 => J5 v11 μ10)))))))))))
def f_X0_dropEnded (j : Nat) (a1 : Int32) (μ : mT) : Option (Int32 × mT) :=
  f_X0_dropEnded_L4 j a1 fu 0 0 μ
def f_X0_firstFree_L17 (j : Nat) (a2 : Int32) (v2 : Int32) (K7 : Int32 → mT → Option (Int32 × mT)) : Nat → Int32 → Int32 → mT → Option (Int32 × mT)
  | 0, _, _, _ => none
  | n + 1, v4, v5, μ6 =>
      (if (μ6 2 j 0) ≤ v5 then
      K7 v4 μ6
      else
      gd (inb v5 10) (lt (fun (v12 : Int32) (μ13 : mT) => 
      lt (v5 + 1 : Int32) (fun v14 => f_X0_firstFree_L17 j a2 v2 K7 n v12 v14 μ13)) (fun J11 =>
      (if (v4 + a2) ≤ (μ6 13 j v5.toNatClampNeg) then
      J11 v4 μ6
      else
      gd (inb v5 10) ((if (μ6 14 j v5.toNatClampNeg) ≤ v4 then
      J11 v4 μ6
      else
      gd (inb v5 10) (lt (μ6 14 j v5.toNatClampNeg : Int32) (fun v15 => J11 v15 μ6))))))))
def f_X0_firstFree_L5 (j : Nat) (a2 : Int32) : Nat → Int32 → Int32 → mT → Option (Int32 × mT)
  | 0, _, _, _ => none
  | n + 1, v1, v2, μ3 =>
      (if (μ3 2 j 0) ≤ v2 then
      some (v1, μ3)
      else
      lt (fun (v8 : Int32) (μ9 : mT) =>
      lt (v2 + 1 : Int32) (fun v10 => f_X0_firstFree_L5 j a2 n v8 v10 μ9)) (fun K7 =>
      f_X0_firstFree_L17 j a2 v2 K7 fu v1 0 μ3))
def f_X0_firstFree (j : Nat) (a1 : Int32) (a2 : Int32) (μ : mT) : Option (Int32 × mT) :=
  f_X0_firstFree_L5 j a2 fu a1 0 μ
def f_X5_copyFrom (j : Nat) (j2 : Nat) (μ : mT) : Option (Int32 × mT) :=
  lt (upM μ 1 j 0 (μ 1 j2 0)) (fun μ1 => lt (upM μ1 1 j 1 (μ1 1 j2 1)) (fun μ2 => lt (upR μ2 8 j (va_cpy (μ2 8 j2) (μ2 8 j) (0 : Int32).toNatClampNeg (0 : Int32).toNatClampNeg (30 : Int32).toNatClampNeg)) (fun μ3 => lt (upR μ3 9 j (va_cpy (μ3 9 j2) (μ3 9 j) (0 : Int32).toNatClampNeg (0 : Int32).toNatClampNeg (30 : Int32).toNatClampNeg)) (fun μ4 => lt (upR μ4 10 j (va_cpy (μ4 10 j2) (μ4 10 j) (0 : Int32).toNatClampNeg (0 : Int32).toNatClampNeg (30 : Int32).toNatClampNeg)) (fun μ5 => lt (upR μ5 11 j (va_cpy (μ5 11 j2) (μ5 11 j) (0 : Int32).toNatClampNeg (0 : Int32).toNatClampNeg (9 : Int32).toNatClampNeg)) (fun μ6 => lt (upR μ6 12 j (va_cpy (μ6 12 j2) (μ6 12 j) (0 : Int32).toNatClampNeg (0 : Int32).toNatClampNeg (270 : Int32).toNatClampNeg)) (fun μ7 => some (0, μ7))))))))
def f_X3_copyFrom (j : Nat) (j2 : Nat) (μ : mT) : Option (Int32 × mT) :=
  lt (upM μ 3 j 0 (μ 3 j2 0)) (fun μ1 => lt (upR μ1 15 j (va_cpy (μ1 15 j2) (μ1 15 j) (0 : Int32).toNatClampNeg (0 : Int32).toNatClampNeg (8 : Int32).toNatClampNeg)) (fun μ2 => lt (upR μ2 16 j (va_cpy (μ2 16 j2) (μ2 16 j) (0 : Int32).toNatClampNeg (0 : Int32).toNatClampNeg (8 : Int32).toNatClampNeg)) (fun μ3 => lt (upR μ3 17 j (va_cpy (μ3 17 j2) (μ3 17 j) (0 : Int32).toNatClampNeg (0 : Int32).toNatClampNeg (64 : Int32).toNatClampNeg)) (fun μ4 => some (0, μ4)))))
def f_X6_copyFrom (j : Nat) (j2 : Nat) (μ : mT) : Option (Int32 × mT) :=
  lt (upM μ 0 j 0 (μ 0 j2 0)) (fun μ1 => lt (upM μ1 0 j 1 (μ1 0 j2 1)) (fun μ2 => lt (upM μ2 0 j 2 (μ2 0 j2 2)) (fun μ3 => lt (upM μ3 0 j 3 (μ3 0 j2 3)) (fun μ4 => lt (upM μ4 0 j 4 (μ4 0 j2 4)) (fun μ5 => lt (upM μ5 0 j 5 (μ5 0 j2 5)) (fun μ6 => lt (upR μ6 4 j (va_cpy (μ6 4 j2) (μ6 4 j) (0 : Int32).toNatClampNeg (0 : Int32).toNatClampNeg (6 : Int32).toNatClampNeg)) (fun μ7 => lt (upM μ7 0 j 7 (μ7 0 j2 7)) (fun μ8 => lt (upR μ8 5 j (va_cpy (μ8 5 j2) (μ8 5 j) (0 : Int32).toNatClampNeg (0 : Int32).toNatClampNeg (8 : Int32).toNatClampNeg)) (fun μ9 => lt (upR μ9 6 j (va_cpy (μ9 6 j2) (μ9 6 j) (0 : Int32).toNatClampNeg (0 : Int32).toNatClampNeg (8 : Int32).toNatClampNeg)) (fun μ10 => lt (upR μ10 7 j (va_cpy (μ10 7 j2) (μ10 7 j) (0 : Int32).toNatClampNeg (0 : Int32).toNatClampNeg (8 : Int32).toNatClampNeg)) (fun μ11 => bd (f_X5_copyFrom j j2 μ11) (fun _ μ13 => bd (f_X0_copyFrom j j2 μ13) (fun _ μ15 => bd (f_X3_copyFrom j j2 μ15) (fun _ μ17 => some (0, μ17)))))))))))))))
def f_X1_note (j2 : Nat) (μ : mT) : Option (Int32 × mT) :=
  gd (inb (μ 19 0 0) 7) (lt (μ 22 0 (μ 19 0 0).toNatClampNeg).toNatClampNeg (fun jj1 => gd (decide (jj1 < 11)) (bd (f_X6_copyFrom jj1 j2 μ) (fun _ μ3 => some (0, μ3)))))
def f_X1_dropOldest_L9 (jj1 : Nat) (K4 : mT → Option (Int32 × mT)) : Nat → Int32 → mT → Option (Int32 × mT)
  | 0, _, _ => none
  | n + 1, v2, μ3 =>
      (if 6 ≤ v2 then
      K4 μ3
      else
      gd (inb (v2 + 1) 7) (lt (μ3 22 0 (v2 + 1).toNatClampNeg).toNatClampNeg (fun jj7 => gd (decide (jj7 < 11)) (gd (inb v2 7) (lt (upM μ3 22 0 v2.toNatClampNeg (nI jj7)) (fun μ8 => lt (v2 + 1 : Int32) (fun v9 => f_X1_dropOldest_L9 jj1 K4 n v9 μ8)))))))
def f_X1_dropOldest  (μ : mT) : Option (Int32 × mT) :=
  lt (μ 22 0 (0 : Int32).toNatClampNeg).toNatClampNeg (fun jj1 => gd (decide (jj1 < 11)) (lt (fun (μ5 : mT) =>
  lt (upM μ5 22 0 (6 : Int32).toNatClampNeg (nI jj1)) (fun μ6 => some (0, μ6))) (fun K4 =>
  f_X1_dropOldest_L9 jj1 K4 fu 0 μ)))
def f_X1_kept (a1 : Int32) (μ : mT) : Option (Int32 × mT) :=
  (if (0 : Int32) ≤ a1 then
  (if 6 ≤ (μ 19 0 0) then
  bd (f_X1_dropOldest μ) (fun _ μ2 => some (a1, μ2))
  else
  lt (upM μ 19 0 0 ((μ 19 0 0) + 1)) (fun μ3 => some (a1, μ3)))
  else
  some (a1, μ))
def f_X3_has (j : Nat) (a1 : Int32) (μ : mT) : Option (Int32 × mT) :=
  (if a1 < 0 then
  some (0, μ)
  else
  (if (μ 3 j 0) ≤ a1 then
  some (0, μ)
  else
  some (1, μ)))
def f_X3_sizeOf (j : Nat) (a1 : Int32) (μ : mT) : Option (Int32 × mT) :=
  bd (f_X3_has j a1 μ) (fun v1 μ2 => (if v1 = 0 then
  some (0, μ2)
  else
  gd (inb a1 8) (some (μ2 16 j a1.toNatClampNeg, μ2))))
def f_X3_wagonOf (j : Nat) (a1 : Int32) (a2 : Int32) (μ : mT) : Option (Int32 × mT) :=
  bd (f_X3_has j a1 μ) (fun v1 μ2 => lt (fun (v4 : Int32) (μ5 : mT) => 
  (if v4 = 0 then
  some ((-6), μ5)
  else
  gd (inb ((a1 * 8) + a2) 64) (some (μ5 17 j ((a1 * 8) + a2).toNatClampNeg, μ5)))) (fun J3 =>
  lt (fun (μ7 : mT) => 
  J3 0 μ7) (fun J6 =>
  (if v1 = 0 then
  J6 μ2
  else
  (if a2 < 0 then
  J6 μ2
  else
  gd (inb a1 8) ((if (μ2 16 j a1.toNatClampNeg) ≤ a2 then
  J6 μ2
  else
  J3 1 μ2)))))))
def f_X3_trainOf_L12 (j : Nat) (a1 : Int32) (v1 : Int32) (K5 : mT → Option (Int32 × mT)) : Nat → Int32 → mT → Option (Int32 × mT)
  | 0, _, _ => none
  | n + 1, v3, μ4 =>
      gd (inb v1 8) ((if (μ4 16 j v1.toNatClampNeg) ≤ v3 then
      K5 μ4
      else
      gd (inb ((v1 * 8) + v3) 64) ((if (μ4 17 j ((v1 * 8) + v3).toNatClampNeg) = a1 then
      some (v1, μ4)
      else
      lt (v3 + 1 : Int32) (fun v8 => f_X3_trainOf_L12 j a1 v1 K5 n v8 μ4)))))
def f_X3_trainOf_L2 (j : Nat) (a1 : Int32) : Nat → Int32 → mT → Option (Int32 × mT)
  | 0, _, _ => none
  | n + 1, v1, μ2 =>
      (if (μ2 3 j 0) ≤ v1 then
      some ((-6), μ2)
      else
      lt (fun (μ6 : mT) =>
      lt (v1 + 1 : Int32) (fun v7 => f_X3_trainOf_L2 j a1 n v7 μ6)) (fun K5 =>
      f_X3_trainOf_L12 j a1 v1 K5 fu 0 μ2))
def f_X3_trainOf (j : Nat) (a1 : Int32) (μ : mT) : Option (Int32 × mT) :=
  f_X3_trainOf_L2 j a1 fu 0 μ
def f_X3_add (j : Nat) (a2 : Int32) (a3 : Int32) (μ : mT) : Option (Int32 × mT) :=
  gd (inb (μ 3 j 0) 8) (lt (upM μ 15 j (μ 3 j 0).toNatClampNeg a3) (fun μ1 => gd (inb (μ1 3 j 0) 8) (lt (upM μ1 16 j (μ1 3 j 0).toNatClampNeg a2) (fun μ2 => gd (cpk 0 ((μ2 3 j 0) * 8) a2 8 64) (lt (upR μ2 17 j (va_cpy (μ2 26 0) (μ2 17 j) (0 : Int32).toNatClampNeg ((μ2 3 j 0) * 8).toNatClampNeg a2.toNatClampNeg)) (fun μ3 => lt (upM μ3 3 j 0 ((μ3 3 j 0) + 1)) (fun μ4 => some ((μ4 3 j 0) - 1, μ4))))))))
def f_X3_remove_L12 (j : Nat) : Nat → Int32 → mT → Option (Int32 × mT)
  | 0, _, _ => none
  | n + 1, v2, μ3 =>
      (if (μ3 3 j 0) ≤ v2 then
      some (0, μ3)
      else
      gd (inb (v2 + 1) 8) (gd (inb v2 8) (lt (upM μ3 15 j v2.toNatClampNeg (μ3 15 j (v2 + 1).toNatClampNeg)) (fun μ4 => gd (inb (v2 + 1) 8) (gd (inb v2 8) (lt (upM μ4 16 j v2.toNatClampNeg (μ4 16 j (v2 + 1).toNatClampNeg)) (fun μ5 => gd (cpk ((v2 + 1) * 8) (v2 * 8) 8 64 64) (lt (upR μ5 17 j (va_cpy (μ5 17 j) (μ5 17 j) ((v2 + 1) * 8).toNatClampNeg (v2 * 8).toNatClampNeg (8 : Int32).toNatClampNeg)) (fun μ6 => lt (v2 + 1 : Int32) (fun v7 => f_X3_remove_L12 j n v7 μ6))))))))))
def f_X3_remove (j : Nat) (a1 : Int32) (μ : mT) : Option (Int32 × mT) :=
  lt (upM μ 3 j 0 ((μ 3 j 0) - 1)) (fun μ1 => f_X3_remove_L12 j fu a1 μ1)
def f_X5_manyIn (j : Nat) (a1 : Int32) (μ : mT) : Option (Int32 × mT) :=
  gd (inb a1 9) (some (μ 11 j a1.toNatClampNeg, μ))
def f_X5_wagonAt (j : Nat) (a1 : Int32) (a2 : Int32) (μ : mT) : Option (Int32 × mT) :=
  (if a2 < 0 then
  some ((-6), μ)
  else
  gd (inb a1 9) ((if a2 < (μ 11 j a1.toNatClampNeg) then
  lt (fun (v2 : Int32) (μ3 : mT) => 
  gd (inb ((a1 * 30) + v2) 270) (some (μ3 12 j ((a1 * 30) + v2).toNatClampNeg, μ3))) (fun J1 =>
  (if a1 = 8 then
  J1 a2 μ
  else
  gd (inb a1 9) (J1 (((μ 11 j a1.toNatClampNeg) - 1) - a2) μ)))
  else
  some ((-6), μ))))
def f_X6_manyAlike_L23 (j : Nat) (a1 : Int32) (v5 : Int32) : Nat → Int32 → mT → Option (Int32 × mT)
  | 0, _, _ => none
  | n + 1, v6, μ7 =>
      (if v5 ≤ v6 then
      some (v5, μ7)
      else
      bd (f_X5_wagonAt j 8 v6 μ7) (fun v8 μ9 => bd (f_X3_wagonOf j a1 v6 μ9) (fun v10 μ11 => (if v8 = v10 then
      lt (v6 + 1 : Int32) (fun v12 => f_X6_manyAlike_L23 j a1 v5 n v12 μ11)
      else
      some (v6, μ11)))))
def f_X6_manyAlike (j : Nat) (a1 : Int32) (μ : mT) : Option (Int32 × mT) :=
  bd (f_X5_manyIn j 8 μ) (fun v1 μ2 => bd (f_X3_sizeOf j a1 μ2) (fun v3 μ4 => lt (if v3 < v1 then v3 else v1 : Int32) (fun v5 => f_X6_manyAlike_L23 j a1 v5 fu 0 μ4)))
def f_X5_placeIn_L10 (j : Nat) (a1 : Int32) (a2 : Int32) (v1 : Int32) (K4 : Int32 → mT → Option (Int32 × mT)) : Nat → Int32 → mT → Option (Int32 × mT)
  | 0, _, _ => none
  | n + 1, v2, μ3 =>
      (if v1 ≤ v2 then
      some ((-6), μ3)
      else
      gd (inb ((a1 * 30) + v2) 270) ((if (μ3 12 j ((a1 * 30) + v2).toNatClampNeg) = a2 then
      K4 v2 μ3
      else
      lt (v2 + 1 : Int32) (fun v7 => f_X5_placeIn_L10 j a1 a2 v1 K4 n v7 μ3))))
def f_X5_placeIn (j : Nat) (a1 : Int32) (a2 : Int32) (μ : mT) : Option (Int32 × mT) :=
  gd (inb a1 9) (lt (μ 11 j a1.toNatClampNeg : Int32) (fun v1 => lt (fun (v5 : Int32) (μ6 : mT) =>
  (if a1 = 8 then
  some (v5, μ6)
  else
  some ((v1 - 1) - v5, μ6))) (fun K4 =>
  f_X5_placeIn_L10 j a1 a2 v1 K4 fu 0 μ)))
def f_X5_rowOf_L2 (j : Nat) (a1 : Int32) : Nat → Int32 → mT → Option (Int32 × mT)
  | 0, _, _ => none
  | n + 1, v1, μ2 =>
      (if 9 ≤ v1 then
      some ((-6), μ2)
      else
      bd (f_X5_placeIn j v1 a1 μ2) (fun v3 μ4 => (if v3 = ((-6)) then
      lt (v1 + 1 : Int32) (fun v5 => f_X5_rowOf_L2 j a1 n v5 μ4)
      else
      some (v1, μ4))))
def f_X5_rowOf (j : Nat) (a1 : Int32) (μ : mT) : Option (Int32 × mT) :=
  f_X5_rowOf_L2 j a1 fu 0 μ
def f_X4_trackOfNext (a1 : Int32) (a2 : Int32) (μ : mT) : Option (Int32 × mT) :=
  bd (f_X3_wagonOf 1 a1 a2 μ) (fun v1 μ2 => bd (f_X5_rowOf 1 v1 μ2) (fun v3 μ4 => (if v3 = 8 then
  some ((-6), μ4)
  else
  some (v3, μ4))))
def f_X4_manyNext_L32 (a1 : Int32) (a2 : Int32) (a3 : Int32) (v5 : Int32) : Nat → Int32 → mT → Option (Int32 × mT)
  | 0, _, _ => none
  | n + 1, v6, μ7 =>
      (if v5 ≤ v6 then
      some (v5, μ7)
      else
      bd (f_X5_wagonAt 1 a3 v6 μ7) (fun v8 μ9 => bd (f_X3_wagonOf 1 a1 (a2 + v6) μ9) (fun v10 μ11 => (if v8 = v10 then
      lt (v6 + 1 : Int32) (fun v12 => f_X4_manyNext_L32 a1 a2 a3 v5 n v12 μ11)
      else
      some (v6, μ11)))))
def f_X4_manyNext (a1 : Int32) (a2 : Int32) (a3 : Int32) (μ : mT) : Option (Int32 × mT) :=
  bd (f_X5_manyIn 1 a3 μ) (fun v1 μ2 => bd (f_X3_sizeOf 1 a1 μ2) (fun v3 μ4 => lt (if (v3 - a2) < v1 then (v3 - a2) else v1 : Int32) (fun v5 => f_X4_manyNext_L32 a1 a2 a3 v5 fu 0 μ4)))
def f_X5_shift_L15 (j : Nat) (a1 : Int32) (a2 : Int32) (v1 : Int32) : Nat → Int32 → mT → Option (Int32 × mT)
  | 0, _, _ => none
  | n + 1, v2, μ3 =>
      (if v1 ≤ v2 then
      some (0, μ3)
      else
      gd (inb a1 9) (gd (inb a1 9) (lt (upM μ3 11 j a1.toNatClampNeg ((μ3 11 j a1.toNatClampNeg) - 1)) (fun μ4 => gd (inb a2 9) (gd (inb a1 9) (gd (inb ((a1 * 30) + (μ4 11 j a1.toNatClampNeg)) 270) (gd (inb ((a2 * 30) + (μ4 11 j a2.toNatClampNeg)) 270) (lt (upM μ4 12 j ((a2 * 30) + (μ4 11 j a2.toNatClampNeg)).toNatClampNeg (μ4 12 j ((a1 * 30) + (μ4 11 j a1.toNatClampNeg)).toNatClampNeg)) (fun μ5 => gd (inb a2 9) (gd (inb a2 9) (lt (upM μ5 11 j a2.toNatClampNeg ((μ5 11 j a2.toNatClampNeg) + 1)) (fun μ6 => lt (v2 + 1 : Int32) (fun v7 => f_X5_shift_L15 j a1 a2 v1 n v7 μ6)))))))))))))
def f_X5_shift (j : Nat) (a1 : Int32) (a2 : Int32) (a3 : Int32) (μ : mT) : Option (Int32 × mT) :=
  gd (inb a1 9) (lt (if (μ 11 j a1.toNatClampNeg) < a3 then (μ 11 j a1.toNatClampNeg) else a3 : Int32) (fun v1 => f_X5_shift_L15 j a1 a2 v1 fu 0 μ))
def f_X5_notePulled_L16 (j : Nat) (a1 : Int32) (v1 : Int32) : Nat → Int32 → mT → Option (Int32 × mT)
  | 0, _, _ => none
  | n + 1, v2, μ3 =>
      (if a1 ≤ v2 then
      some (0, μ3)
      else
      (if (μ3 11 j (8 : Int32).toNatClampNeg) ≤ v2 then
      some (0, μ3)
      else
      gd (inb (v1 - v2) 270) (gd (inb (μ3 12 j (v1 - v2).toNatClampNeg) 30) (gd (inb (μ3 12 j (v1 - v2).toNatClampNeg) 30) (lt (upM μ3 10 j (μ3 12 j (v1 - v2).toNatClampNeg).toNatClampNeg ((μ3 10 j (μ3 12 j (v1 - v2).toNatClampNeg).toNatClampNeg) + 1)) (fun μ4 => lt (v2 + 1 : Int32) (fun v5 => f_X5_notePulled_L16 j a1 v1 n v5 μ4)))))))
def f_X5_notePulled (j : Nat) (a1 : Int32) (μ : mT) : Option (Int32 × mT) :=
  lt ((240 + (μ 11 j (8 : Int32).toNatClampNeg)) - 1 : Int32) (fun v1 => f_X5_notePulled_L16 j a1 v1 fu 0 μ)
def f_X6_comeTo (j : Nat) (a1 : Int32) (μ : mT) : Option (Int32 × mT) :=
  lt (upM μ 0 j 0 a1) (fun μ1 => bd (f_X0_dropEnded j a1 μ1) (fun _ μ3 => some (0, μ3)))
def f_X6_makeMove (j : Nat) (a1 : Int32) (a2 : Int32) (μ : mT) : Option (Int32 × mT) :=
  lt (a1 + (a2 * (μ 4 j (3 : Int32).toNatClampNeg)) : Int32) (fun v1 => bd (f_X0_firstFree j (μ 0 j 0) v1 μ) (fun v2 μ3 => lt (upM μ3 0 j 3 ((μ3 0 j 3) + (v2 - (μ3 0 j 0)))) (fun μ4 => lt (upM μ4 0 j 1 ((μ4 0 j 1) + a2)) (fun μ5 => lt (upM μ5 0 j 2 ((μ5 0 j 2) + 1)) (fun μ6 => bd (f_X6_comeTo j (v2 + v1) μ6) (fun _ μ8 => some (0, μ8)))))))
def f_X6_drawOut (j : Nat) (a1 : Int32) (a2 : Int32) (μ : mT) : Option (Int32 × mT) :=
  bd (f_X5_shift j a1 8 a2 μ) (fun _ μ2 => bd (f_X5_notePulled j a2 μ2) (fun _ μ4 => gd (inb a1 8) (gd (inb a1 8) (lt (upM μ4 6 j a1.toNatClampNeg ((μ4 6 j a1.toNatClampNeg) + a2)) (fun μ5 => bd (f_X5_manyIn j a1 μ5) (fun v6 μ7 => lt (fun (v9 : Int32) (μ10 : mT) => 
  bd (f_X6_makeMove j (μ5 4 j (2 : Int32).toNatClampNeg) v9 μ10) (fun _ μ12 => bd (f_X5_manyIn j 8 μ12) (fun v13 μ14 => some (v13, μ14)))) (fun J8 =>
  (if v6 ≤ 0 then
  J8 1 μ7
  else
  J8 2 μ7))))))))
def f_X4_fewestPulls_L36 (a2 : Int32) : Nat → Int32 → mT → Option (Int32 × mT)
  | 0, _, _ => none
  | n + 1, v7, μ8 =>
      (if 8 < v7 then
      some ((-6), μ8)
      else
      bd (f_X5_manyIn 1 8 μ8) (fun v9 μ10 => bd (f_X3_sizeOf 1 a2 μ10) (fun v11 μ12 => (if v9 = v11 then
      some (v7, μ12)
      else
      bd (f_X4_trackOfNext a2 v9 μ12) (fun v13 μ14 => lt (fun (v16 : Int32) (μ17 : mT) => 
      (if v16 = 0 then
      some ((-6), μ17)
      else
      bd (f_X6_drawOut 1 v13 v16 μ17) (fun v18 μ19 => lt (v7 + 1 : Int32) (fun v20 => f_X4_fewestPulls_L36 a2 n v20 μ19)))) (fun J15 =>
      (if v13 = ((-6)) then
      J15 0 μ14
      else
      bd (f_X4_manyNext a2 v9 v13 μ14) (fun v21 μ22 => J15 v21 μ22))))))))
def f_X4_fewestPulls (j2 : Nat) (a2 : Int32) (μ : mT) : Option (Int32 × mT) :=
  bd (f_X6_copyFrom 1 j2 μ) (fun _ μ2 => bd (f_X6_manyAlike 1 a2 μ2) (fun v3 μ4 => bd (f_X5_manyIn 1 8 μ4) (fun v5 μ6 => (if v3 = v5 then
  f_X4_fewestPulls_L36 a2 fu 0 μ6
  else
  some ((-6), μ6)))))
def f_X6_couldLeave (j : Nat) (a1 : Int32) (μ : mT) : Option (Int32 × mT) :=
  bd (f_X3_sizeOf j a1 μ) (fun v1 μ2 => bd (f_X5_manyIn j 8 μ2) (fun v3 μ4 => (if v3 = v1 then
  bd (f_X6_manyAlike j a1 μ4) (fun v5 μ6 => (if v5 = v1 then
  some (1, μ6)
  else
  some (0, μ6)))
  else
  some (0, μ4))))
def f_X5_lengthOfRow_L4 (j : Nat) (a1 : Int32) : Nat → Int32 → Int32 → mT → Option (Int32 × mT)
  | 0, _, _, _ => none
  | n + 1, v1, v2, μ3 =>
      gd (inb a1 9) ((if (μ3 11 j a1.toNatClampNeg) ≤ v2 then
      some (v1, μ3)
      else
      gd (inb ((a1 * 30) + v2) 270) (gd (inb (μ3 12 j ((a1 * 30) + v2).toNatClampNeg) 30) (lt (v1 + (μ3 8 j (μ3 12 j ((a1 * 30) + v2).toNatClampNeg).toNatClampNeg) : Int32) (fun v4 => lt (v2 + 1 : Int32) (fun v5 => f_X5_lengthOfRow_L4 j a1 n v4 v5 μ3))))))
def f_X5_lengthOfRow (j : Nat) (a1 : Int32) (μ : mT) : Option (Int32 × mT) :=
  f_X5_lengthOfRow_L4 j a1 fu 0 0 μ
def f_X6_canGoRound (j : Nat) (μ : mT) : Option (Int32 × mT) :=
  bd (f_X5_manyIn j 8 μ) (fun v1 μ2 => (if v1 ≤ 0 then
  some (0, μ2)
  else
  bd (f_X5_lengthOfRow j 8 μ2) (fun v3 μ4 => (if (μ4 4 j (1 : Int32).toNatClampNeg) < v3 then
  some (0, μ4)
  else
  some (1, μ4)))))
def f_X4_isTurned_L14 (a1 : Int32) (v1 : Int32) : Nat → Int32 → mT → Option (Int32 × mT)
  | 0, _, _ => none
  | n + 1, v3, μ4 =>
      (if v1 ≤ v3 then
      some (1, μ4)
      else
      bd (f_X5_wagonAt 1 8 ((v1 - 1) - v3) μ4) (fun v5 μ6 => bd (f_X3_wagonOf 1 a1 v3 μ6) (fun v7 μ8 => (if v5 = v7 then
      lt (v3 + 1 : Int32) (fun v9 => f_X4_isTurned_L14 a1 v1 n v9 μ8)
      else
      some (0, μ8)))))
def f_X4_isTurned (a1 : Int32) (μ : mT) : Option (Int32 × mT) :=
  bd (f_X3_sizeOf 1 a1 μ) (fun v1 μ2 => f_X4_isTurned_L14 a1 v1 fu 0 μ2)
def f_X5_lengthOfLast_L20 (j : Nat) (a1 : Int32) (a2 : Int32) (v1 : Int32) : Nat → Int32 → Int32 → mT → Option (Int32 × mT)
  | 0, _, _, _ => none
  | n + 1, v2, v3, μ4 =>
      (if a2 ≤ v3 then
      some (v2, μ4)
      else
      gd (inb a1 9) ((if (μ4 11 j a1.toNatClampNeg) ≤ v3 then
      some (v2, μ4)
      else
      gd (inb (v1 - v3) 270) (gd (inb (μ4 12 j (v1 - v3).toNatClampNeg) 30) (lt (v2 + (μ4 8 j (μ4 12 j (v1 - v3).toNatClampNeg).toNatClampNeg) : Int32) (fun v5 => lt (v3 + 1 : Int32) (fun v6 => f_X5_lengthOfLast_L20 j a1 a2 v1 n v5 v6 μ4)))))))
def f_X5_lengthOfLast (j : Nat) (a1 : Int32) (a2 : Int32) (μ : mT) : Option (Int32 × mT) :=
  gd (inb a1 9) (lt (((a1 * 30) + (μ 11 j a1.toNatClampNeg)) - 1 : Int32) (fun v1 => f_X5_lengthOfLast_L20 j a1 a2 v1 fu 0 0 μ))
def f_X6_canBringIn (j : Nat) (a1 : Int32) (a2 : Int32) (μ : mT) : Option (Int32 × mT) :=
  bd (f_X5_manyIn j 8 μ) (fun v1 μ2 => (if v1 < a2 then
  some (0, μ2)
  else
  bd (f_X5_lengthOfRow j a1 μ2) (fun v3 μ4 => bd (f_X5_lengthOfLast j 8 a2 μ4) (fun v5 μ6 => gd (inb a1 8) ((if (μ6 5 j a1.toNatClampNeg) < (v3 + v5) then
  some (0, μ6)
  else
  some (1, μ6)))))))
def f_X6_tracksFor_L4 (j : Nat) (a1 : Int32) : Nat → Int32 → Int32 → mT → Option (Int32 × mT)
  | 0, _, _, _ => none
  | n + 1, v1, v2, μ3 =>
      (if (μ3 0 j 7) ≤ v2 then
      some (v1, μ3)
      else
      lt (fun (v5 : Int32) (μ6 : mT) => 
      lt (v2 + 1 : Int32) (fun v7 => f_X6_tracksFor_L4 j a1 n v5 v7 μ6)) (fun J4 =>
      (if a1 ≤ 0 then
      J4 v1 μ3
      else
      bd (f_X6_canBringIn j v2 a1 μ3) (fun v8 μ9 => (if v8 = 0 then
      J4 v1 μ9
      else
      lt (v1 ||| (1 <<< (v2 &&& 31)) : Int32) (fun v10 => J4 v10 μ9))))))
def f_X6_tracksFor (j : Nat) (a1 : Int32) (μ : mT) : Option (Int32 × mT) :=
  f_X6_tracksFor_L4 j a1 fu 0 0 μ
def f_X6_canTakeOut (j : Nat) (a1 : Int32) (a2 : Int32) (μ : mT) : Option (Int32 × mT) :=
  bd (f_X5_manyIn j a1 μ) (fun v1 μ2 => (if v1 < a2 then
  some (0, μ2)
  else
  bd (f_X5_lengthOfRow j 8 μ2) (fun v3 μ4 => bd (f_X5_lengthOfLast j a1 a2 μ4) (fun v5 μ6 => (if (μ6 4 j (0 : Int32).toNatClampNeg) < (v3 + v5) then
  some (0, μ6)
  else
  some (1, μ6))))))
def f_X4_couldAfterOne (a1 : Int32) (μ : mT) : Option (Int32 × mT) :=
  bd (f_X5_manyIn 1 8 μ) (fun v1 μ2 => bd (f_X3_sizeOf 1 a1 μ2) (fun v3 μ4 => (if v1 = v3 then
  bd (f_X6_canGoRound 1 μ4) (fun v16 μ17 => (if v16 = 0 then
  some (0, μ17)
  else
  bd (f_X4_isTurned a1 μ17) (fun v18 μ19 => (if v18 = 0 then
  some (0, μ19)
  else
  some (1, μ19)))))
  else
  bd (f_X6_manyAlike 1 a1 μ4) (fun v5 μ6 => (if (if v3 < v1 then v3 else v1) ≤ v5 then
  (if v1 ≤ v3 then
  bd (f_X4_trackOfNext a1 v1 μ6) (fun v7 μ8 => lt (v3 - v1 : Int32) (fun v9 => (if v7 = ((-6)) then
  some (0, μ8)
  else
  bd (f_X4_manyNext a1 v1 v7 μ8) (fun v10 μ11 => (if v10 = v9 then
  bd (f_X6_canTakeOut 1 v7 v9 μ11) (fun v12 μ13 => (if v12 = 0 then
  some (0, μ13)
  else
  some (1, μ13)))
  else
  some (0, μ11))))))
  else
  bd (f_X6_tracksFor 1 (v1 - v3) μ6) (fun v14 μ15 => (if v14 = 0 then
  some (0, μ15)
  else
  some (1, μ15))))
  else
  some (0, μ6))))))
def f_X4_couldAfterTakingOut_L18 (a1 : Int32) (a2 : Int32) (v1 : Int32) : Nat → Int32 → Int32 → mT → Option (Int32 × mT)
  | 0, _, _, _ => none
  | n + 1, v3, v4, μ5 =>
      (if v1 < v4 then
      gd (isB v3) (some (v3, μ5))
      else
      (if v3 = 0 then
      bd (f_X6_canTakeOut 1 a2 v4 μ5) (fun v6 μ7 => lt (fun (v9 : Int32) (μ10 : mT) => 
      lt (v4 + 1 : Int32) (fun v11 => f_X4_couldAfterTakingOut_L18 a1 a2 v1 n v9 v11 μ10)) (fun J8 =>
      (if v6 = 0 then
      J8 v3 μ7
      else
      bd (f_X5_shift 1 a2 8 v4 μ7) (fun _ μ13 => bd (f_X4_couldAfterOne a1 μ13) (fun v14 μ15 => bd (f_X5_shift 1 8 a2 v4 μ15) (fun _ μ17 => J8 v14 μ17))))))
      else
      gd (isB v3) (some (v3, μ5))))
def f_X4_couldAfterTakingOut (a1 : Int32) (a2 : Int32) (μ : mT) : Option (Int32 × mT) :=
  bd (f_X5_manyIn 1 a2 μ) (fun v1 μ2 => f_X4_couldAfterTakingOut_L18 a1 a2 v1 fu 0 1 μ2)
def f_X4_couldAfterBringingIn_L19 (a1 : Int32) (a2 : Int32) (v1 : Int32) : Nat → Int32 → Int32 → mT → Option (Int32 × mT)
  | 0, _, _, _ => none
  | n + 1, v3, v4, μ5 =>
      (if v1 < v4 then
      gd (isB v3) (some (v3, μ5))
      else
      (if v3 = 0 then
      bd (f_X6_canBringIn 1 a2 v4 μ5) (fun v6 μ7 => lt (fun (v9 : Int32) (μ10 : mT) => 
      lt (v4 + 1 : Int32) (fun v11 => f_X4_couldAfterBringingIn_L19 a1 a2 v1 n v9 v11 μ10)) (fun J8 =>
      (if v6 = 0 then
      J8 v3 μ7
      else
      bd (f_X5_shift 1 8 a2 v4 μ7) (fun _ μ13 => bd (f_X4_couldAfterOne a1 μ13) (fun v14 μ15 => bd (f_X5_shift 1 a2 8 v4 μ15) (fun _ μ17 => J8 v14 μ17))))))
      else
      gd (isB v3) (some (v3, μ5))))
def f_X4_couldAfterBringingIn (a1 : Int32) (a2 : Int32) (μ : mT) : Option (Int32 × mT) :=
  bd (f_X5_manyIn 1 8 μ) (fun v1 μ2 => f_X4_couldAfterBringingIn_L19 a1 a2 v1 fu 0 1 μ2)
def f_X5_turnEngine_L18 (j : Nat) (v1 : Int32) : Nat → Int32 → mT → Option (Int32 × mT)
  | 0, _, _ => none
  | n + 1, v2, μ3 =>
      (if ((μ3 11 j (8 : Int32).toNatClampNeg) / 2) ≤ v2 then
      some (0, μ3)
      else
      gd (inb (240 + v2) 270) (lt (μ3 12 j (240 + v2).toNatClampNeg : Int32) (fun v4 => gd (inb (v1 - v2) 270) (gd (inb (240 + v2) 270) (lt (upM μ3 12 j (240 + v2).toNatClampNeg (μ3 12 j (v1 - v2).toNatClampNeg)) (fun μ5 => gd (inb (v1 - v2) 270) (lt (upM μ5 12 j (v1 - v2).toNatClampNeg v4) (fun μ6 => lt (v2 + 1 : Int32) (fun v7 => f_X5_turnEngine_L18 j v1 n v7 μ6)))))))))
def f_X5_turnEngine (j : Nat) (μ : mT) : Option (Int32 × mT) :=
  lt ((240 + (μ 11 j (8 : Int32).toNatClampNeg)) - 1 : Int32) (fun v1 => f_X5_turnEngine_L18 j v1 fu 0 μ)
def f_X4_couldAfterGoingRound (a1 : Int32) (μ : mT) : Option (Int32 × mT) :=
  bd (f_X6_canGoRound 1 μ) (fun v1 μ2 => (if v1 = 0 then
  some (0, μ2)
  else
  bd (f_X5_turnEngine 1 μ2) (fun _ μ4 => bd (f_X4_couldAfterOne a1 μ4) (fun v5 μ6 => bd (f_X5_turnEngine 1 μ6) (fun _ μ8 => gd (isB v5) (some (v5, μ8)))))))
def f_X4_fewestMoves_L33 (a2 : Int32) (K9 : mT → Option (Int32 × mT)) : Nat → Int32 → mT → Option (Int32 × mT)
  | 0, _, _ => none
  | n + 1, v7, μ8 =>
      (if (μ8 0 1 7) ≤ v7 then
      K9 μ8
      else
      bd (f_X4_couldAfterTakingOut a2 v7 μ8) (fun v13 μ14 => (if v13 = 0 then
      bd (f_X4_couldAfterBringingIn a2 v7 μ14) (fun v15 μ16 => (if v15 = 0 then
      lt (v7 + 1 : Int32) (fun v17 => f_X4_fewestMoves_L33 a2 K9 n v17 μ16)
      else
      some (2, μ16)))
      else
      some (2, μ14))))
def f_X4_fewestMoves (j2 : Nat) (a2 : Int32) (μ : mT) : Option (Int32 × mT) :=
  bd (f_X6_copyFrom 1 j2 μ) (fun _ μ2 => bd (f_X6_couldLeave 1 a2 μ2) (fun v3 μ4 => (if v3 = 0 then
  bd (f_X4_couldAfterOne a2 μ4) (fun v5 μ6 => (if v5 = 0 then
  lt (fun (μ10 : mT) =>
  bd (f_X4_couldAfterGoingRound a2 μ10) (fun v11 μ12 => (if v11 = 0 then
  some ((-6), μ12)
  else
  some (2, μ12)))) (fun K9 =>
  f_X4_fewestMoves_L33 a2 K9 fu 0 μ6)
  else
  some (1, μ6)))
  else
  some (0, μ4))))
def f_X5_add (j : Nat) (a1 : Int32) (a2 : Int32) (μ : mT) : Option (Int32 × mT) :=
  gd (inb (μ 1 j 0) 30) (lt (upM μ 8 j (μ 1 j 0).toNatClampNeg a2) (fun μ1 => gd (inb a1 9) (gd (inb ((a1 * 30) + (μ1 11 j a1.toNatClampNeg)) 270) (lt (upM μ1 12 j ((a1 * 30) + (μ1 11 j a1.toNatClampNeg)).toNatClampNeg (μ1 1 j 0)) (fun μ2 => gd (inb a1 9) (gd (inb a1 9) (lt (upM μ2 11 j a1.toNatClampNeg ((μ2 11 j a1.toNatClampNeg) + 1)) (fun μ3 => lt (upM μ3 1 j 0 ((μ3 1 j 0) + 1)) (fun μ4 => some ((μ4 1 j 0) - 1, μ4))))))))))
def f_X5_lengthOfWagon (j : Nat) (a1 : Int32) (μ : mT) : Option (Int32 × mT) :=
  (if a1 < 0 then
  some (0, μ)
  else
  (if (μ 1 j 0) ≤ a1 then
  some (0, μ)
  else
  gd (inb a1 30) (some (μ 8 j a1.toNatClampNeg, μ))))
def f_X5_engineLeaves_L10 (j : Nat) (a1 : Int32) (v1 : Int32) (K4 : mT → Option (Int32 × mT)) : Nat → Int32 → mT → Option (Int32 × mT)
  | 0, _, _ => none
  | n + 1, v2, μ3 =>
      (if v1 ≤ v2 then
      K4 μ3
      else
      gd (inb (240 + v2) 270) (gd (inb (μ3 12 j (240 + v2).toNatClampNeg) 30) (lt (upM μ3 9 j (μ3 12 j (240 + v2).toNatClampNeg).toNatClampNeg a1) (fun μ8 => lt (v2 + 1 : Int32) (fun v9 => f_X5_engineLeaves_L10 j a1 v1 K4 n v9 μ8)))))
def f_X5_engineLeaves (j : Nat) (a1 : Int32) (μ : mT) : Option (Int32 × mT) :=
  lt (μ 11 j (8 : Int32).toNatClampNeg : Int32) (fun v1 => lt (fun (μ5 : mT) =>
  lt (upM μ5 1 j 1 ((μ5 1 j 1) + v1)) (fun μ6 => lt (upM μ6 11 j (8 : Int32).toNatClampNeg 0) (fun μ7 => some (0, μ7)))) (fun K4 =>
  f_X5_engineLeaves_L10 j a1 v1 K4 fu 0 μ))
def f_X6_changeSetting (j : Nat) (a1 : Int32) (a2 : Int32) (μ : mT) : Option (Int32 × mT) :=
  (if a1 < 0 then
  some ((-2), μ)
  else
  (if a1 < 6 then
  gd (inb a1 6) ((if a2 < (cst 40 a1.toNatClampNeg) then
  some ((-2), μ)
  else
  gd (inb a1 6) ((if a2 ≤ (cst 41 a1.toNatClampNeg) then
  gd (inb a1 6) (lt (μ 4 j a1.toNatClampNeg : Int32) (fun v1 => gd (inb a1 6) (lt (upM μ 4 j a1.toNatClampNeg a2) (fun μ2 => some (v1, μ2)))))
  else
  some ((-2), μ)))))
  else
  some ((-2), μ)))
def f_X6_hasTrack (j : Nat) (a1 : Int32) (μ : mT) : Option (Int32 × mT) :=
  (if a1 < 0 then
  some (0, μ)
  else
  (if (μ 0 j 7) ≤ a1 then
  some (0, μ)
  else
  some (1, μ)))
def f_X6_addTrack (j : Nat) (a1 : Int32) (μ : mT) : Option (Int32 × mT) :=
  (if a1 < 4 then
  some ((-2), μ)
  else
  (if a1 ≤ 60 then
  (if (μ 0 j 7) < 8 then
  gd (inb (μ 0 j 7) 8) (lt (upM μ 5 j (μ 0 j 7).toNatClampNeg a1) (fun μ1 => lt (upM μ1 0 j 7 ((μ1 0 j 7) + 1)) (fun μ2 => some ((μ2 0 j 7) - 1, μ2))))
  else
  some ((-4), μ))
  else
  some ((-2), μ)))
def f_X6_addWagon (j : Nat) (a1 : Int32) (a2 : Int32) (μ : mT) : Option (Int32 × mT) :=
  bd (f_X6_hasTrack j a1 μ) (fun v1 μ2 => (if v1 = 0 then
  some ((-1), μ2)
  else
  (if a2 < 1 then
  some ((-2), μ2)
  else
  (if a2 ≤ 4 then
  (if (μ2 1 j 0) < 30 then
  bd (f_X5_lengthOfRow j a1 μ2) (fun v3 μ4 => gd (inb a1 8) ((if (v3 + a2) ≤ (μ4 5 j a1.toNatClampNeg) then
  bd (f_X5_add j a1 a2 μ4) (fun v5 μ6 => some (v5, μ6))
  else
  some ((-5), μ4))))
  else
  some ((-4), μ2))
  else
  some ((-2), μ2)))))
def f_X6_addBlock (j : Nat) (a1 : Int32) (a2 : Int32) (μ : mT) : Option (Int32 × mT) :=
  (if a1 < (μ 0 j 0) then
  some ((-2), μ)
  else
  (if ((μ 0 j 0) + 2000) < a1 then
  some ((-2), μ)
  else
  (if a2 < 1 then
  some ((-2), μ)
  else
  (if a2 ≤ 500 then
  (if (μ 2 j 0) < 10 then
  bd (f_X0_add j a1 (a1 + a2) μ) (fun v1 μ2 => some (v1, μ2))
  else
  some ((-4), μ))
  else
  some ((-2), μ)))))
def f_X6_takeOut (j : Nat) (a1 : Int32) (a2 : Int32) (μ : mT) : Option (Int32 × mT) :=
  bd (f_X6_hasTrack j a1 μ) (fun v1 μ2 => (if v1 = 0 then
  some ((-1), μ2)
  else
  (if a2 < 1 then
  some ((-2), μ2)
  else
  (if a2 ≤ 30 then
  bd (f_X6_canTakeOut j a1 a2 μ2) (fun v3 μ4 => (if v3 = 0 then
  some ((-5), μ4)
  else
  bd (f_X6_drawOut j a1 a2 μ4) (fun v5 μ6 => some (v5, μ6))))
  else
  some ((-2), μ2)))))
def f_X6_bringIn (j : Nat) (a1 : Int32) (a2 : Int32) (μ : mT) : Option (Int32 × mT) :=
  bd (f_X6_hasTrack j a1 μ) (fun v1 μ2 => (if v1 = 0 then
  some ((-1), μ2)
  else
  (if a2 < 1 then
  some ((-2), μ2)
  else
  (if a2 ≤ 30 then
  bd (f_X6_canBringIn j a1 a2 μ2) (fun v3 μ4 => (if v3 = 0 then
  some ((-5), μ4)
  else
  bd (f_X5_manyIn j a1 μ4) (fun v5 μ6 => lt (fun (v8 : Int32) (μ9 : mT) => 
  bd (f_X5_shift j 8 a1 a2 μ9) (fun _ μ11 => gd (inb a1 8) (gd (inb a1 8) (lt (upM μ11 7 j a1.toNatClampNeg ((μ11 7 j a1.toNatClampNeg) + a2)) (fun μ12 => bd (f_X6_makeMove j (μ12 4 j (2 : Int32).toNatClampNeg) v8 μ12) (fun _ μ14 => bd (f_X5_manyIn j 8 μ14) (fun v15 μ16 => some (v15, μ16)))))))) (fun J7 =>
  (if v5 ≤ 0 then
  J7 1 μ6
  else
  J7 2 μ6)))))
  else
  some ((-2), μ2)))))
def f_X6_goRound (j : Nat) (μ : mT) : Option (Int32 × mT) :=
  bd (f_X6_canGoRound j μ) (fun v1 μ2 => (if v1 = 0 then
  some ((-5), μ2)
  else
  bd (f_X5_turnEngine j μ2) (fun _ μ4 => bd (f_X6_makeMove j (μ4 4 j (4 : Int32).toNatClampNeg) 2 μ4) (fun _ μ6 => some (μ6 0 j 0, μ6)))))
def f_X6_letPass (j : Nat) (a1 : Int32) (μ : mT) : Option (Int32 × mT) :=
  (if a1 < 1 then
  some ((-2), μ)
  else
  (if a1 ≤ 999 then
  bd (f_X6_comeTo j ((μ 0 j 0) + a1) μ) (fun _ μ2 => some (μ2 0 j 0, μ2))
  else
  some ((-2), μ)))
def f_X6_areThere_L27 (j : Nat) (a2 : Int32) (v1 : Int32) (K9 : mT → Option (Int32 × mT)) : Nat → Int32 → mT → Option (Int32 × mT)
  | 0, _, _ => none
  | n + 1, v7, μ8 =>
      (if v1 ≤ v7 then
      K9 μ8
      else
      gd (inb v1 8) (gd (inb v7 8) ((if (μ8 26 0 v1.toNatClampNeg) = (μ8 26 0 v7.toNatClampNeg) then
      some (0, μ8)
      else
      lt (v7 + 1 : Int32) (fun v12 => f_X6_areThere_L27 j a2 v1 K9 n v12 μ8)))))
def f_X6_areThere_L2 (j : Nat) (a2 : Int32) (K3 : mT → Option (Int32 × mT)) : Nat → Int32 → mT → Option (Int32 × mT)
  | 0, _, _ => none
  | n + 1, v1, μ2 =>
      (if a2 ≤ v1 then
      K3 μ2
      else
      gd (inb v1 8) (bd (f_X5_rowOf j (μ2 26 0 v1.toNatClampNeg) μ2) (fun v5 μ6 => (if v5 = ((-6)) then
      some (0, μ6)
      else
      lt (fun (μ10 : mT) =>
      lt (v1 + 1 : Int32) (fun v11 => f_X6_areThere_L2 j a2 K3 n v11 μ10)) (fun K9 =>
      f_X6_areThere_L27 j a2 v1 K9 fu 0 μ6)))))
def f_X6_areThere (j : Nat) (a2 : Int32) (μ : mT) : Option (Int32 × mT) :=
  lt (fun (μ4 : mT) =>
  (if a2 ≤ 0 then
  some (0, μ4)
  else
  some (1, μ4))) (fun K3 =>
  f_X6_areThere_L2 j a2 K3 fu 0 μ)
def f_X6_addTrain_L50 (j : Nat) (a2 : Int32) (a3 : Int32) (K5 : mT → Option (Int32 × mT)) : Nat → Int32 → mT → Option (Int32 × mT)
  | 0, _, _ => none
  | n + 1, v3, μ4 =>
      (if a2 ≤ v3 then
      K5 μ4
      else
      gd (inb v3 8) (bd (f_X3_trainOf j (μ4 26 0 v3.toNatClampNeg) μ4) (fun v9 μ10 => (if v9 = ((-6)) then
      lt (v3 + 1 : Int32) (fun v11 => f_X6_addTrain_L50 j a2 a3 K5 n v11 μ10)
      else
      some ((-5), μ10)))))
def f_X6_addTrain (j : Nat) (a2 : Int32) (a3 : Int32) (μ : mT) : Option (Int32 × mT) :=
  bd (f_X6_areThere j a2 μ) (fun v1 μ2 => (if v1 = 0 then
  some ((-2), μ2)
  else
  (if a3 < (μ2 0 j 0) then
  some ((-2), μ2)
  else
  (if a3 ≤ ((μ2 0 j 0) + 5000) then
  (if (μ2 3 j 0) < 8 then
  lt (fun (μ6 : mT) =>
  bd (f_X3_add j a2 a3 μ6) (fun v7 μ8 => some (v7, μ8))) (fun K5 =>
  f_X6_addTrain_L50 j a2 a3 K5 fu 0 μ2)
  else
  some ((-4), μ2))
  else
  some ((-2), μ2)))))
def f_X6_letLeave (j : Nat) (a1 : Int32) (μ : mT) : Option (Int32 × mT) :=
  bd (f_X3_has j a1 μ) (fun v1 μ2 => (if v1 = 0 then
  some ((-1), μ2)
  else
  bd (f_X6_couldLeave j a1 μ2) (fun v3 μ4 => (if v3 = 0 then
  some ((-5), μ4)
  else
  gd (inb a1 8) (lt (if 0 < ((μ4 0 j 0) - (μ4 15 j a1.toNatClampNeg)) then ((μ4 0 j 0) - (μ4 15 j a1.toNatClampNeg)) else 0 : Int32) (fun v5 => lt (upM μ4 0 j 4 ((μ4 0 j 4) + (v5 * (μ4 4 j (5 : Int32).toNatClampNeg)))) (fun μ6 => bd (f_X5_engineLeaves j (μ6 0 j 0) μ6) (fun _ μ8 => bd (f_X3_remove j a1 μ8) (fun _ μ10 => lt (upM μ10 0 j 5 ((μ10 0 j 5) + 1)) (fun μ11 => some (v5, μ11)))))))))))
def f_X6_aboutTrack (j : Nat) (a1 : Int32) (a2 : Int32) (μ : mT) : Option (Int32 × mT) :=
  bd (f_X6_hasTrack j a1 μ) (fun v1 μ2 => (if v1 = 0 then
  some ((-1), μ2)
  else
  (if a2 = 0 then
  gd (inb a1 8) (some (μ2 5 j a1.toNatClampNeg, μ2))
  else
  (if a2 = 1 then
  bd (f_X5_manyIn j a1 μ2) (fun v3 μ4 => some (v3, μ4))
  else
  (if a2 = 2 then
  bd (f_X5_lengthOfRow j a1 μ2) (fun v5 μ6 => some (v5, μ6))
  else
  (if a2 = 3 then
  gd (inb a1 8) (some (μ2 6 j a1.toNatClampNeg, μ2))
  else
  (if a2 = 4 then
  gd (inb a1 8) (some (μ2 7 j a1.toNatClampNeg, μ2))
  else
  some ((-2), μ2))))))))
def f_X6_aboutWagon (j : Nat) (a1 : Int32) (a2 : Int32) (μ : mT) : Option (Int32 × mT) :=
  (if a1 < 0 then
  some ((-1), μ)
  else
  (if a1 < (μ 1 j 0) then
  bd (f_X5_rowOf j a1 μ) (fun v1 μ2 => lt (fun (v4 : Int32) (μ5 : mT) => 
  (if a2 = 0 then
  gd (inb a1 30) (some (μ5 8 j a1.toNatClampNeg, μ5))
  else
  (if a2 = 1 then
  (if v1 = 8 then
  some ((-6), μ5)
  else
  some (v1, μ5))
  else
  (if a2 = 2 then
  some (v4, μ5)
  else
  (if a2 = 3 then
  (if v1 = 8 then
  some (1, μ5)
  else
  some (0, μ5))
  else
  (if a2 = 4 then
  (if v1 = ((-6)) then
  gd (inb a1 30) (some (μ5 9 j a1.toNatClampNeg, μ5))
  else
  some ((-6), μ5))
  else
  (if a2 = 5 then
  gd (inb a1 30) (some (μ5 10 j a1.toNatClampNeg, μ5))
  else
  (if a2 = 6 then
  bd (f_X3_trainOf j a1 μ5) (fun v6 μ7 => some (v6, μ7))
  else
  (if a2 = 7 then
  (if v1 = 8 then
  some ((-6), μ5)
  else
  some (v4, μ5))
  else
  some ((-2), μ5)))))))))) (fun J3 =>
  (if v1 = ((-6)) then
  J3 ((-6)) μ2
  else
  bd (f_X5_placeIn j v1 a1 μ2) (fun v8 μ9 => J3 v8 μ9))))
  else
  some ((-1), μ)))
def f_X6_lengthOfList_L14 (j : Nat) (a1 : Int32) (v1 : Int32) : Nat → Int32 → Int32 → mT → Option (Int32 × mT)
  | 0, _, _, _ => none
  | n + 1, v3, v4, μ5 =>
      (if v1 ≤ v4 then
      some (v3, μ5)
      else
      bd (f_X3_wagonOf j a1 v4 μ5) (fun v6 μ7 => bd (f_X5_lengthOfWagon j v6 μ7) (fun v8 μ9 => lt (v3 + v8 : Int32) (fun v10 => lt (v4 + 1 : Int32) (fun v11 => f_X6_lengthOfList_L14 j a1 v1 n v10 v11 μ9)))))
def f_X6_lengthOfList (j : Nat) (a1 : Int32) (μ : mT) : Option (Int32 × mT) :=
  bd (f_X3_sizeOf j a1 μ) (fun v1 μ2 => f_X6_lengthOfList_L14 j a1 v1 fu 0 0 μ2)
def f_X6_aboutTrain (j : Nat) (a1 : Int32) (a2 : Int32) (μ : mT) : Option (Int32 × mT) :=
  bd (f_X3_has j a1 μ) (fun v1 μ2 => (if v1 = 0 then
  some ((-1), μ2)
  else
  (if a2 < 0 then
  some ((-2), μ2)
  else
  (if a2 ≤ 10 then
  (if a2 = 0 then
  bd (f_X3_sizeOf j a1 μ2) (fun v7 μ8 => some (v7, μ8))
  else
  (if a2 = 1 then
  gd (inb a1 8) (some (μ2 15 j a1.toNatClampNeg, μ2))
  else
  (if a2 = 10 then
  bd (f_X6_lengthOfList j a1 μ2) (fun v5 μ6 => some (v5, μ6))
  else
  bd (f_X3_wagonOf j a1 (a2 - 2) μ2) (fun v3 μ4 => some (v3, μ4)))))
  else
  some ((-2), μ2)))))
def f_X6_aboutYard (j : Nat) (a1 : Int32) (μ : mT) : Option (Int32 × mT) :=
  (if a1 = 0 then
  some (μ 0 j 0, μ)
  else
  (if a1 = 1 then
  some (μ 0 j 7, μ)
  else
  (if a1 = 2 then
  some (μ 1 j 0, μ)
  else
  (if a1 = 3 then
  bd (f_X5_manyIn j 8 μ) (fun v1 μ2 => some (v1, μ2))
  else
  (if a1 = 4 then
  bd (f_X5_lengthOfRow j 8 μ) (fun v3 μ4 => some (v3, μ4))
  else
  (if a1 = 5 then
  some (μ 1 j 1, μ)
  else
  (if a1 = 6 then
  some (μ 3 j 0, μ)
  else
  (if a1 = 7 then
  some (μ 0 j 5, μ)
  else
  (if a1 = 8 then
  some (μ 2 j 0, μ)
  else
  (if a1 = 9 then
  some (μ 0 j 1, μ)
  else
  (if a1 = 10 then
  some (μ 0 j 2, μ)
  else
  (if a1 = 11 then
  some (μ 0 j 3, μ)
  else
  (if a1 = 12 then
  some (μ 0 j 4, μ)
  else
  (if a1 < 15 then
  some ((-2), μ)
  else
  (if 21 ≤ a1 then
  some ((-2), μ)
  else
  gd (inb (a1 - 15) 6) (some (μ 4 j (a1 - 15).toNatClampNeg, μ)))))))))))))))))
def f_X7_set (a1 : Int32) (a2 : Int32) (μ : mT) : Option (Int32 × mT) :=
  bd (f_X1_note 0 μ) (fun _ μ2 => bd (f_X6_changeSetting 0 a1 a2 μ2) (fun v3 μ4 => bd (f_X1_kept v3 μ4) (fun v5 μ6 => some (v5, μ6))))
def f_X7_track (a1 : Int32) (μ : mT) : Option (Int32 × mT) :=
  bd (f_X1_note 0 μ) (fun _ μ2 => bd (f_X6_addTrack 0 a1 μ2) (fun v3 μ4 => bd (f_X1_kept v3 μ4) (fun v5 μ6 => some (v5, μ6))))
def f_X7_wagon (a1 : Int32) (a2 : Int32) (μ : mT) : Option (Int32 × mT) :=
  bd (f_X1_note 0 μ) (fun _ μ2 => bd (f_X6_addWagon 0 a1 a2 μ2) (fun v3 μ4 => bd (f_X1_kept v3 μ4) (fun v5 μ6 => some (v5, μ6))))
def f_X7_block (a1 : Int32) (a2 : Int32) (μ : mT) : Option (Int32 × mT) :=
  bd (f_X1_note 0 μ) (fun _ μ2 => bd (f_X6_addBlock 0 a1 a2 μ2) (fun v3 μ4 => bd (f_X1_kept v3 μ4) (fun v5 μ6 => some (v5, μ6))))
def f_X7_pull (a1 : Int32) (a2 : Int32) (μ : mT) : Option (Int32 × mT) :=
  bd (f_X1_note 0 μ) (fun _ μ2 => bd (f_X6_takeOut 0 a1 a2 μ2) (fun v3 μ4 => bd (f_X1_kept v3 μ4) (fun v5 μ6 => some (v5, μ6))))
def f_X7_push (a1 : Int32) (a2 : Int32) (μ : mT) : Option (Int32 × mT) :=
  bd (f_X1_note 0 μ) (fun _ μ2 => bd (f_X6_bringIn 0 a1 a2 μ2) (fun v3 μ4 => bd (f_X1_kept v3 μ4) (fun v5 μ6 => some (v5, μ6))))
def f_X7_round  (μ : mT) : Option (Int32 × mT) :=
  bd (f_X1_note 0 μ) (fun _ μ2 => bd (f_X6_goRound 0 μ2) (fun v3 μ4 => bd (f_X1_kept v3 μ4) (fun v5 μ6 => some (v5, μ6))))
def f_X7_pass (a1 : Int32) (μ : mT) : Option (Int32 × mT) :=
  bd (f_X1_note 0 μ) (fun _ μ2 => bd (f_X6_letPass 0 a1 μ2) (fun v3 μ4 => bd (f_X1_kept v3 μ4) (fun v5 μ6 => some (v5, μ6))))
def f_X7_readList_L8 (K5 : Int64 → Int32 → mT → Option (Int32 × mT)) : Nat → Int64 → Int32 → Int32 → mT → Option (Int32 × mT)
  | 0, _, _, _, _ => none
  | n + 1, v1, v2, v3, μ4 =>
      (if 8 ≤ v3 then
      K5 v1 v2 μ4
      else
      (if (lg_cmp v1 0) ≤ 0 then
      K5 v1 v2 μ4
      else
      lt ((v1 - v1 / 31 * 31).toInt32 : Int32) (fun v9 => (if v9 = 0 then
      some (0, μ4)
      else
      gd (inb v3 8) (lt (upM μ4 26 0 v3.toNatClampNeg (v9 - 1)) (fun μ10 => lt (v2 + 1 : Int32) (fun v11 => lt (v1 / 31 : Int64) (fun v12 => lt (v3 + 1 : Int32) (fun v13 => f_X7_readList_L8 K5 n v12 v11 v13 μ10)))))))))
def f_X7_readList (a1 : Int64) (μ : mT) : Option (Int32 × mT) :=
  lt (fun (v6 : Int64) (v7 : Int32) (μ8 : mT) =>
  (if (lg_cmp v6 0) = 0 then
  some (v7, μ8)
  else
  some (0, μ8))) (fun K5 =>
  f_X7_readList_L8 K5 fu a1 0 0 μ)
def f_X7_train (a1 : Int64) (a3 : Int32) (μ : mT) : Option (Int32 × mT) :=
  bd (f_X1_note 0 μ) (fun _ μ2 => bd (f_X7_readList a1 μ2) (fun v3 μ4 => bd (f_X6_addTrain 0 v3 a3 μ4) (fun v5 μ6 => bd (f_X1_kept v5 μ6) (fun v7 μ8 => some (v7, μ8)))))
def f_X7_leave (a1 : Int32) (μ : mT) : Option (Int32 × mT) :=
  bd (f_X1_note 0 μ) (fun _ μ2 => bd (f_X6_letLeave 0 a1 μ2) (fun v3 μ4 => bd (f_X1_kept v3 μ4) (fun v5 μ6 => some (v5, μ6))))
def f_X7_ofTrack (a1 : Int32) (a2 : Int32) (μ : mT) : Option (Int32 × mT) :=
  bd (f_X6_aboutTrack 0 a1 a2 μ) (fun v1 μ2 => some (v1, μ2))
def f_X7_at (a1 : Int32) (a2 : Int32) (μ : mT) : Option (Int32 × mT) :=
  (if a1 = ((-6)) then
  bd (f_X5_wagonAt 0 8 a2 μ) (fun v5 μ6 => some (v5, μ6))
  else
  bd (f_X6_hasTrack 0 a1 μ) (fun v1 μ2 => (if v1 = 0 then
  some ((-1), μ2)
  else
  bd (f_X5_wagonAt 0 a1 a2 μ2) (fun v3 μ4 => some (v3, μ4)))))
def f_X7_ofWagon (a1 : Int32) (a2 : Int32) (μ : mT) : Option (Int32 × mT) :=
  bd (f_X6_aboutWagon 0 a1 a2 μ) (fun v1 μ2 => some (v1, μ2))
def f_X7_ofTrain (a1 : Int32) (a2 : Int32) (μ : mT) : Option (Int32 × mT) :=
  bd (f_X6_aboutTrain 0 a1 a2 μ) (fun v1 μ2 => some (v1, μ2))
def f_X7_count (a1 : Int32) (μ : mT) : Option (Int32 × mT) :=
  (if a1 = 13 then
  some (μ 21 0 0, μ)
  else
  (if a1 = 14 then
  some (μ 19 0 0, μ)
  else
  bd (f_X6_aboutYard 0 a1 μ) (fun v1 μ2 => some (v1, μ2))))
def f_X7_freeFrom (a1 : Int32) (μ : mT) : Option (Int32 × mT) :=
  (if a1 < 1 then
  some ((-2), μ)
  else
  (if a1 ≤ 500 then
  bd (f_X0_firstFree 0 (μ 0 0 0) a1 μ) (fun v1 μ2 => some (v1, μ2))
  else
  some ((-2), μ)))
def f_X7_straight (a1 : Int32) (μ : mT) : Option (Int32 × mT) :=
  bd (f_X3_has 0 a1 μ) (fun v1 μ2 => (if v1 = 0 then
  some ((-1), μ2)
  else
  bd (f_X4_fewestPulls 0 a1 μ2) (fun v3 μ4 => (if v3 = ((-6)) then
  some (0, μ4)
  else
  some (1, μ4)))))
def f_X7_pulls (a1 : Int32) (μ : mT) : Option (Int32 × mT) :=
  bd (f_X3_has 0 a1 μ) (fun v1 μ2 => (if v1 = 0 then
  some ((-1), μ2)
  else
  bd (f_X4_fewestPulls 0 a1 μ2) (fun v3 μ4 => some (v3, μ4))))
def f_X7_wouldLeave (a1 : Int32) (μ : mT) : Option (Int32 × mT) :=
  bd (f_X3_has 0 a1 μ) (fun v1 μ2 => (if v1 = 0 then
  some ((-1), μ2)
  else
  bd (f_X4_fewestPulls 0 a1 μ2) (fun v3 μ4 => (if v3 = ((-6)) then
  some ((-6), μ4)
  else
  some (μ4 0 1 0, μ4)))))
def f_X7_moves (a1 : Int32) (μ : mT) : Option (Int32 × mT) :=
  bd (f_X3_has 0 a1 μ) (fun v1 μ2 => (if v1 = 0 then
  some ((-1), μ2)
  else
  bd (f_X4_fewestMoves 0 a1 μ2) (fun v3 μ4 => some (v3, μ4))))
def f_X7_roomFor  (μ : mT) : Option (Int32 × mT) :=
  bd (f_X5_manyIn 0 8 μ) (fun v1 μ2 => bd (f_X6_tracksFor 0 v1 μ2) (fun v3 μ4 => some (v3, μ4)))
