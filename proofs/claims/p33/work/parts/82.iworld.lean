theorem wO_i : Cond.instanceMethod Lib.objectInit ∈ big := big_t 17 (by decide +kernel) (by decide +kernel)
theorem wO_c : Cond.code Lib.objectInit ⟨#[0xb1]⟩ 1 none ∈ big := big_t 18 (by decide +kernel) (by decide +kernel)
theorem wO_X0 : Cond.methodLink RX0 3 Lib.objectInit ∈ big := big_t 73 (by decide +kernel) (by decide +kernel)
theorem wO_X1 : Cond.methodLink RX1 3 Lib.objectInit ∈ big := big_t 174 (by decide +kernel) (by decide +kernel)
theorem wO_X2 : Cond.methodLink RX2 3 Lib.objectInit ∈ big := big_t 191 (by decide +kernel) (by decide +kernel)
theorem wO_X3 : Cond.methodLink RX3 3 Lib.objectInit ∈ big := big_t 90 (by decide +kernel) (by decide +kernel)
theorem wO_X4 : Cond.methodLink RX4 3 Lib.objectInit ∈ big := big_t 161 (by decide +kernel) (by decide +kernel)
theorem wO_X5 : Cond.methodLink RX5 3 Lib.objectInit ∈ big := big_t 39 (by decide +kernel) (by decide +kernel)
theorem wO_X6 : Cond.methodLink RX6 3 Lib.objectInit ∈ big := big_t 24 (by decide +kernel) (by decide +kernel)
theorem wO_X7 : Cond.methodLink RX7 3 Lib.objectInit ∈ big := big_t 16 (by decide +kernel) (by decide +kernel)
theorem wT_X0 : Cond.instantiable RX0 3 ∈ big := big_t 69 (by decide +kernel) (by decide +kernel)
theorem wT_X1 : Cond.instantiable RX1 2 ∈ big := big_t 170 (by decide +kernel) (by decide +kernel)
theorem wT_X2 : Cond.instantiable RX2 2 ∈ big := big_t 187 (by decide +kernel) (by decide +kernel)
theorem wT_X3 : Cond.instantiable RX3 4 ∈ big := big_t 86 (by decide +kernel) (by decide +kernel)
theorem wT_X4 : Cond.instantiable RX4 1 ∈ big := big_t 157 (by decide +kernel) (by decide +kernel)
theorem wT_X5 : Cond.instantiable RX5 7 ∈ big := big_t 35 (by decide +kernel) (by decide +kernel)
theorem wT_X6 : Cond.instantiable RX6 14 ∈ big := big_t 20 (by decide +kernel) (by decide +kernel)
theorem wT_X7 : Cond.instantiable RX7 7 ∈ big := big_t 12 (by decide +kernel) (by decide +kernel)
theorem wL_L_9 : Cond.classLink RL 9 RX7 ∈ big := big_t 11 (by decide +kernel) (by decide +kernel)
theorem wL_X7_9 : Cond.classLink RX7 9 RX6 ∈ big := big_t 19 (by decide +kernel) (by decide +kernel)
theorem wL_X6_32 : Cond.classLink RX6 32 RX5 ∈ big := big_t 34 (by decide +kernel) (by decide +kernel)
theorem wL_X6_39 : Cond.classLink RX6 39 RX0 ∈ big := big_t 68 (by decide +kernel) (by decide +kernel)
theorem wL_X6_46 : Cond.classLink RX6 46 RX3 ∈ big := big_t 85 (by decide +kernel) (by decide +kernel)
theorem wL_X7_16 : Cond.classLink RX7 16 RX4 ∈ big := big_t 156 (by decide +kernel) (by decide +kernel)
theorem wL_X4_9 : Cond.classLink RX4 9 RX6 ∈ big := big_t 162 (by decide +kernel) (by decide +kernel)
theorem wL_X7_23 : Cond.classLink RX7 23 RX1 ∈ big := big_t 169 (by decide +kernel) (by decide +kernel)
theorem wL_X1_9 : Cond.classLink RX1 9 RX6 ∈ big := big_t 175 (by decide +kernel) (by decide +kernel)
theorem wL_X7_38 : Cond.classLink RX7 38 RX2 ∈ big := big_t 186 (by decide +kernel) (by decide +kernel)
theorem wA_boolean : Cond.arrayClass (newarray.typeOf .boolean) ∈ big := big_t 199 (by decide +kernel) (by decide +kernel)
theorem wA_char : Cond.arrayClass (newarray.typeOf .char) ∈ big := big_t 200 (by decide +kernel) (by decide +kernel)
theorem wL_X6_14 : Cond.classLink RX6 14 "[I" ∈ big := big_t 33 (by decide +kernel) (by decide +kernel)
theorem wK_1 : Cond.methodLink RX6 13 ⟨"[I", "clone", "()Ljava/lang/Object;"⟩ ∈ big := big_t 27 (by decide +kernel) (by decide +kernel)
theorem wK_2 : Cond.sameMethod "[I" "java/lang/Object" "clone" "()Ljava/lang/Object;" ∈ big := big_t 28 (by decide +kernel) (by decide +kernel)
theorem wK_3 : Cond.native ⟨"java/lang/Object", "clone", "()Ljava/lang/Object;"⟩ ∈ big := big_t 29 (by decide +kernel) (by decide +kernel)
theorem wK_4 : Cond.instanceMethod ⟨"java/lang/Object", "clone", "()Ljava/lang/Object;"⟩ ∈ big := big_t 30 (by decide +kernel) (by decide +kernel)
theorem wK_5 : Cond.selects "[I" ⟨"[I", "clone", "()Ljava/lang/Object;"⟩ ⟨"java/lang/Object", "clone", "()Ljava/lang/Object;"⟩ ∈ big := big_t 31 (by decide +kernel) (by decide +kernel)
def wX0 (V : iV) (a : Nat → Nat) : va_W := [(a 2, .inr (0, [.int 0, .ref (a 13), .ref (a 14)])), (a 13, .inl (V.2.1 0, 10, .inl (fun _ => 0))), (a 14, .inl (V.2.1 0, 10, .inl (fun _ => 0)))]
def wX3 (V : iV) (a : Nat → Nat) : va_W := [(a 3, .inr (3, [.int 0, .ref (a 15), .ref (a 16), .ref (a 17)])), (a 15, .inl (V.2.1 0, 8, .inl (fun _ => 0))), (a 16, .inl (V.2.1 0, 8, .inl (fun _ => 0))), (a 17, .inl (V.2.1 0, 64, .inl (fun _ => 0)))]
def wX5 (V : iV) (a : Nat → Nat) : va_W := [(a 1, .inr (5, [.int 0, .int 0, .ref (a 8), .ref (a 9), .ref (a 10), .ref (a 11), .ref (a 12)])), (a 8, .inl (V.2.1 0, 30, .inl (fun _ => 0))), (a 9, .inl (V.2.1 0, 30, .inl (fun _ => 0))), (a 10, .inl (V.2.1 0, 30, .inl (fun _ => 0))), (a 11, .inl (V.2.1 0, 9, .inl (fun _ => 0))), (a 12, .inl (V.2.1 0, 270, .inl (fun _ => 0)))]
def wX6 (V : iV) (a : Nat → Nat) : va_W := [(a 0, .inr (6, [.int 0, .int 0, .int 0, .int 0, .int 0, .int 0, .ref (a 4), .int 0, .ref (a 5), .ref (a 6), .ref (a 7), .ref (a 1), .ref (a 2), .ref (a 3)])), (a 4, .inl (V.2.1 0, 6, .inl fv)), (a 5, .inl (V.2.1 0, 8, .inl (fun _ => 0))), (a 6, .inl (V.2.1 0, 8, .inl (fun _ => 0))), (a 7, .inl (V.2.1 0, 8, .inl (fun _ => 0)))] ++ (wX3 V a ++ (wX0 V a ++ (wX5 V a ++ [])))
def wX4 (V : iV) (a y : Nat → Nat) : va_W := [(a 20, .inr (4, [.ref (y 0)]))] ++ (wX6 V y ++ [])
def wX2 (V : iV) (a : Nat → Nat) : va_W := [(a 21, .inr (2, [.int 0, .ref (a 25)])), (a 25, .inl (V.2.1 2, 80, .inl (fun _ => 0)))]
def wX1 (V : iV) (a y0 y1 y2 y3 y4 y5 y6 : Nat → Nat) : va_W := [(a 19, .inr (1, [.int 0, .ref (a 22)])), (a 22, .inl (V.2.1 3, 7, .inr (.inr (.inr (.inr (va_up (va_up (va_up (va_up (va_up (va_up (va_up (fun _ => none) (0 : Int32).toNatClampNeg (some (y0 0))) (1 : Int32).toNatClampNeg (some (y1 0))) (2 : Int32).toNatClampNeg (some (y2 0))) (3 : Int32).toNatClampNeg (some (y3 0))) (4 : Int32).toNatClampNeg (some (y4 0))) (5 : Int32).toNatClampNeg (some (y5 0))) (6 : Int32).toNatClampNeg (some (y6 0))))))))] ++ (wX6 V y6 ++ (wX6 V y5 ++ (wX6 V y4 ++ (wX6 V y3 ++ (wX6 V y2 ++ (wX6 V y1 ++ (wX6 V y0 ++ [])))))))
def wX7 (V : iV) (u : Nat → Nat → Nat) : va_W := [(u 11 18, .inr (7, [.ref (u 0 0), .ref (u 11 20), .ref (u 11 19), .ref (u 11 23), .ref (u 11 24), .ref (u 11 21), .ref (u 11 26)])), (u 11 23, .inl (V.2.1 3, 2, .inr (.inr (.inr (.inr (va_up (va_up (fun _ => none) (0 : Int32).toNatClampNeg (some (u 9 0))) (1 : Int32).toNatClampNeg (some (u 10 0)))))))), (u 11 24, .inl (V.2.1 1, 2, .inl (fun _ => 0))), (u 11 26, .inl (V.2.1 0, 8, .inl (fun _ => 0)))] ++ (wX6 V (u 10) ++ (wX6 V (u 9) ++ (wX2 V (u 11) ++ (wX1 V (u 11) (u 2) (u 3) (u 4) (u 5) (u 6) (u 7) (u 8) ++ (wX4 V (u 11) (u 1) ++ (wX6 V (u 0) ++ []))))))
section IK
variable {V : iV} {A : Nat → Prop} {own : String} {cc : ByteArray} {F L mc ms : Nat} {Γ : gT} {S B : va_W} {kc ks : Nat} {lv : List (Nat × Value)} {st : List Value}
theorem ir_getsF (hO : OkI V A own cc F L mc ms Γ) (pc : Nat) {idx : Nat} {host : String} (hw : (own, idx, RX7, "FIRST_VALUES", "[I", host) ∈ nF) (d : decode cc pc = .ok (.getstatic idx, 3)) (k : ij V A Γ S B kc ks (pc + 3) lv (.ref V.2.2.2 :: st)) : ij V A Γ S B kc ks pc lv st := by
  obtain ⟨p, l, e, R, s, m, args, below, meth, c, kc0, ks0, Q, nL⟩ := Γ
  obtain ⟨hx, hb, hml, hown, hts, hS, hZ, hA, hroom, hlk⟩ := hO
  intro H locs la hP hD hF hl
  exact va_getsN hx hb (hZ.1.narrow hA.2) hF hown (va_Nw.use rfl (hS.2.1.1 _ hw)) (fun x h => h) d (k H locs la hP hD hF hl)
theorem ir_castI (hO : OkI V A own cc F L mc ms Γ) (pc : Nat) {idx q0 a : Nat} {x : vp_A} (hw : Cond.classLink own idx "[I" ∈ big) (hq : S[q0]? = some (a, .inl (V.2.1 0, x))) (d : decode cc pc = .ok (.checkcast idx, 3)) (k : ij V A Γ S B kc ks (pc + 3) lv (.ref a :: st)) : ij V A Γ S B kc ks pc lv (.ref a :: st) := by
  obtain ⟨p, l, e, R, s, m, args, below, meth, c, kc0, ks0, Q, nL⟩ := Γ
  obtain ⟨hx, hb, hml, hown, hts, hS, hZ, hA, hroom, hlk⟩ := hO
  intro H locs la hP hD hF hl
  have hnm : s.vm.findClass "[I" = some (V.2.1 0) := (hS.1.2 0 (V.2.1 0, .int) rfl).2
  exact va_castA hx hb hown (hts _ hw) hP q0 (i_setA (B := B) (y := (a, .inl (V.2.1 0, x))) hq).1 hnm d (k H locs la hP hD hF hl)
theorem ir_clone (hO : OkI V A own cc F L mc ms Γ) (pc : Nat) {idx kc1 ks1 : Nat} (hw : Cond.methodLink own idx ⟨"[I", "clone", "()Ljava/lang/Object;"⟩ ∈ big) (hF1 : 1 ≤ F) (hL1 : 22 ≤ L) (hrs : (st.map fun v => v.category).sum ≤ 8) (h1 : kc + 1 = kc1) (h2 : ks + 6 = ks1) (h3 : kc1 ≤ mc) (h4 : ks1 ≤ ms) (d : decode cc pc = .ok (.invokevirtual idx, 3))
    (k : ∀ q : Nat, ij V A Γ (S ++ [(q, .inl (V.2.1 0, 6, .inl fv))]) B kc1 ks1 (pc + 3) lv (.ref q :: st)) : ij V A Γ S B kc ks pc lv (.ref V.2.2.2 :: st) := by
  obtain ⟨p, l, e, R, s, m, args, below, meth, c, kc0, ks0, Q, nL⟩ := Γ
  obtain ⟨hx, hb, hml, hown, hts, hS, hZ, hA, hroom, hlk⟩ := hO
  intro H locs la hP hD hF hl
  subst h1
  subst h2
  obtain ⟨-, -, cell, hcell, hst, hkn, hcls, hsl⟩ := hZ.kept hA.2 hF
  have hnm : s.vm.findClass "[I" = some (V.2.1 0) := (hS.1.2 0 (V.2.1 0, .int) rfl).2
  obtain ⟨c0, t0, f1, f2, f3⟩ := Cond.castable_spec (va_Nw.use (A := args) rfl hS.2.2.1)
  have e0 : V.2.1 0 = c0 := Option.some.inj (hnm.symm.trans f1)
  have hsz : cell.slots.size = 6 := by rw [hsl]; exact arrV_size _ _ _
  have hcE : ({ cls := cell.cls, slots := cell.slots } : Cell) = vp_cell (V.2.1 0) (6, .inl fv) := by rw [hcls, hsl]; rfl
  intro T hT X
  obtain ⟨-, kA, hkA, comp, hkind⟩ := State.isArrayOf_alike X.warmed.alike ((hS.1.2 0 (V.2.1 0, .int) rfl).1 0 (fun _ => .null))
  obtain ⟨-, kS, hkS, compS, hkindS⟩ := (hS.1.2 0 (V.2.1 0, .int) rfl).1 0 (fun _ => .null)
  have hfr : 1 ≤ R.frames := Nat.le_trans hF1 hroom.1
  have hlo : 22 ≤ R.locals := Nat.le_trans hL1 hroom.2.1
  obtain ⟨vm', X', stp⟩ := X.cloneArray hx hown (hts _ hw) (hts _ wK_2) (hts _ wK_3) (hts _ wK_4) (hts _ wK_5) (a := V.2.2.2) (cell := cell) (by rw [hT]; exact hcell) hst hkn (by rw [hcls]; exact hnm) f2 (by rw [hcls, e0]; exact f3)
    (fun i v hv => by
      have hfit : fits .int v = true := va_fit (cA := V.2.1 0) (n := 6) (F := fun j => .int (fv j)) (fun i _ => rfl) i v (by rw [hsl] at hv; exact hv)
      rw [hcls]
      have hk' : T.vm.classes[V.2.1 0]? = some kA := hkA
      simpa [State.fitsSlot, State.slotType?, hk', hkind] using hfit)
    (g := F0 m pc la (.ref V.2.2.2 :: st)) rfl (by rw [hml]; exact hl.1) rfl (by rw [hb]; exact d) hfr (by show 2 * 0 + _ + 14 ≤ _; omega) (Nat.le_trans h3 hroom.2.2.1) (by rw [hsz]; exact Nat.le_trans h4 hroom.2.2.2) (hloader := by rw [hcls]; exact Vm.clonesLoader_of_array hkS hkindS)
  rw [hcE, hsz] at X'
  generalize hH1 : H.push (vp_cell (V.2.1 0) (6, .inl fv)) = H1
  have z1 : H1.size = H.size + 1 := by rw [← hH1, Array.size_push]
  have e1 : H1[H.size]? = some (vp_cell (V.2.1 0) (6, .inl fv)) := by rw [← hH1, Array.getElem?_push_size]
  have o1 : ∀ q : Nat, q < H.size → H1[q]? = H[q]? := fun q hq => by rw [← hH1, Array.getElem?_push, if_neg (Nat.ne_of_lt hq)]
  have hkp : ∀ (k : Nat) (y : Nat × va_E), (S ++ B)[k]? = some y → H1[y.1]? = H[y.1]? := fun k y hy => o1 y.1 ((hP k y hy).lt)
  have hP1 : va_P V.1 vwCl ((S ++ B) ++ [(H.size, .inl (V.2.1 0, 6, .inl fv))]) H1 := (hP.kept hkp).app (i_Pm.mpr (fun q hq => by
    rw [List.mem_singleton] at hq
    subst hq
    exact e1))
  have hD1 : va_D A ((S ++ B) ++ [(H.size, .inl (V.2.1 0, 6, .inl fv))]) := hD.push hP rfl (hA.1 _ hF.1)
  have hS1 : va_S A s.heap H1 locs := ⟨Nat.le_trans hF.1 (by omega), fun y h1 h2 => (o1 y (Nat.lt_of_lt_of_le h1 hF.1)).trans (hF.2.1 y h1 h2), hF.2.2⟩
  obtain ⟨t, b1, b2⟩ := k H.size H1 locs la (i_swapP hP1) (i_swapD hD1) hS1 hl ((T.setVm vm').pushCell (vp_cell (V.2.1 0) (6, .inl fv))) (by rw [← hH1, ← hT]; rfl) X'
  refine ⟨t, stp t ?_, b2⟩
  rw [hcE, hT]
  exact b1
end IK
