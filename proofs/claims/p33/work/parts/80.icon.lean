abbrev iV := va_G × (Nat → ClassId) × Nat × Nat
def i_ty (V : iV) : List (ClassId × FieldType) := [(V.2.1 0, .int), (V.2.1 1, .boolean), (V.2.1 2, .char), (V.2.1 3, .object RX6)]
def i_B (V : iV) : Nat → Prop := fun q => V.2.2.1 ≤ q
/-- the static array of the first values, as it stands at the start -/
def i_Z (V : iV) (U : State) (H : Heap) : Prop := va_Z RX7 "FIRST_VALUES" "[I" (.ref V.2.2.2) (i_B V) U H ∧ ¬ i_B V V.2.2.2 ∧ ∃ cell : Cell, H[V.2.2.2]? = some cell ∧ (∀ k, cell.vm ≠ .statics k) ∧ cell.vm ≠ .unknown ∧ cell.cls = V.2.1 0 ∧ cell.slots = (vp_cell (V.2.1 0) (6, .inl fv)).slots
def i_S (V : iV) (U : State) : Prop := va_K V.1 vwCl (i_ty V) U ∧ x_N U ∧ va_Nw (.castable "[I" "java/lang/Cloneable") U ∧ va_AO RX6 U
theorem i_S.warm {V : iV} {s U : State} (h : i_S V s) (hW : s.WarmedH U.vm) : i_S V U := ⟨va_K.moved hW.alike h.1, h.2.1.warm hW, va_Nw.warmC hW h.2.2.1, va_AO.moved hW.alike h.2.2.2⟩
theorem i_S.blind {V : iV} {U : State} (g : JFrame) (mk : MethodId) (a : Array Value) (h : i_S V U) : i_S V (U.calling g mk a) :=
  ⟨va_K.moved (u := U) (U := U.calling g mk a) (Vm.Alike.refl U.vm) h.1, x_N.same (U := U.calling g mk a) h.2.1 rfl, va_Nw.same rfl rfl h.2.2.1, va_AO.moved (u := U) (U := U.calling g mk a) (Vm.Alike.refl U.vm) h.2.2.2⟩
theorem i_Z.moved {V : iV} {u U : State} {H : Heap} (hvm : u.vm.Alike U.vm) (h : i_Z V u H) : i_Z V U H := ⟨h.1.moved hvm, h.2⟩
theorem i_Z.kept {V : iV} {A : Nat → Prop} {U : State} {H H1 : Heap} {locs : List Loc} (hA : ∀ q, A q → i_B V q) (h : i_Z V U H) (hS : va_S A H H1 locs) : i_Z V U H1 := by
  have hq : ∀ a : Nat, a < H.size → ¬ i_B V a → H1[a]? = H[a]? := fun a h1 h2 => hS.2.1 a h1 (fun z => h2 (hA a z))
  obtain ⟨h1, h2, cell, e, r⟩ := h
  exact ⟨h1.kept hq, h2, cell, by rw [hq _ (Array.getElem?_eq_some_iff.mp e).1 h2]; exact e, r⟩
theorem va_D1 {A : Nat → Prop} {h : Nat} {e : va_E} (ha : A h) : va_D A [(h, e)] := by
  refine ⟨fun i j p q hp hq _ => ?_, fun k q hk => ?_⟩
  · have h1 := (List.getElem?_eq_some_iff.mp hp).1
    have h2 := (List.getElem?_eq_some_iff.mp hq).1
    simp at h1 h2
    omega
  · have h1 := (List.getElem?_eq_some_iff.mp hk).1
    rw [show k = 0 by simp at h1; omega] at hk
    cases hk
    exact ha
def iPre (V : iV) (h0 sz : Nat) (e : va_E) : State → Prop := fun U => U.heap.size = sz ∧ va_P V.1 vwCl [(h0, e)] U.heap ∧ i_S V U ∧ i_Z V U U.heap
def iPost (V : iV) (h0 sz : Nat) (e : va_E) (W : (Nat → Nat → Nat) → va_W) : (Nat → Nat → Nat) → State → Prop := fun u t => va_P V.1 vwCl (W u) t.heap ∧ va_D (va_A [(h0, e)] sz) (W u)
/-- a constructor: from the blank object e at h0 it makes the world W -/
def CK (V : iV) (y : MethodName) (cc : ByteArray) (nL F L mc ms : Nat) (e : va_E) (post : Nat → (Nat → Nat → Nat) → Prop) (W : (Nat → Nat → Nat) → va_W) : Prop :=
  ∀ (l : Launch) (h0 sz : Nat), i_B V h0 → i_B V sz → Met l y (.code y cc nL none :: big) { frames := F, cells := mc, slots := ms, locals := L } (va_Pc [.ref h0] (iPre V h0 sz e)) (va_Qv (S := Nat → Nat → Nat) (post h0) (iPost V h0 sz e W) (va_A [(h0, e)] sz)) mc ms (va_A [(h0, e)] sz)
def ij (V : iV) (A : Nat → Prop) : gT → va_W → va_W → Nat → Nat → Nat → List (Nat × Value) → List Value → Prop
  | (p, l, e, R, s, m, args, below, meth, c, _, _, Q, nL), S, B, kc, ks, pc, lv, st => ∀ (H : Heap) (locs : List Loc) (la : Array Slot), va_P V.1 vwCl (S ++ B) H → va_D A (S ++ B) → va_S A s.heap H locs → lv_has la nL lv → W p l e R s m args below meth c H locs kc ks Q (F0 m pc la st)
def OkI (V : iV) (A : Nat → Prop) (own : String) (cc : ByteArray) (F L mc ms : Nat) : gT → Prop
  | (p, _, _, R, s, m, args, _, meth, c, _, _, _, nL) => p.tables.exec = Jvm.exec ∧ c.code = cc ∧ c.maxLocals = nL ∧ s.vm.findClass own = some m.cls ∧ (∀ w ∈ big, w.before args s = true) ∧ i_S V s ∧ i_Z V s s.heap ∧ ((∀ q, s.heap.size ≤ q → A q) ∧ ∀ q, A q → i_B V q) ∧ (F ≤ R.frames ∧ L ≤ R.locals ∧ mc ≤ R.cells ∧ ms ≤ R.slots) ∧ meth.locks = false
def Ini : gT → Prop
  | (_, _, _, _, _, _, _, _, meth, _, _, _, _, _) => meth.name = "<init>"
section IR
variable {V : iV} {A : Nat → Prop} {own : String} {cc : ByteArray} {F L mc ms : Nat} {Γ : gT} {S B : va_W} {kc ks : Nat} {lv : List (Nat × Value)} {st : List Value}
theorem ir_aload_n (hO : OkI V A own cc F L mc ms Γ) (pc : Nat) {i : Fin 4} {x : Nat} (q : Nat) (hq : lv[q]? = some ((i : Nat), .ref x)) (d : decode cc pc = .ok (.aload_n i, 1)) (k : ij V A Γ S B kc ks (pc + 1) lv (.ref x :: st)) : ij V A Γ S B kc ks pc lv st := by
  obtain ⟨p, l, e, R, s, m, args, below, meth, c, kc0, ks0, Q, nL⟩ := Γ
  obtain ⟨hx, hb, hml, hown, hts, hS, hZ, hA, hroom, hlk⟩ := hO
  intro H locs la hP hD hF hl
  exact lv_aload_n hx hb d rfl (lv_at hl q hq) (k H locs la hP hD hF hl)
theorem ir_iload_n (hO : OkI V A own cc F L mc ms Γ) (pc : Nat) {i : Fin 4} {x : Int32} (q : Nat) (hq : lv[q]? = some ((i : Nat), .int x)) (d : decode cc pc = .ok (.iload_n i, 1)) (k : ij V A Γ S B kc ks (pc + 1) lv (.int x :: st)) : ij V A Γ S B kc ks pc lv st := by
  obtain ⟨p, l, e, R, s, m, args, below, meth, c, kc0, ks0, Q, nL⟩ := Γ
  obtain ⟨hx, hb, hml, hown, hts, hS, hZ, hA, hroom, hlk⟩ := hO
  intro H locs la hP hD hF hl
  exact lv_iload_n hx hb d rfl (lv_at hl q hq) (k H locs la hP hD hF hl)
theorem ir_istore_n (hO : OkI V A own cc F L mc ms Γ) (pc : Nat) {i : Nat} {k4 : Fin 4} {x v : Int32} {n : Nat} {lv' : List (Nat × Value)} (ev : v = x) (hn : gL Γ = n) (hi : (k4 : Nat) = i) (h4 : i < n) (hlv : (i, Value.int v) :: lv.filter (fun q => !(q.1 == i) && !(q.1 + 1 == i && q.2.category == 2)) = lv') (d : decode cc pc = .ok (.istore_n k4, 1)) (k : ij V A Γ S B kc ks (pc + 1) lv' st) : ij V A Γ S B kc ks pc lv (.int x :: st) := by
  obtain ⟨p, l, e, R, s, m, args, below, meth, c, kc0, ks0, Q, nL⟩ := Γ
  obtain ⟨hx, hb, hml, hown, hts, hS, hZ, hA, hroom, hlk⟩ := hO
  intro H locs la hP hD hF hl
  subst hn
  subst ev
  exact lv_istore_n hx hb d hi hl h4 hlv (fun la hl => k H locs la hP hD hF hl)
theorem ir_astore_n (hO : OkI V A own cc F L mc ms Γ) (pc : Nat) {i : Nat} {k4 : Fin 4} {x v : Nat} {n : Nat} {lv' : List (Nat × Value)} (ev : v = x) (hn : gL Γ = n) (hi : (k4 : Nat) = i) (h4 : i < n) (hlv : (i, Value.ref v) :: lv.filter (fun q => !(q.1 == i) && !(q.1 + 1 == i && q.2.category == 2)) = lv') (d : decode cc pc = .ok (.astore_n k4, 1)) (k : ij V A Γ S B kc ks (pc + 1) lv' st) : ij V A Γ S B kc ks pc lv (.ref x :: st) := by
  obtain ⟨p, l, e, R, s, m, args, below, meth, c, kc0, ks0, Q, nL⟩ := Γ
  obtain ⟨hx, hb, hml, hown, hts, hS, hZ, hA, hroom, hlk⟩ := hO
  intro H locs la hP hD hF hl
  subst hn
  subst ev
  exact lv_astore_n hx hb d hi hl h4 hlv (fun la hl => k H locs la hP hD hF hl)
theorem ir_iinc (hO : OkI V A own cc F L mc ms Γ) (pc : Nat) {i q : Nat} {n : Int} {x v : Int32} {nl : Nat} {lv' : List (Nat × Value)} (hn : gL Γ = nl) (hq : lv[q]? = some (i, .int x)) (hv : x + Int32.ofInt n = v) (h4 : i < nl) (hlv : (i, Value.int v) :: lv.filter (fun q => !(q.1 == i) && !(q.1 + 1 == i && q.2.category == 2)) = lv') (d : decode cc pc = .ok (.iinc i n, 3)) (k : ij V A Γ S B kc ks (pc + 3) lv' st) : ij V A Γ S B kc ks pc lv st := by
  obtain ⟨p, l, e, R, s, m, args, below, meth, c, kc0, ks0, Q, nL⟩ := Γ
  obtain ⟨hx, hb, hml, hown, hts, hS, hZ, hA, hroom, hlk⟩ := hO
  intro H locs la hP hD hF hl
  subst hn
  exact lv_iinc hx hb d hl hq hv h4 hlv (fun la hl => k H locs la hP hD hF hl)
theorem ir_iconst (hO : OkI V A own cc F L mc ms Γ) (pc : Nat) {n : Int} {v : Int32} (hv : Int32.ofInt n = v) (d : decode cc pc = .ok (.iconst n, 1)) (k : ij V A Γ S B kc ks (pc + 1) lv (.int v :: st)) : ij V A Γ S B kc ks pc lv st := by
  obtain ⟨p, l, e, R, s, m, args, below, meth, c, kc0, ks0, Q, nL⟩ := Γ
  obtain ⟨hx, hb, hml, hown, hts, hS, hZ, hA, hroom, hlk⟩ := hO
  intro H locs la hP hD hF hl
  exact lv_iconst hx hb d hv (k H locs la hP hD hF hl)
theorem ir_bipush (hO : OkI V A own cc F L mc ms Γ) (pc : Nat) {n : Int} {v : Int32} (hv : (Int8.ofInt n).toInt32 = v) (d : decode cc pc = .ok (.bipush n, 2)) (k : ij V A Γ S B kc ks (pc + 2) lv (.int v :: st)) : ij V A Γ S B kc ks pc lv st := by
  obtain ⟨p, l, e, R, s, m, args, below, meth, c, kc0, ks0, Q, nL⟩ := Γ
  obtain ⟨hx, hb, hml, hown, hts, hS, hZ, hA, hroom, hlk⟩ := hO
  intro H locs la hP hD hF hl
  exact lv_bipush hx hb d hv (k H locs la hP hD hF hl)
theorem ir_sipush (hO : OkI V A own cc F L mc ms Γ) (pc : Nat) {n : Int} {v : Int32} (hv : (Int16.ofInt n).toInt32 = v) (d : decode cc pc = .ok (.sipush n, 3)) (k : ij V A Γ S B kc ks (pc + 3) lv (.int v :: st)) : ij V A Γ S B kc ks pc lv st := by
  obtain ⟨p, l, e, R, s, m, args, below, meth, c, kc0, ks0, Q, nL⟩ := Γ
  obtain ⟨hx, hb, hml, hown, hts, hS, hZ, hA, hroom, hlk⟩ := hO
  intro H locs la hP hD hF hl
  exact lv_sipush hx hb d hv (k H locs la hP hD hF hl)
theorem ir_dup (hO : OkI V A own cc F L mc ms Γ) (pc : Nat) {v : Value} (hc : v.category = 1) (d : decode cc pc = .ok (.dup, 1)) (k : ij V A Γ S B kc ks (pc + 1) lv (v :: v :: st)) : ij V A Γ S B kc ks pc lv (v :: st) := by
  obtain ⟨p, l, e, R, s, m, args, below, meth, c, kc0, ks0, Q, nL⟩ := Γ
  obtain ⟨hx, hb, hml, hown, hts, hS, hZ, hA, hroom, hlk⟩ := hO
  intro H locs la hP hD hF hl
  exact lv_dup hx hb d hc (k H locs la hP hD hF hl)
theorem ir_goto (hO : OkI V A own cc F L mc ms Γ) (pc : Nat) {off : Int} (tgt : Nat) (ht : (pc : Int) + off = (tgt : Int)) (d : decode cc pc = .ok (.goto off, 3)) (k : ij V A Γ S B kc ks tgt lv st) : ij V A Γ S B kc ks pc lv st := by
  obtain ⟨p, l, e, R, s, m, args, below, meth, c, kc0, ks0, Q, nL⟩ := Γ
  obtain ⟨hx, hb, hml, hown, hts, hS, hZ, hA, hroom, hlk⟩ := hO
  intro H locs la hP hD hF hl
  exact lv_goto hx hb d ht (k H locs la hP hD hF hl)
theorem ir_icmp_gt (hO : OkI V A own cc F L mc ms Γ) (pc : Nat) {x y : Int32} {off : Int} (tgt : Nat) (ht : (pc : Int) + off = (tgt : Int)) (d : decode cc pc = .ok (.if_icmp .gt off, 3)) (kt : y < x → ij V A Γ S B kc ks tgt lv st) (kf : ¬ (y < x) → ij V A Γ S B kc ks (pc + 3) lv st) : ij V A Γ S B kc ks pc lv (.int y :: .int x :: st) := by
  obtain ⟨p, l, e, R, s, m, args, below, meth, c, kc0, ks0, Q, nL⟩ := Γ
  obtain ⟨hx, hb, hml, hown, hts, hS, hZ, hA, hroom, hlk⟩ := hO
  intro H locs la hP hD hF hl
  exact lv_icmp_gt hx hb d ht (fun h => kt h H locs la hP hD hF hl) (fun h => kf h H locs la hP hD hF hl)
theorem ir_icmp_ge (hO : OkI V A own cc F L mc ms Γ) (pc : Nat) {x y : Int32} {off : Int} (tgt : Nat) (ht : (pc : Int) + off = (tgt : Int)) (d : decode cc pc = .ok (.if_icmp .ge off, 3)) (kt : y ≤ x → ij V A Γ S B kc ks tgt lv st) (kf : ¬ (y ≤ x) → ij V A Γ S B kc ks (pc + 3) lv st) : ij V A Γ S B kc ks pc lv (.int y :: .int x :: st) := by
  obtain ⟨p, l, e, R, s, m, args, below, meth, c, kc0, ks0, Q, nL⟩ := Γ
  obtain ⟨hx, hb, hml, hown, hts, hS, hZ, hA, hroom, hlk⟩ := hO
  intro H locs la hP hD hF hl
  exact lv_icmp_ge hx hb d ht (fun h => kt h H locs la hP hD hF hl) (fun h => kf h H locs la hP hD hF hl)
/-- Object's constructor -/
theorem ir_objInit (hO : OkI V A own cc F L mc ms Γ) (pc : Nat) {idx a : Nat} (hw : Cond.methodLink own idx Lib.objectInit ∈ big) (hw2 : Cond.instanceMethod Lib.objectInit ∈ big) (hw3 : Cond.code Lib.objectInit ⟨#[0xb1]⟩ 1 none ∈ big) (hF1 : 1 ≤ F) (hL1 : 12 ≤ L) (d : decode cc pc = .ok (.invokespecial idx, 3)) (k : ij V A Γ S B kc ks (pc + 3) lv []) : ij V A Γ S B kc ks pc lv [.ref a] := by
  obtain ⟨p, l, e, R, s, m, args, below, meth, c, kc0, ks0, Q, nL⟩ := Γ
  obtain ⟨hx, hb, hml, hown, hts, hS, hZ, hA, hroom, hlk⟩ := hO
  intro H locs la hP hD hF hl
  have h1 : 1 ≤ R.frames := Nat.le_trans hF1 hroom.1
  have h2 : 12 ≤ R.locals := Nat.le_trans hL1 hroom.2.1
  refine W.objInit (g := F0 m pc la [.ref a]) hx hb hown (hts _ hw) (hts _ hw2) (hts _ hw3) rfl (by rw [hml]; exact hl.1) rfl d h1 h2 ?_
  exact W.eq (g2 := F0 m (pc + 3) la []) rfl (k H locs la hP hD hF hl)
theorem i_swapP {D : va_G} {cl : List vw_C} {S B : va_W} {x : Nat × va_E} {H : Heap} (h : va_P D cl ((S ++ B) ++ [x]) H) : va_P D cl ((S ++ [x]) ++ B) H := va_P.swap h
theorem i_swapD {S B : va_W} {x : Nat × va_E} (h : va_D A ((S ++ B) ++ [x])) : va_D A ((S ++ [x]) ++ B) := va_D.swap h
/-- a new array of whole numbers, signs or truth values -/
theorem ir_newi (hO : OkI V A own cc F L mc ms Γ) (pc : Nat) {t N : Nat} {ty : FieldType} {aty : ArrayType} {n : Int32} {kc1 ks1 : Nat} (hty : newarray.typeOf aty = ty) (hw : Cond.arrayClass (newarray.typeOf aty) ∈ big) (ht : (i_ty V)[t]? = some (V.2.1 t, ty)) (hra : ∀ (U : State) (cA : ClassId), va_RA U cA ty → U.vm.findClass ("[" ++ ty.toString) = some cA)
    (ha : ∀ cA : ClassId, vp_cell cA (N, .inl (fun _ => 0)) = arrV cA N (fun _ => defaultValue ty)) (hn : ¬ n < 0) (hN : n.toNatClampNeg = N) (hbytes : N * componentBytes ty ≤ 536870912) (h1 : kc + 1 = kc1) (h2 : ks + N = ks1) (h3 : kc1 ≤ mc) (h4 : ks1 ≤ ms) (d : decode cc pc = .ok (.newarray aty, 2))
    (k : ∀ q : Nat, ij V A Γ (S ++ [(q, .inl (V.2.1 t, N, .inl (fun _ => 0)))]) B kc1 ks1 (pc + 2) lv (.ref q :: st)) : ij V A Γ S B kc ks pc lv (.int n :: st) := by
  obtain ⟨p, l, e, R, s, m, args, below, meth, c, kc0, ks0, Q, nL⟩ := Γ
  obtain ⟨hx, hb, hml, hown, hts, hS, hZ, hA, hroom, hlk⟩ := hO
  intro H locs la hP hD hF hl
  subst h1
  subst h2
  refine va_newa (a0 := (N, .inl (fun _ => 0))) hx hb (hts _ hw) hty hS.1 hP hD hF hA.1 ha hn hN hbytes (Nat.le_trans h3 hroom.2.2.1) (Nat.le_trans h4 hroom.2.2.2) d (fun q cA H1 hK1 hP1 hD1 hS1 => ?_)
  have e1 := hra s _ (hK1.2 (i_ty V).length (cA, ty) (by rw [List.getElem?_append_right (Nat.le_refl _), Nat.sub_self]; rfl)).2
  have e2 := hra s _ (hS.1.2 t _ ht).2
  have e3 : cA = V.2.1 t := Option.some.inj (e1.symm.trans e2)
  subst e3
  exact k q H1 locs la (i_swapP hP1) (i_swapD hD1) hS1 hl
/-- a new array of references -/
theorem ir_newq (hO : OkI V A own cc F L mc ms Γ) (pc : Nat) {N idx : Nat} {n : Int32} {kc1 ks1 : Nat} (hw : Cond.classLink own idx RX6 ∈ big) (hn : ¬ n < 0) (hN : n.toNatClampNeg = N) (hbytes : N * 4 ≤ 536870912) (h1 : kc + 1 = kc1) (h2 : ks + N = ks1) (h3 : kc1 ≤ mc) (h4 : ks1 ≤ ms) (d : decode cc pc = .ok (.anewarray idx, 3))
    (k : ∀ q : Nat, ij V A Γ (S ++ [(q, .inl (V.2.1 3, N, .inr (.inr (.inr (.inr (fun _ => none))))))]) B kc1 ks1 (pc + 3) lv (.ref q :: st)) : ij V A Γ S B kc ks pc lv (.int n :: st) := by
  obtain ⟨p, l, e, R, s, m, args, below, meth, c, kc0, ks0, Q, nL⟩ := Γ
  obtain ⟨hx, hb, hml, hown, hts, hS, hZ, hA, hroom, hlk⟩ := hO
  intro H locs la hP hD hF hl
  subst h1
  subst h2
  refine va_newq hx hb hown (hts _ hw) hS.2.2.2 hS.1 hP hD hF hA.1 hn hN hbytes (Nat.le_trans h3 hroom.2.2.1) (Nat.le_trans h4 hroom.2.2.2) d (fun q cA H1 hK1 hP1 hD1 hS1 => ?_)
  obtain ⟨-, -, -, -, -, e1⟩ := (hK1.2 (i_ty V).length (cA, .object RX6) (by rw [List.getElem?_append_right (Nat.le_refl _), Nat.sub_self]; rfl)).2
  obtain ⟨-, -, -, -, -, e2⟩ := (hS.1.2 3 (V.2.1 3, .object RX6) rfl).2
  have e3 : cA = V.2.1 3 := Option.some.inj (e1.symm.trans e2)
  subst e3
  exact k q H1 locs la (i_swapP hP1) (i_swapD hD1) hS1 hl
theorem ir_new (hO : OkI V A own cc F L mc ms Γ) (pc : Nat) {C : String} {Tb : u_T} {N ci idx : Nat} {fs : List Value} {kc1 ks1 : Nat} (hc : vwCl[ci]? = some (C, Tb, N)) (hin : ∀ w ∈ u_ws C Tb N, w ∈ big) (ty : Nat → FieldType) (hty : ∀ k, k < N → parseFieldDescriptor (Tb k).2.2.1 = some (ty k)) (hw : Cond.classLink own idx C ∈ big) (hw2 : Cond.instantiable C N ∈ big) (hw3 : Cond.initialized C ∈ big)
    (hfs : ∀ j, j < N → defaultValue (ty j) = vp_V fs j) (h1 : kc + 1 = kc1) (h2 : ks + N = ks1) (h3 : kc1 ≤ mc) (h4 : ks1 ≤ ms) (d : decode cc pc = .ok (.new idx, 3))
    (k : ∀ q : Nat, ij V A Γ (S ++ [(q, .inr (ci, fs))]) B kc1 ks1 (pc + 3) lv (.ref q :: st)) : ij V A Γ S B kc ks pc lv st := by
  obtain ⟨p, l, e, R, s, m, args, below, meth, c, kc0, ks0, Q, nL⟩ := Γ
  obtain ⟨hx, hb, hml, hown, hts, hS, hZ, hA, hroom, hlk⟩ := hO
  intro H locs la hP hD hF hl
  subst h1
  subst h2
  refine va_new hx hb hts hin ty hty hown (hts _ hw) (hts _ hw2) (hts _ hw3) hS.1 hP hD hF hA.1 hc hfs (Nat.le_trans h3 hroom.2.2.1) (Nat.le_trans h4 hroom.2.2.2) d (fun q H1 hP1 hD1 hS1 => ?_)
  exact k q H1 locs la (i_swapP hP1) (i_swapD hD1) hS1 hl
theorem i_setA {q0 : Nat} {x y : Nat × va_E} (h : S[q0]? = some x) : (S ++ B)[q0]? = some x ∧ (S ++ B).set q0 y = S.set q0 y ++ B := by
  have hl := (List.getElem?_eq_some_iff.mp h).1
  exact ⟨by rw [List.getElem?_append_left hl]; exact h, by rw [List.set_append_left _ _ hl]⟩
theorem ir_putF (hO : OkI V A own cc F L mc ms Γ) (hI : Ini Γ) (pc : Nat) {C : String} {Tb : u_T} {N ci idx q0 a k : Nat} {fs : List Value} {v : Value} {fty : FieldType} {S' : va_W} (hq : S[q0]? = some (a, .inr (ci, fs))) (hS1 : S.set q0 (a, .inr (ci, fs.set k v)) = S') (hc : vwCl[ci]? = some (C, Tb, N)) (hin : ∀ w ∈ u_ws C Tb N, w ∈ big) (ty : Nat → FieldType) (hty : ∀ k, k < N → parseFieldDescriptor (Tb k).2.2.1 = some (ty k)) (hnm : ∀ a, a < N → ∀ b, b < N → a ≠ b → (Tb a).2.1 ≠ (Tb b).2.1)
    (hk : k < N) (hw : Cond.fieldLink own idx C (Tb k).2.1 (Tb k).2.2.1 ∈ big) (hs : (Tb k).1 = C) (hfin : (Tb k).2.2.2 = true) (hdecl : (Tb k).1 = own) (hd : parseFieldDescriptor (Tb k).2.2.1 = some fty) (hn : narrow fty v = v) (hfit : fits fty v = true) (hl2 : k < fs.length) (d : decode cc pc = .ok (.putfield idx, 3))
    (kk : ij V A Γ S' B kc ks (pc + 3) lv st) : ij V A Γ S B kc ks pc lv (v :: .ref a :: st) := by
  obtain ⟨p, l, e, R, s, m, args, below, meth, c, kc0, ks0, Q, nL⟩ := Γ
  obtain ⟨hx, hb, hml, hown, hts, hS, hZ, hA, hroom, hlk⟩ := hO
  intro H locs la hP hD hF hl
  subst hS1
  refine va_putF (D := V.1) (ci := ci) (v := v) (ty := fty) (C := C) (T := Tb) (N := N) hx hb hts hin ty hty hnm hown hS.1 hP hD hF q0 (i_setA (B := B) (y := (a, .inr (ci, fs))) hq).1 hc k hk (hts _ hw) (fun x h => by rw [hs] at h; exact h) hfin hI hdecl hd hn hfit hl2 d (fun H1 locs1 hP1 hD1 hS1 => ?_)
  rw [(i_setA hq).2] at hP1 hD1
  exact kk H1 locs1 la hP1 hD1 hS1 hl
theorem ir_get (hO : OkI V A own cc F L mc ms Γ) (pc : Nat) {C : String} {Tb : u_T} {N ci idx q0 a k : Nat} {fs : List Value} {v : Value} (hq : S[q0]? = some (a, .inr (ci, fs))) (hc : vwCl[ci]? = some (C, Tb, N)) (hin : ∀ w ∈ u_ws C Tb N, w ∈ big) (hk : k < N) (hw : Cond.fieldLink own idx C (Tb k).2.1 (Tb k).2.2.1 ∈ big) (hs : (Tb k).1 = C) (hf : fs[k]? = some v) (d : decode cc pc = .ok (.getfield idx, 3))
    (kk : ij V A Γ S B kc ks (pc + 3) lv (v :: st)) : ij V A Γ S B kc ks pc lv (.ref a :: st) := by
  obtain ⟨p, l, e, R, s, m, args, below, meth, c, kc0, ks0, Q, nL⟩ := Γ
  obtain ⟨hx, hb, hml, hown, hts, hS, hZ, hA, hroom, hlk⟩ := hO
  intro H locs la hP hD hF hl
  exact va_get (D := V.1) (ci := ci) (v := v) (C := C) (T := Tb) (N := N) hx hb hts hin hown hS.1 hP q0 (i_setA (B := B) (y := (a, .inr (ci, fs))) hq).1 hc k hk (hts _ hw) (fun x h => by rw [hs] at h; exact h) hf d (kk H locs la hP hD hF hl)
theorem ir_iast (hO : OkI V A own cc F L mc ms Γ) (pc : Nat) {q0 a n : Nat} {f : Nat → Int32} {i x : Int32} {S' : va_W} (hq : S[q0]? = some (a, .inl (V.2.1 0, n, .inl f))) (hS1 : S.set q0 (a, .inl (V.2.1 0, n, .inl (upd f i.toNatClampNeg x))) = S') (hi : inb i n = true) (d : decode cc pc = .ok (.iastore, 1)) (kk : ij V A Γ S' B kc ks (pc + 1) lv st) : ij V A Γ S B kc ks pc lv (.int x :: .int i :: .ref a :: st) := by
  obtain ⟨p, l, e, R, s, m, args, below, meth, c, kc0, ks0, Q, nL⟩ := Γ
  obtain ⟨hx, hb, hml, hown, hts, hS, hZ, hA, hroom, hlk⟩ := hO
  intro H locs la hP hD hF hl
  subst hS1
  refine va_iast hx hb hS.1 hP hD hF q0 0 (i_setA (B := B) (y := (a, .inl (V.2.1 0, n, .inl f))) hq).1 rfl (inb_in hi) d (fun H1 locs1 hP1 hD1 hS1 => ?_)
  rw [(i_setA hq).2] at hP1 hD1
  exact kk H1 locs1 la hP1 hD1 hS1 hl
theorem ir_aast (hO : OkI V A own cc F L mc ms Γ) (pc : Nat) {q0 qk a n v : Nat} {f : Nat → Option Nat} {vs : List Value} {i : Int32} {S' : va_W} (hq : S[q0]? = some (a, .inl (V.2.1 3, n, .inr (.inr (.inr (.inr f)))))) (hv : (S ++ B)[qk]? = some (v, .inr (6, vs))) (hS1 : S.set q0 (a, .inl (V.2.1 3, n, .inr (.inr (.inr (.inr (va_up f i.toNatClampNeg (some v))))))) = S') (hi : inb i n = true) (d : decode cc pc = .ok (.aastore, 1)) (kk : ij V A Γ S' B kc ks (pc + 1) lv st) : ij V A Γ S B kc ks pc lv (.ref v :: .int i :: .ref a :: st) := by
  obtain ⟨p, l, e, R, s, m, args, below, meth, c, kc0, ks0, Q, nL⟩ := Γ
  obtain ⟨hx, hb, hml, hown, hts, hS, hZ, hA, hroom, hlk⟩ := hO
  intro H locs la hP hD hF hl
  subst hS1
  refine va_astq (r := (RX6, TX6, 14)) hx hb hS.1 hP hD hF q0 3 qk 6 (i_setA (B := B) (y := (a, .inl (V.2.1 3, n, .inr (.inr (.inr (.inr f)))))) hq).1 rfl hv rfl (inb_in hi) d (fun H1 locs1 hP1 hD1 hS1 => ?_)
  rw [(i_setA hq).2] at hP1 hD1
  exact kk H1 locs1 la hP1 hD1 hS1 hl
end IR
