theorem q_ups0 {μ : mT} {κ j : Nat} {f : Nat → Int32} : upR μ κ j f κ j = f := by
  unfold upR
  rw [if_pos ⟨rfl, rfl⟩]
theorem q_upr0 {μ : mT} {κ j : Nat} {f : Nat → Int32} {κ' j' : Nat} (h : κ' ≠ κ) : upR μ κ j f κ' j' = μ κ' j' := by
  unfold upR
  rw [if_neg (fun z => h z.1)]
theorem y_Pm {D : va_G} {cl : List vw_C} {ws : va_W} {H : Heap} : va_P D cl ws H ↔ ∀ q ∈ ws, va_at D cl q H :=
  ⟨fun h q hq => by
    obtain ⟨k, hk⟩ := List.getElem?_of_mem hq
    exact h k q hk, fun h k q hk => h q (List.mem_of_getElem? hk)⟩
def yNe : Nat × va_E → Nat × va_E → Prop := fun p q => p.1 ≠ q.1
theorem y_Dw {A : Nat → Prop} {ws : va_W} : va_D A ws ↔ (ws.map Prod.fst).Nodup ∧ ∀ a ∈ ws.map Prod.fst, A a := by
  constructor
  · intro h
    refine ⟨?_, fun a ha => ?_⟩
    · unfold List.Nodup
      rw [List.pairwise_iff_getElem]
      intro i j hi hj hij e
      rw [List.length_map] at hi hj
      rw [List.getElem_map, List.getElem_map] at e
      have := h.1 i j _ _ (List.getElem?_eq_getElem hi) (List.getElem?_eq_getElem hj) e
      omega
    · obtain ⟨q, hq, rfl⟩ := List.mem_map.mp ha
      obtain ⟨k, hk⟩ := List.getElem?_of_mem hq
      exact h.2 k q hk
  · rintro ⟨h1, h2⟩
    refine ⟨fun i j p q hp hq e => ?_, fun k q hk => h2 _ (List.mem_map.mpr ⟨q, List.mem_of_getElem? hk, rfl⟩)⟩
    exact nd_inj h1 (w := p.1) (by rw [List.getElem?_map, hp]; rfl) (by rw [List.getElem?_map, hq, e]; rfl)
theorem y_Da {A : Nat → Prop} {ws ws' : va_W} (e : ws'.map Prod.fst = ws.map Prod.fst) (h : va_D A ws) : va_D A ws' := by
  rw [y_Dw] at h ⊢
  rw [e]
  exact h
abbrev scT := Nat × Nat × (Nat → Int32)
abbrev aT := List (Nat × Nat)
def y_A (X : xT) : Nat → Prop := fun a => X.2.2.2 ≤ a
def x_l (X : xT) (as : aT) (μ : mT) : va_W := as.map fun p => (p.2, .inl (X.2.2.1 0, 32, .inl (μ p.1 0)))
def y_w (X : xT) (as : aT) (μ : mT) : va_W := x_w X μ ++ x_l X as μ
def y_R (X : xT) (U : State) (H : Heap) : Prop := va_Z RX7 "LEAST_VALUES" "[I" (.ref (X.1 40 0)) (y_A X) U H ∧ va_Z RX7 "MOST_VALUES" "[I" (.ref (X.1 41 0)) (y_A X) U H ∧ ∀ κ, κ = 40 ∨ κ = 41 → va_T .int (X.1 κ 0) 6 (fun k => .int (cst κ k)) (y_A X) U H
theorem y_R.moved {X : xT} {u U : State} {H : Heap} (hvm : u.vm.Alike U.vm) (h : y_R X u H) : y_R X U H := ⟨h.1.moved hvm, h.2.1.moved hvm, fun κ hκ => (h.2.2 κ hκ).moved hvm⟩
theorem y_R.kept {X : xT} {U : State} {H H1 : Heap} {locs : List Loc} (h : y_R X U H) (hS : va_S (y_A X) H H1 locs) : y_R X U H1 := ⟨h.1.kept hS.2.1, h.2.1.kept hS.2.1, fun κ hκ => (h.2.2 κ hκ).kept hS.2.1⟩
theorem x_Ay {X : xT} (hX : xOK X) {q : Nat} (h : x_A X q) : y_A X q := by
  obtain ⟨n, hn, rfl⟩ := h
  exact hX.2 n hn
theorem va_Zw {C n d : String} {v : Value} {A A' : Nat → Prop} {U : State} {H : Heap} (hA : ∀ q, A' q → A q) (h : va_Z C n d v A U H) : va_Z C n d v A' U H := by
  obtain ⟨cf, kf, fi, f, a, cell, h1, h2, h3, h4, h5, h6, h7, h8⟩ := h
  exact ⟨cf, kf, fi, f, a, cell, h1, h2, h3, h4, h5, h6, h7, fun z => h8 (hA a z)⟩
theorem va_Tw {ty : FieldType} {t N : Nat} {f : Nat → Value} {A A' : Nat → Prop} {U : State} {H : Heap} (hA : ∀ q, A' q → A q) (h : va_T ty t N f A U H) : va_T ty t N f A' U H := by
  obtain ⟨cell, h1, h2, h3, h4, h5, h6, h7⟩ := h
  exact ⟨cell, h1, h2, h3, h4, h5, h6, fun z => h7 (hA t z)⟩
theorem y_R.x {X : xT} {U : State} {H : Heap} (hX : xOK X) (h : y_R X U H) : x_R X U H := ⟨va_Zw (fun _ => x_Ay hX) h.1, va_Zw (fun _ => x_Ay hX) h.2.1, fun κ hκ => va_Tw (fun _ => x_Ay hX) (h.2.2 κ hκ)⟩
def y_Z (X : xT) (Z : scT) (U : State) (H : Heap) : Prop := va_X Z.1 Z.2.1 Z.2.2 U H ∧ ¬ y_A X Z.1 ∧ X.2.2.2 ≤ H.size
theorem y_Z.lt {X : xT} {Z : scT} {U : State} {H : Heap} (h : y_Z X Z U H) : Z.1 < H.size := by
  have := h.2.1
  have := h.2.2
  unfold y_A at *
  omega
theorem y_Z.moved {X : xT} {Z : scT} {u U : State} {H : Heap} (hvm : u.vm.Alike U.vm) (h : y_Z X Z u H) : y_Z X Z U H := ⟨h.1.moved hvm, h.2⟩
theorem y_Z.kept {X : xT} {Z : scT} {U : State} {H H1 : Heap} {locs : List Loc} (h : y_Z X Z U H) (hS : va_S (y_A X) H H1 locs) : y_Z X Z U H1 := ⟨h.1.kept (hS.2.1 _ h.lt h.2.1), h.2.1, Nat.le_trans h.2.2 hS.1⟩
def yD (X : xT) (as : aT) : Prop := (as.map Prod.fst).Nodup ∧ (∀ p ∈ as, 40 ≤ p.1) ∧ ∀ μ, va_D (y_A X) (y_w X as μ)
def y_G (X : xT) (Z : scT) (as : aT) (μ : mT) (U : State) : Prop := yD X as ∧ va_P X.2.1 vwCl (y_w X as μ) U.heap ∧ va_K X.2.1 vwCl (x_ty X) U ∧ x_N U ∧ y_R X U U.heap ∧ y_Z X Z U U.heap
theorem y_G.blind {X : xT} {Z : scT} {as : aT} {μ : mT} {U : State} (g : JFrame) (mk : MethodId) (a : Array Value) (h : y_G X Z as μ U) : y_G X Z as μ (U.calling g mk a) :=
  ⟨h.1, h.2.1, va_K.moved (u := U) (U := U.calling g mk a) (Vm.Alike.refl U.vm) h.2.2.1, x_N.same (U := U.calling g mk a) h.2.2.2.1 rfl, y_R.moved (u := U) (U := U.calling g mk a) (Vm.Alike.refl U.vm) h.2.2.2.2.1, y_Z.moved (u := U) (U := U.calling g mk a) (Vm.Alike.refl U.vm) h.2.2.2.2.2⟩
theorem y_G.to {X : xT} {Z : scT} {as : aT} {μ : mT} {s U : State} {H : Heap} {locs : List Loc} (hK : va_K X.2.1 vwCl (x_ty X) s) (hN : x_N s) (hR : y_R X s s.heap) (hZ : y_Z X Z s s.heap) (hD : yD X as) (hS : va_S (y_A X) s.heap H locs) (hP : va_P X.2.1 vwCl (y_w X as μ) H) (hU : U.heap = H) (hW : s.WarmedH U.vm) : y_G X Z as μ U :=
  ⟨hD, by rw [hU]; exact hP, va_K.moved hW.alike hK, hN.warm hW, by rw [hU]; exact (hR.kept hS).moved hW.alike, by rw [hU]; exact (hZ.kept hS).moved hW.alike⟩
theorem y_Gx {X : xT} {as : aT} {μ : mT} {s U : State} {H : Heap} {locs : List Loc} (hX : xOK X) (hK : va_K X.2.1 vwCl (x_ty X) s) (hN : x_N s) (hR : y_R X s s.heap) (hS : va_S (y_A X) s.heap H locs) (hP : va_P X.2.1 vwCl (y_w X as μ) H) (hU : U.heap = H) (hW : s.WarmedH U.vm) : x_G X μ U :=
  ⟨by rw [hU]; exact y_Pm.mpr (fun q hq => y_Pm.mp hP q (List.mem_append_left _ hq)), va_K.moved hW.alike hK, hN.warm hW, by rw [hU]; exact ((hR.kept hS).moved hW.alike).x hX⟩
/-- class cells do not see the kinds from 27 on -/
theorem x_whi {X : xT} {μ μ' : mT} (h : ∀ κ, κ < 27 → μ' κ = μ κ) : x_w X μ' = x_w X μ := by
  unfold x_w
  apply List.map_congr_left
  intro n hn
  rw [List.mem_range] at hn
  have h2 : (x_k n).1 < 27 := by
    unfold x_k
    split
    · show n / 11 < 27
      omega
    · show n - 180 < 27
      omega
  rw [h _ h2]
def mix (μ μ' : mT) : mT := fun κ => if κ < 40 then μ' κ else μ κ
theorem mix_lo {μ μ' : mT} {κ : Nat} (h : κ < 40) : mix μ μ' κ = μ' κ := if_pos h
theorem mix_hi {μ μ' : mT} {κ : Nat} (h : 40 ≤ κ) : mix μ μ' κ = μ κ := if_neg (by omega)
theorem mix_s {μ : mT} : mix μ μ = μ := by
  funext κ
  unfold mix
  split <;> rfl
def bm {α : Type} (x : Option (Int32 × mT)) (μ : mT) (k : Int32 → mT → Option α) : Option α := bd x fun r μ' => k r (mix μ μ')
theorem of_bm {α : Type} {x : Option (Int32 × mT)} {μ : mT} {k : Int32 → mT → Option α} {y : α} (h : bm x μ k = some y) : ∃ (r : Int32) (μa μ' : mT), x = some (r, μa) ∧ μ' = mix μ μa ∧ k r μ' = some y := by
  obtain ⟨r, μa, h1, h2⟩ := of_bd h
  exact ⟨r, μa, _, h1, rfl, h2⟩
theorem y_adr {X : xT} {as : aT} {μ : mT} : (y_w X as μ).map Prod.fst = (List.range 207).map (fun n => X.1 (x_k n).1 (x_k n).2) ++ as.map Prod.snd := by
  unfold y_w x_w x_l
  rw [List.map_append, List.map_map, List.map_map]
  rfl
theorem y_len {X : xT} {as : aT} {μ : mT} : (x_w X μ).length = 207 := x_wl X μ
theorem y_at {X : xT} {as : aT} {μ : mT} {i κ a : Nat} (h : as[i]? = some (κ, a)) : (y_w X as μ)[207 + i]? = some (a, .inl (X.2.2.1 0, 32, .inl (μ κ 0))) := by
  unfold y_w x_l
  rw [List.getElem?_append_right (by rw [x_wl]; omega), x_wl, Nat.add_sub_cancel_left, List.getElem?_map, h]
  rfl
theorem y_set {X : xT} {as : aT} {μ : mT} {i κ a : Nat} {f : Nat → Int32} (hD : yD X as) (h : as[i]? = some (κ, a)) : (y_w X as μ).set (207 + i) (a, .inl (X.2.2.1 0, 32, .inl f)) = y_w X as (upR μ κ 0 f) := by
  have hk : 40 ≤ κ := hD.2.1 _ (List.mem_of_getElem? h)
  unfold y_w
  rw [x_whi (X := X) (μ := μ) (μ' := upR μ κ 0 f) (fun κ' h' => by funext j; exact q_upr0 (by omega)), List.set_append_right _ _ (by rw [x_wl]; omega), x_wl, Nat.add_sub_cancel_left]
  congr 1
  unfold x_l
  apply List.ext_getElem?
  intro n
  rw [List.getElem?_set, List.length_map, List.getElem?_map, List.getElem?_map]
  by_cases e : i = n
  · subst e
    rw [if_pos rfl, if_pos (List.getElem?_eq_some_iff.mp h).1, h]
    show some (a, Sum.inl (X.2.2.1 0, 32, Sum.inl f)) = some (a, Sum.inl (X.2.2.1 0, 32, Sum.inl (upR μ κ 0 f κ 0)))
    rw [q_ups0]
  · rw [if_neg e]
    cases hn : as[n]? with
    | none => rfl
    | some p =>
      have hp : p.1 ≠ κ := fun z => by
        exact e (nd_inj hD.1 (w := κ) (by rw [List.getElem?_map, h]; rfl) (by rw [List.getElem?_map, hn, ← z]; rfl))
      show some (p.2, Sum.inl (X.2.2.1 0, 32, Sum.inl (μ p.1 0))) = some (p.2, Sum.inl (X.2.2.1 0, 32, Sum.inl (upR μ κ 0 f p.1 0)))
      rw [q_upr0 hp]
def lj (X : xT) (as : aT) (qn : Nat) : gT → mT → Nat → List (Nat × Value) → List Value → Prop
  | (p, l, e, R, s, m, args, below, meth, c, kc, ks, Q, nL), μ, pc, lv, st => ∀ (H : Heap) (locs : List Loc) (la : Array Slot), yD X as → va_P X.2.1 vwCl (y_w X as μ) H → va_S (y_A X) s.heap H locs → lv_has la nL lv → W p l e R s m args below meth c H locs (kc + qn) (ks + 32 * qn) Q (F0 m pc la st)
def OkY (X : xT) (Z : scT) (own : String) (cc : ByteArray) (F L MC : Nat) : gT → Prop
  | (p, _, _, R, s, m, args, _, meth, c, kc, ks, _, nL) => p.tables.exec = Jvm.exec ∧ c.code = cc ∧ c.maxLocals = nL ∧ s.vm.findClass own = some m.cls ∧ (∀ w ∈ big, w.before args s = true) ∧ va_K X.2.1 vwCl (x_ty X) s ∧ x_N s ∧ y_R X s s.heap ∧ xOK X ∧ y_Z X Z s s.heap ∧ (F ≤ R.frames ∧ L ≤ R.locals ∧ kc + MC ≤ R.cells ∧ ks + 32 * MC ≤ R.slots) ∧ meth.locks = false
def YQ (X : xT) (as : aT) (r : Int32) (μ' : mT) : Array Value → State → Outcome → State → Prop := va_Qi (S := Unit) (fun z _ => z = r) (fun _ t => va_P X.2.1 vwCl (y_w X as μ') t.heap) (y_A X)
def RtY (X : xT) (as : aT) (MC : Nat) (rt : FieldType) (r : Int32) (μ' : mT) : gT → Prop
  | (_, _, _, _, s, _, args, below, meth, _, kc, ks, Q, _) => kc = 0 ∧ ks = 0 ∧ meth.sig.returnType = some rt ∧ Q = MQ below (YQ X as r μ') args s MC (32 * MC) (y_A X)
def CL (X : xT) (Z : scT) (as : aT) (y : MethodName) (cc : ByteArray) (nL : Nat) (rt : FieldType) (F L MC : Nat) (As : List Value) (μ : mT) (r : Int32) (μ' : mT) : Prop := ∀ l : Launch, Met l y (.code y cc nL (some rt) :: big) { frames := F, cells := MC, slots := 32 * MC, locals := L } (va_Pc As (y_G X Z as μ)) (YQ X as r μ') MC (32 * MC) (y_A X)
theorem CL_of {X : xT} {Z : scT} {as : aT} {y : MethodName} {cc : ByteArray} {nL : Nat} {rt : FieldType} {F L MC : Nat} {As : List Value} {μ : mT} {r : Int32} {μ' : mT} {lv : List (Nat × Value)} (hX : xOK X) (hy : plainName y.cls = true) (hlen : (lg_sl As).length ≤ nL) (hlv : lv_args 0 As = lv)
    (h : ∀ Γ : gT, OkY X Z y.cls cc F L MC Γ → gL Γ = nL → RtY X as MC rt r μ' Γ → lj X as 0 Γ μ 0 lv []) : CL X Z as y cc nL rt F L MC As μ r μ' := by
  intro l
  refine Met.ofW (cc := cc) (maxL := nL) (ret := some rt) hy rfl ?_
  intro p e s m args below meth c s₁ B hml hv
  obtain ⟨rfl, hD, hP, hK, hN, hR, hZ⟩ := hv
  have hts := atoms_spec (ws := .code y cc nL (some rt) :: big) B.pre
  have hown : s.vm.findClass y.cls = some m.cls := findClass_of_methodNamed B.named
  have hl := lv_entry As (n := nL) hlen
  rw [hlv] at hl
  rw [lg_entry_eq]
  exact h (p, l, e, _, s, m, As.toArray, below, meth, c, 0, 0, _, nL) ⟨B.exec, B.bytes, hml, hown, fun w hw => hts w (List.mem_cons_of_mem _ hw), hK, hN, hR, hX, hZ, ⟨Nat.le_refl _, Nat.le_refl _, Nat.le_of_eq (Nat.zero_add _), Nat.le_of_eq (Nat.zero_add _)⟩, B.notSynchronized⟩ rfl ⟨rfl, rfl, B.returns, rfl⟩ s.heap [] _ hD hP va_S.rf hl
theorem lr_iconst {X : xT} {Z : scT} {as : aT} {qn : Nat} {own : String} {cc : ByteArray} {F L MC : Nat} {Γ : gT} (hO : OkY X Z own cc F L MC Γ) (pc : Nat) {μ : mT} {lv : List (Nat × Value)} {st : List Value} {n : Int} {v : Int32} (hv : Int32.ofInt n = v) (d : decode cc pc = .ok (.iconst n, 1)) (k : lj X as qn Γ μ (pc + 1) lv (.int v :: st)) : lj X as qn Γ μ pc lv st := by
  obtain ⟨p, l, e, R, s, m, args, below, meth, c, kc, ks, Q, nL⟩ := Γ
  obtain ⟨hx, hb, hml, hown, hts, hK, hN, hR, hX, hZ, hroom, hlk⟩ := hO
  intro H locs la hD hP hS hl
  exact lv_iconst hx hb d hv (k H locs la hD hP hS hl)
theorem lr_bipush {X : xT} {Z : scT} {as : aT} {qn : Nat} {own : String} {cc : ByteArray} {F L MC : Nat} {Γ : gT} (hO : OkY X Z own cc F L MC Γ) (pc : Nat) {μ : mT} {lv : List (Nat × Value)} {st : List Value} {n : Int} {v : Int32} (hv : (Int8.ofInt n).toInt32 = v) (d : decode cc pc = .ok (.bipush n, 2)) (k : lj X as qn Γ μ (pc + 2) lv (.int v :: st)) : lj X as qn Γ μ pc lv st := by
  obtain ⟨p, l, e, R, s, m, args, below, meth, c, kc, ks, Q, nL⟩ := Γ
  obtain ⟨hx, hb, hml, hown, hts, hK, hN, hR, hX, hZ, hroom, hlk⟩ := hO
  intro H locs la hD hP hS hl
  exact lv_bipush hx hb d hv (k H locs la hD hP hS hl)
theorem lr_ldc {X : xT} {Z : scT} {as : aT} {qn : Nat} {own : String} {cc : ByteArray} {F L MC : Nat} {Γ : gT} (hO : OkY X Z own cc F L MC Γ) (pc : Nat) {μ : mT} {lv : List (Nat × Value)} {st : List Value} {index : Nat} {v : Int32} (hw : Cond.constant own index v ∈ big) (d : decode cc pc = .ok (.ldc index, 2)) (k : lj X as qn Γ μ (pc + 2) lv (.int v :: st)) : lj X as qn Γ μ pc lv st := by
  obtain ⟨p, l, e, R, s, m, args, below, meth, c, kc, ks, Q, nL⟩ := Γ
  obtain ⟨hx, hb, hml, hown, hts, hK, hN, hR, hX, hZ, hroom, hlk⟩ := hO
  intro H locs la hD hP hS hl
  exact lv_ldc hx hb hown (hts _ hw) d (k H locs la hD hP hS hl)
theorem lr_sipush {X : xT} {Z : scT} {as : aT} {qn : Nat} {own : String} {cc : ByteArray} {F L MC : Nat} {Γ : gT} (hO : OkY X Z own cc F L MC Γ) (pc : Nat) {μ : mT} {lv : List (Nat × Value)} {st : List Value} {n : Int} {v : Int32} (hv : (Int16.ofInt n).toInt32 = v) (d : decode cc pc = .ok (.sipush n, 3)) (k : lj X as qn Γ μ (pc + 3) lv (.int v :: st)) : lj X as qn Γ μ pc lv st := by
  obtain ⟨p, l, e, R, s, m, args, below, meth, c, kc, ks, Q, nL⟩ := Γ
  obtain ⟨hx, hb, hml, hown, hts, hK, hN, hR, hX, hZ, hroom, hlk⟩ := hO
  intro H locs la hD hP hS hl
  exact lv_sipush hx hb d hv (k H locs la hD hP hS hl)
theorem lr_lconst {X : xT} {Z : scT} {as : aT} {qn : Nat} {own : String} {cc : ByteArray} {F L MC : Nat} {Γ : gT} (hO : OkY X Z own cc F L MC Γ) (pc : Nat) {μ : mT} {lv : List (Nat × Value)} {st : List Value} {n : Fin 2} {v : Int64} (hv : Int64.ofNat (n : Nat) = v) (d : decode cc pc = .ok (.lconst n, 1)) (k : lj X as qn Γ μ (pc + 1) lv (.long v :: st)) : lj X as qn Γ μ pc lv st := by
  obtain ⟨p, l, e, R, s, m, args, below, meth, c, kc, ks, Q, nL⟩ := Γ
  obtain ⟨hx, hb, hml, hown, hts, hK, hN, hR, hX, hZ, hroom, hlk⟩ := hO
  intro H locs la hD hP hS hl
  exact lv_lconst hx hb d hv (k H locs la hD hP hS hl)
theorem lr_ldc2 {X : xT} {Z : scT} {as : aT} {qn : Nat} {own : String} {cc : ByteArray} {F L MC : Nat} {Γ : gT} (hO : OkY X Z own cc F L MC Γ) (pc : Nat) {μ : mT} {lv : List (Nat × Value)} {st : List Value} {index : Nat} {v : Int64} (hw : Cond.constantLong own index v ∈ big) (d : decode cc pc = .ok (.ldc2_w index, 3)) (k : lj X as qn Γ μ (pc + 3) lv (.long v :: st)) : lj X as qn Γ μ pc lv st := by
  obtain ⟨p, l, e, R, s, m, args, below, meth, c, kc, ks, Q, nL⟩ := Γ
  obtain ⟨hx, hb, hml, hown, hts, hK, hN, hR, hX, hZ, hroom, hlk⟩ := hO
  intro H locs la hD hP hS hl
  exact lv_ldc2 hx hb hown (hts _ hw) d (k H locs la hD hP hS hl)
theorem lr_iload {X : xT} {Z : scT} {as : aT} {qn : Nat} {own : String} {cc : ByteArray} {F L MC : Nat} {Γ : gT} (hO : OkY X Z own cc F L MC Γ) (pc : Nat) {μ : mT} {lv : List (Nat × Value)} {st : List Value} {i : Nat} {x : Int32} (q : Nat) (hq : lv[q]? = some (i, .int x)) (d : decode cc pc = .ok (.iload i, 2)) (k : lj X as qn Γ μ (pc + 2) lv (.int x :: st)) : lj X as qn Γ μ pc lv st := by
  obtain ⟨p, l, e, R, s, m, args, below, meth, c, kc, ks, Q, nL⟩ := Γ
  obtain ⟨hx, hb, hml, hown, hts, hK, hN, hR, hX, hZ, hroom, hlk⟩ := hO
  intro H locs la hD hP hS hl
  exact lv_iload hx hb d (lv_at hl q hq) (k H locs la hD hP hS hl)
theorem lr_iload_n {X : xT} {Z : scT} {as : aT} {qn : Nat} {own : String} {cc : ByteArray} {F L MC : Nat} {Γ : gT} (hO : OkY X Z own cc F L MC Γ) (pc : Nat) {μ : mT} {lv : List (Nat × Value)} {st : List Value} {i : Fin 4} {x : Int32} (q : Nat) (hq : lv[q]? = some ((i : Nat), .int x)) (d : decode cc pc = .ok (.iload_n i, 1)) (k : lj X as qn Γ μ (pc + 1) lv (.int x :: st)) : lj X as qn Γ μ pc lv st := by
  obtain ⟨p, l, e, R, s, m, args, below, meth, c, kc, ks, Q, nL⟩ := Γ
  obtain ⟨hx, hb, hml, hown, hts, hK, hN, hR, hX, hZ, hroom, hlk⟩ := hO
  intro H locs la hD hP hS hl
  exact lv_iload_n hx hb d rfl (lv_at hl q hq) (k H locs la hD hP hS hl)
theorem lr_lload {X : xT} {Z : scT} {as : aT} {qn : Nat} {own : String} {cc : ByteArray} {F L MC : Nat} {Γ : gT} (hO : OkY X Z own cc F L MC Γ) (pc : Nat) {μ : mT} {lv : List (Nat × Value)} {st : List Value} {i : Nat} {x : Int64} (q : Nat) (hq : lv[q]? = some (i, .long x)) (d : decode cc pc = .ok (.lload i, 2)) (k : lj X as qn Γ μ (pc + 2) lv (.long x :: st)) : lj X as qn Γ μ pc lv st := by
  obtain ⟨p, l, e, R, s, m, args, below, meth, c, kc, ks, Q, nL⟩ := Γ
  obtain ⟨hx, hb, hml, hown, hts, hK, hN, hR, hX, hZ, hroom, hlk⟩ := hO
  intro H locs la hD hP hS hl
  exact lv_lload hx hb d (lv_at hl q hq) (k H locs la hD hP hS hl)
theorem lr_lload_n {X : xT} {Z : scT} {as : aT} {qn : Nat} {own : String} {cc : ByteArray} {F L MC : Nat} {Γ : gT} (hO : OkY X Z own cc F L MC Γ) (pc : Nat) {μ : mT} {lv : List (Nat × Value)} {st : List Value} {i : Fin 4} {x : Int64} (q : Nat) (hq : lv[q]? = some ((i : Nat), .long x)) (d : decode cc pc = .ok (.lload_n i, 1)) (k : lj X as qn Γ μ (pc + 1) lv (.long x :: st)) : lj X as qn Γ μ pc lv st := by
  obtain ⟨p, l, e, R, s, m, args, below, meth, c, kc, ks, Q, nL⟩ := Γ
  obtain ⟨hx, hb, hml, hown, hts, hK, hN, hR, hX, hZ, hroom, hlk⟩ := hO
  intro H locs la hD hP hS hl
  exact lv_lload_n hx hb d rfl (lv_at hl q hq) (k H locs la hD hP hS hl)
theorem lr_aload {X : xT} {Z : scT} {as : aT} {qn : Nat} {own : String} {cc : ByteArray} {F L MC : Nat} {Γ : gT} (hO : OkY X Z own cc F L MC Γ) (pc : Nat) {μ : mT} {lv : List (Nat × Value)} {st : List Value} {i : Nat} {x : Nat} (q : Nat) (hq : lv[q]? = some (i, .ref x)) (d : decode cc pc = .ok (.aload i, 2)) (k : lj X as qn Γ μ (pc + 2) lv (.ref x :: st)) : lj X as qn Γ μ pc lv st := by
  obtain ⟨p, l, e, R, s, m, args, below, meth, c, kc, ks, Q, nL⟩ := Γ
  obtain ⟨hx, hb, hml, hown, hts, hK, hN, hR, hX, hZ, hroom, hlk⟩ := hO
  intro H locs la hD hP hS hl
  exact lv_aload hx hb d (lv_at hl q hq) (k H locs la hD hP hS hl)
theorem lr_aload_n {X : xT} {Z : scT} {as : aT} {qn : Nat} {own : String} {cc : ByteArray} {F L MC : Nat} {Γ : gT} (hO : OkY X Z own cc F L MC Γ) (pc : Nat) {μ : mT} {lv : List (Nat × Value)} {st : List Value} {i : Fin 4} {x : Nat} (q : Nat) (hq : lv[q]? = some ((i : Nat), .ref x)) (d : decode cc pc = .ok (.aload_n i, 1)) (k : lj X as qn Γ μ (pc + 1) lv (.ref x :: st)) : lj X as qn Γ μ pc lv st := by
  obtain ⟨p, l, e, R, s, m, args, below, meth, c, kc, ks, Q, nL⟩ := Γ
  obtain ⟨hx, hb, hml, hown, hts, hK, hN, hR, hX, hZ, hroom, hlk⟩ := hO
  intro H locs la hD hP hS hl
  exact lv_aload_n hx hb d rfl (lv_at hl q hq) (k H locs la hD hP hS hl)
theorem lr_istore_n {X : xT} {Z : scT} {as : aT} {qn : Nat} {own : String} {cc : ByteArray} {F L MC : Nat} {Γ : gT} (hO : OkY X Z own cc F L MC Γ) (pc : Nat) {μ : mT} {lv : List (Nat × Value)} {st : List Value} {i : Nat} {k4 : Fin 4} {x v : Int32} {n : Nat} {lv' : List (Nat × Value)} (ev : v = x) (hn : gL Γ = n) (hi : (k4 : Nat) = i) (h4 : i < n) (hlv : (i, Value.int v) :: lv.filter (fun q => !(q.1 == i) && !(q.1 + 1 == i && q.2.category == 2)) = lv') (d : decode cc pc = .ok (.istore_n k4, 1)) (k : lj X as qn Γ μ (pc + 1) lv' st) : lj X as qn Γ μ pc lv (.int x :: st) := by
  obtain ⟨p, l, e, R, s, m, args, below, meth, c, kc, ks, Q, nL⟩ := Γ
  obtain ⟨hx, hb, hml, hown, hts, hK, hN, hR, hX, hZ, hroom, hlk⟩ := hO
  intro H locs la hD hP hS hl
  subst hn
  subst ev
  exact lv_istore_n hx hb d hi hl h4 hlv (fun la hl => k H locs la hD hP hS hl)
theorem lr_istore {X : xT} {Z : scT} {as : aT} {qn : Nat} {own : String} {cc : ByteArray} {F L MC : Nat} {Γ : gT} (hO : OkY X Z own cc F L MC Γ) (pc : Nat) {μ : mT} {lv : List (Nat × Value)} {st : List Value} {i : Nat} {x v : Int32} {n : Nat} {lv' : List (Nat × Value)} (ev : v = x) (hn : gL Γ = n) (h4 : i < n) (hlv : (i, Value.int v) :: lv.filter (fun q => !(q.1 == i) && !(q.1 + 1 == i && q.2.category == 2)) = lv') (d : decode cc pc = .ok (.istore i, 2)) (k : lj X as qn Γ μ (pc + 2) lv' st) : lj X as qn Γ μ pc lv (.int x :: st) := by
  obtain ⟨p, l, e, R, s, m, args, below, meth, c, kc, ks, Q, nL⟩ := Γ
  obtain ⟨hx, hb, hml, hown, hts, hK, hN, hR, hX, hZ, hroom, hlk⟩ := hO
  intro H locs la hD hP hS hl
  subst hn
  subst ev
  exact lv_istore hx hb d hl h4 hlv (fun la hl => k H locs la hD hP hS hl)
theorem lr_lstore_n {X : xT} {Z : scT} {as : aT} {qn : Nat} {own : String} {cc : ByteArray} {F L MC : Nat} {Γ : gT} (hO : OkY X Z own cc F L MC Γ) (pc : Nat) {μ : mT} {lv : List (Nat × Value)} {st : List Value} {i : Nat} {k4 : Fin 4} {x v : Int64} {n : Nat} {lv' : List (Nat × Value)} (ev : v = x) (hn : gL Γ = n) (hi : (k4 : Nat) = i) (h4 : i + 1 < n) (hlv : (i, Value.long v) :: lv.filter (fun q => !(q.1 == i) && (!(q.1 == i + 1) && !(q.1 + 1 == i && q.2.category == 2))) = lv') (d : decode cc pc = .ok (.lstore_n k4, 1)) (k : lj X as qn Γ μ (pc + 1) lv' st) : lj X as qn Γ μ pc lv (.long x :: st) := by
  obtain ⟨p, l, e, R, s, m, args, below, meth, c, kc, ks, Q, nL⟩ := Γ
  obtain ⟨hx, hb, hml, hown, hts, hK, hN, hR, hX, hZ, hroom, hlk⟩ := hO
  intro H locs la hD hP hS hl
  subst hn
  subst ev
  exact lv_lstore_n hx hb d hi hl h4 hlv (fun la hl => k H locs la hD hP hS hl)
theorem lr_lstore {X : xT} {Z : scT} {as : aT} {qn : Nat} {own : String} {cc : ByteArray} {F L MC : Nat} {Γ : gT} (hO : OkY X Z own cc F L MC Γ) (pc : Nat) {μ : mT} {lv : List (Nat × Value)} {st : List Value} {i : Nat} {x v : Int64} {n : Nat} {lv' : List (Nat × Value)} (ev : v = x) (hn : gL Γ = n) (h4 : i + 1 < n) (hlv : (i, Value.long v) :: lv.filter (fun q => !(q.1 == i) && (!(q.1 == i + 1) && !(q.1 + 1 == i && q.2.category == 2))) = lv') (d : decode cc pc = .ok (.lstore i, 2)) (k : lj X as qn Γ μ (pc + 2) lv' st) : lj X as qn Γ μ pc lv (.long x :: st) := by
  obtain ⟨p, l, e, R, s, m, args, below, meth, c, kc, ks, Q, nL⟩ := Γ
  obtain ⟨hx, hb, hml, hown, hts, hK, hN, hR, hX, hZ, hroom, hlk⟩ := hO
  intro H locs la hD hP hS hl
  subst hn
  subst ev
  exact lv_lstore hx hb d hl h4 hlv (fun la hl => k H locs la hD hP hS hl)
theorem lr_astore_n {X : xT} {Z : scT} {as : aT} {qn : Nat} {own : String} {cc : ByteArray} {F L MC : Nat} {Γ : gT} (hO : OkY X Z own cc F L MC Γ) (pc : Nat) {μ : mT} {lv : List (Nat × Value)} {st : List Value} {i : Nat} {k4 : Fin 4} {x v : Nat} {n : Nat} {lv' : List (Nat × Value)} (ev : v = x) (hn : gL Γ = n) (hi : (k4 : Nat) = i) (h4 : i < n) (hlv : (i, Value.ref v) :: lv.filter (fun q => !(q.1 == i) && !(q.1 + 1 == i && q.2.category == 2)) = lv') (d : decode cc pc = .ok (.astore_n k4, 1)) (k : lj X as qn Γ μ (pc + 1) lv' st) : lj X as qn Γ μ pc lv (.ref x :: st) := by
  obtain ⟨p, l, e, R, s, m, args, below, meth, c, kc, ks, Q, nL⟩ := Γ
  obtain ⟨hx, hb, hml, hown, hts, hK, hN, hR, hX, hZ, hroom, hlk⟩ := hO
  intro H locs la hD hP hS hl
  subst hn
  subst ev
  exact lv_astore_n hx hb d hi hl h4 hlv (fun la hl => k H locs la hD hP hS hl)
theorem lr_astore {X : xT} {Z : scT} {as : aT} {qn : Nat} {own : String} {cc : ByteArray} {F L MC : Nat} {Γ : gT} (hO : OkY X Z own cc F L MC Γ) (pc : Nat) {μ : mT} {lv : List (Nat × Value)} {st : List Value} {i : Nat} {x v : Nat} {n : Nat} {lv' : List (Nat × Value)} (ev : v = x) (hn : gL Γ = n) (h4 : i < n) (hlv : (i, Value.ref v) :: lv.filter (fun q => !(q.1 == i) && !(q.1 + 1 == i && q.2.category == 2)) = lv') (d : decode cc pc = .ok (.astore i, 2)) (k : lj X as qn Γ μ (pc + 2) lv' st) : lj X as qn Γ μ pc lv (.ref x :: st) := by
  obtain ⟨p, l, e, R, s, m, args, below, meth, c, kc, ks, Q, nL⟩ := Γ
  obtain ⟨hx, hb, hml, hown, hts, hK, hN, hR, hX, hZ, hroom, hlk⟩ := hO
  intro H locs la hD hP hS hl
  subst hn
  subst ev
  exact lv_astore hx hb d hl h4 hlv (fun la hl => k H locs la hD hP hS hl)
theorem lr_iinc {X : xT} {Z : scT} {as : aT} {qn : Nat} {own : String} {cc : ByteArray} {F L MC : Nat} {Γ : gT} (hO : OkY X Z own cc F L MC Γ) (pc : Nat) {μ : mT} {lv : List (Nat × Value)} {st : List Value} {i q : Nat} {n : Int} {x v : Int32} {nl : Nat} {lv' : List (Nat × Value)} (hn : gL Γ = nl) (hq : lv[q]? = some (i, .int x)) (hv : x + Int32.ofInt n = v) (h4 : i < nl) (hlv : (i, Value.int v) :: lv.filter (fun q => !(q.1 == i) && !(q.1 + 1 == i && q.2.category == 2)) = lv') (d : decode cc pc = .ok (.iinc i n, 3)) (k : lj X as qn Γ μ (pc + 3) lv' st) : lj X as qn Γ μ pc lv st := by
  obtain ⟨p, l, e, R, s, m, args, below, meth, c, kc, ks, Q, nL⟩ := Γ
  obtain ⟨hx, hb, hml, hown, hts, hK, hN, hR, hX, hZ, hroom, hlk⟩ := hO
  intro H locs la hD hP hS hl
  subst hn
  exact lv_iinc hx hb d hl hq hv h4 hlv (fun la hl => k H locs la hD hP hS hl)
theorem lr_iadd {X : xT} {Z : scT} {as : aT} {qn : Nat} {own : String} {cc : ByteArray} {F L MC : Nat} {Γ : gT} (hO : OkY X Z own cc F L MC Γ) (pc : Nat) {μ : mT} {lv : List (Nat × Value)} {st : List Value} {x y : Int32} (d : decode cc pc = .ok (.iadd, 1)) (k : lj X as qn Γ μ (pc + 1) lv (.int (x + y) :: st)) : lj X as qn Γ μ pc lv (.int y :: .int x :: st) := by
  obtain ⟨p, l, e, R, s, m, args, below, meth, c, kc, ks, Q, nL⟩ := Γ
  obtain ⟨hx, hb, hml, hown, hts, hK, hN, hR, hX, hZ, hroom, hlk⟩ := hO
  intro H locs la hD hP hS hl
  exact lv_iadd hx hb d (k H locs la hD hP hS hl)
theorem lr_isub {X : xT} {Z : scT} {as : aT} {qn : Nat} {own : String} {cc : ByteArray} {F L MC : Nat} {Γ : gT} (hO : OkY X Z own cc F L MC Γ) (pc : Nat) {μ : mT} {lv : List (Nat × Value)} {st : List Value} {x y : Int32} (d : decode cc pc = .ok (.isub, 1)) (k : lj X as qn Γ μ (pc + 1) lv (.int (x - y) :: st)) : lj X as qn Γ μ pc lv (.int y :: .int x :: st) := by
  obtain ⟨p, l, e, R, s, m, args, below, meth, c, kc, ks, Q, nL⟩ := Γ
  obtain ⟨hx, hb, hml, hown, hts, hK, hN, hR, hX, hZ, hroom, hlk⟩ := hO
  intro H locs la hD hP hS hl
  exact lv_isub hx hb d (k H locs la hD hP hS hl)
theorem lr_imul {X : xT} {Z : scT} {as : aT} {qn : Nat} {own : String} {cc : ByteArray} {F L MC : Nat} {Γ : gT} (hO : OkY X Z own cc F L MC Γ) (pc : Nat) {μ : mT} {lv : List (Nat × Value)} {st : List Value} {x y : Int32} (d : decode cc pc = .ok (.imul, 1)) (k : lj X as qn Γ μ (pc + 1) lv (.int (x * y) :: st)) : lj X as qn Γ μ pc lv (.int y :: .int x :: st) := by
  obtain ⟨p, l, e, R, s, m, args, below, meth, c, kc, ks, Q, nL⟩ := Γ
  obtain ⟨hx, hb, hml, hown, hts, hK, hN, hR, hX, hZ, hroom, hlk⟩ := hO
  intro H locs la hD hP hS hl
  exact lv_imul hx hb d (k H locs la hD hP hS hl)
theorem lr_irem {X : xT} {Z : scT} {as : aT} {qn : Nat} {own : String} {cc : ByteArray} {F L MC : Nat} {Γ : gT} (hO : OkY X Z own cc F L MC Γ) (pc : Nat) {μ : mT} {lv : List (Nat × Value)} {st : List Value} {x y : Int32} (hne : ¬ y = 0) (d : decode cc pc = .ok (.irem, 1)) (k : lj X as qn Γ μ (pc + 1) lv (.int (x - x / y * y) :: st)) : lj X as qn Γ μ pc lv (.int y :: .int x :: st) := by
  obtain ⟨p, l, e, R, s, m, args, below, meth, c, kc, ks, Q, nL⟩ := Γ
  obtain ⟨hx, hb, hml, hown, hts, hK, hN, hR, hX, hZ, hroom, hlk⟩ := hO
  intro H locs la hD hP hS hl
  exact lv_irem hx hb d hne (k H locs la hD hP hS hl)
theorem lr_ladd {X : xT} {Z : scT} {as : aT} {qn : Nat} {own : String} {cc : ByteArray} {F L MC : Nat} {Γ : gT} (hO : OkY X Z own cc F L MC Γ) (pc : Nat) {μ : mT} {lv : List (Nat × Value)} {st : List Value} {x y : Int64} (d : decode cc pc = .ok (.ladd, 1)) (k : lj X as qn Γ μ (pc + 1) lv (.long (x + y) :: st)) : lj X as qn Γ μ pc lv (.long y :: .long x :: st) := by
  obtain ⟨p, l, e, R, s, m, args, below, meth, c, kc, ks, Q, nL⟩ := Γ
  obtain ⟨hx, hb, hml, hown, hts, hK, hN, hR, hX, hZ, hroom, hlk⟩ := hO
  intro H locs la hD hP hS hl
  exact lv_ladd hx hb d (k H locs la hD hP hS hl)
theorem lr_lmul {X : xT} {Z : scT} {as : aT} {qn : Nat} {own : String} {cc : ByteArray} {F L MC : Nat} {Γ : gT} (hO : OkY X Z own cc F L MC Γ) (pc : Nat) {μ : mT} {lv : List (Nat × Value)} {st : List Value} {x y : Int64} (d : decode cc pc = .ok (.lmul, 1)) (k : lj X as qn Γ μ (pc + 1) lv (.long (x * y) :: st)) : lj X as qn Γ μ pc lv (.long y :: .long x :: st) := by
  obtain ⟨p, l, e, R, s, m, args, below, meth, c, kc, ks, Q, nL⟩ := Γ
  obtain ⟨hx, hb, hml, hown, hts, hK, hN, hR, hX, hZ, hroom, hlk⟩ := hO
  intro H locs la hD hP hS hl
  exact lv_lmul hx hb d (k H locs la hD hP hS hl)
theorem lr_iand {X : xT} {Z : scT} {as : aT} {qn : Nat} {own : String} {cc : ByteArray} {F L MC : Nat} {Γ : gT} (hO : OkY X Z own cc F L MC Γ) (pc : Nat) {μ : mT} {lv : List (Nat × Value)} {st : List Value} {x y : Int32} (d : decode cc pc = .ok (.iand, 1)) (k : lj X as qn Γ μ (pc + 1) lv (.int (x &&& y) :: st)) : lj X as qn Γ μ pc lv (.int y :: .int x :: st) := by
  obtain ⟨p, l, e, R, s, m, args, below, meth, c, kc, ks, Q, nL⟩ := Γ
  obtain ⟨hx, hb, hml, hown, hts, hK, hN, hR, hX, hZ, hroom, hlk⟩ := hO
  intro H locs la hD hP hS hl
  exact lv_iand hx hb d (k H locs la hD hP hS hl)
theorem lr_ior {X : xT} {Z : scT} {as : aT} {qn : Nat} {own : String} {cc : ByteArray} {F L MC : Nat} {Γ : gT} (hO : OkY X Z own cc F L MC Γ) (pc : Nat) {μ : mT} {lv : List (Nat × Value)} {st : List Value} {x y : Int32} (d : decode cc pc = .ok (.ior, 1)) (k : lj X as qn Γ μ (pc + 1) lv (.int (x ||| y) :: st)) : lj X as qn Γ μ pc lv (.int y :: .int x :: st) := by
  obtain ⟨p, l, e, R, s, m, args, below, meth, c, kc, ks, Q, nL⟩ := Γ
  obtain ⟨hx, hb, hml, hown, hts, hK, hN, hR, hX, hZ, hroom, hlk⟩ := hO
  intro H locs la hD hP hS hl
  exact lv_ior hx hb d (k H locs la hD hP hS hl)
theorem lr_ishl {X : xT} {Z : scT} {as : aT} {qn : Nat} {own : String} {cc : ByteArray} {F L MC : Nat} {Γ : gT} (hO : OkY X Z own cc F L MC Γ) (pc : Nat) {μ : mT} {lv : List (Nat × Value)} {st : List Value} {x y : Int32} (d : decode cc pc = .ok (.ishl, 1)) (k : lj X as qn Γ μ (pc + 1) lv (.int (x <<< (y &&& 31)) :: st)) : lj X as qn Γ μ pc lv (.int y :: .int x :: st) := by
  obtain ⟨p, l, e, R, s, m, args, below, meth, c, kc, ks, Q, nL⟩ := Γ
  obtain ⟨hx, hb, hml, hown, hts, hK, hN, hR, hX, hZ, hroom, hlk⟩ := hO
  intro H locs la hD hP hS hl
  exact lv_ishl hx hb d (k H locs la hD hP hS hl)
theorem lr_ishr {X : xT} {Z : scT} {as : aT} {qn : Nat} {own : String} {cc : ByteArray} {F L MC : Nat} {Γ : gT} (hO : OkY X Z own cc F L MC Γ) (pc : Nat) {μ : mT} {lv : List (Nat × Value)} {st : List Value} {x y : Int32} (d : decode cc pc = .ok (.ishr, 1)) (k : lj X as qn Γ μ (pc + 1) lv (.int (x >>> (y &&& 31)) :: st)) : lj X as qn Γ μ pc lv (.int y :: .int x :: st) := by
  obtain ⟨p, l, e, R, s, m, args, below, meth, c, kc, ks, Q, nL⟩ := Γ
  obtain ⟨hx, hb, hml, hown, hts, hK, hN, hR, hX, hZ, hroom, hlk⟩ := hO
  intro H locs la hD hP hS hl
  exact lv_ishr hx hb d (k H locs la hD hP hS hl)
theorem lr_i2l {X : xT} {Z : scT} {as : aT} {qn : Nat} {own : String} {cc : ByteArray} {F L MC : Nat} {Γ : gT} (hO : OkY X Z own cc F L MC Γ) (pc : Nat) {μ : mT} {lv : List (Nat × Value)} {st : List Value} {x : Int32} (d : decode cc pc = .ok (.i2l, 1)) (k : lj X as qn Γ μ (pc + 1) lv (.long x.toInt64 :: st)) : lj X as qn Γ μ pc lv (.int x :: st) := by
  obtain ⟨p, l, e, R, s, m, args, below, meth, c, kc, ks, Q, nL⟩ := Γ
  obtain ⟨hx, hb, hml, hown, hts, hK, hN, hR, hX, hZ, hroom, hlk⟩ := hO
  intro H locs la hD hP hS hl
  exact lv_i2l hx hb d rfl (k H locs la hD hP hS hl)
theorem lr_pop {X : xT} {Z : scT} {as : aT} {qn : Nat} {own : String} {cc : ByteArray} {F L MC : Nat} {Γ : gT} (hO : OkY X Z own cc F L MC Γ) (pc : Nat) {μ : mT} {lv : List (Nat × Value)} {st : List Value} {v : Value} (hc : v.category = 1) (d : decode cc pc = .ok (.pop, 1)) (k : lj X as qn Γ μ (pc + 1) lv st) : lj X as qn Γ μ pc lv (v :: st) := by
  obtain ⟨p, l, e, R, s, m, args, below, meth, c, kc, ks, Q, nL⟩ := Γ
  obtain ⟨hx, hb, hml, hown, hts, hK, hN, hR, hX, hZ, hroom, hlk⟩ := hO
  intro H locs la hD hP hS hl
  exact lv_pop hx hb d hc (k H locs la hD hP hS hl)
theorem lr_goto {X : xT} {Z : scT} {as : aT} {qn : Nat} {own : String} {cc : ByteArray} {F L MC : Nat} {Γ : gT} (hO : OkY X Z own cc F L MC Γ) (pc : Nat) {μ : mT} {lv : List (Nat × Value)} {st : List Value} {off : Int} (tgt : Nat) (ht : (pc : Int) + off = (tgt : Int)) (d : decode cc pc = .ok (.goto off, 3)) (k : lj X as qn Γ μ tgt lv st) : lj X as qn Γ μ pc lv st := by
  obtain ⟨p, l, e, R, s, m, args, below, meth, c, kc, ks, Q, nL⟩ := Γ
  obtain ⟨hx, hb, hml, hown, hts, hK, hN, hR, hX, hZ, hroom, hlk⟩ := hO
  intro H locs la hD hP hS hl
  exact lv_goto hx hb d ht (k H locs la hD hP hS hl)
theorem lr_tabIn {X : xT} {Z : scT} {as : aT} {qn : Nat} {own : String} {cc : ByteArray} {F L MC : Nat} {Γ : gT} (hO : OkY X Z own cc F L MC Γ) (pc : Nat) {μ : mT} {lv : List (Nat × Value)} {st : List Value} {dflt lo hi : Int} {offs : Array Int} {len : Nat} {x : Int32} {off : Int} (tgt : Nat) (h1 : ¬ x.toInt < lo) (h2 : ¬ hi < x.toInt) (ho : offs[(x.toInt - lo).toNat]? = some off) (ht : (pc : Int) + off = (tgt : Int)) (d : decode cc pc = .ok (.tableswitch dflt lo hi offs, len)) (k : lj X as qn Γ μ tgt lv st) : lj X as qn Γ μ pc lv (.int x :: st) := by
  obtain ⟨p, l, e, R, s, m, args, below, meth, c, kc, ks, Q, nL⟩ := Γ
  obtain ⟨hx, hb, hml, hown, hts, hK, hN, hR, hX, hZ, hroom, hlk⟩ := hO
  intro H locs la hD hP hS hl
  exact lv_tableIn hx hb d h1 h2 ho ht (k H locs la hD hP hS hl)
theorem lr_tabOut {X : xT} {Z : scT} {as : aT} {qn : Nat} {own : String} {cc : ByteArray} {F L MC : Nat} {Γ : gT} (hO : OkY X Z own cc F L MC Γ) (pc : Nat) {μ : mT} {lv : List (Nat × Value)} {st : List Value} {dflt lo hi : Int} {offs : Array Int} {len : Nat} {x : Int32} (tgt : Nat) (h : x.toInt < lo ∨ hi < x.toInt) (ht : (pc : Int) + dflt = (tgt : Int)) (d : decode cc pc = .ok (.tableswitch dflt lo hi offs, len)) (k : lj X as qn Γ μ tgt lv st) : lj X as qn Γ μ pc lv (.int x :: st) := by
  obtain ⟨p, l, e, R, s, m, args, below, meth, c, kc, ks, Q, nL⟩ := Γ
  obtain ⟨hx, hb, hml, hown, hts, hK, hN, hR, hX, hZ, hroom, hlk⟩ := hO
  intro H locs la hD hP hS hl
  exact lv_tableOut hx hb d h ht (k H locs la hD hP hS hl)
theorem lr_if_eq {X : xT} {Z : scT} {as : aT} {qn : Nat} {own : String} {cc : ByteArray} {F L MC : Nat} {Γ : gT} (hO : OkY X Z own cc F L MC Γ) (pc : Nat) {μ : mT} {lv : List (Nat × Value)} {st : List Value} {x : Int32} {off : Int} (tgt : Nat) (ht : (pc : Int) + off = (tgt : Int)) (d : decode cc pc = .ok (.ifCond .eq off, 3)) (kt : x = 0 → lj X as qn Γ μ tgt lv st) (kf : ¬ (x = 0) → lj X as qn Γ μ (pc + 3) lv st) : lj X as qn Γ μ pc lv (.int x :: st) := by
  obtain ⟨p, l, e, R, s, m, args, below, meth, c, kc, ks, Q, nL⟩ := Γ
  obtain ⟨hx, hb, hml, hown, hts, hK, hN, hR, hX, hZ, hroom, hlk⟩ := hO
  intro H locs la hD hP hS hl
  exact lv_if_eq hx hb d ht (fun h => kt h H locs la hD hP hS hl) (fun h => kf h H locs la hD hP hS hl)
theorem lr_if_ne {X : xT} {Z : scT} {as : aT} {qn : Nat} {own : String} {cc : ByteArray} {F L MC : Nat} {Γ : gT} (hO : OkY X Z own cc F L MC Γ) (pc : Nat) {μ : mT} {lv : List (Nat × Value)} {st : List Value} {x : Int32} {off : Int} (tgt : Nat) (ht : (pc : Int) + off = (tgt : Int)) (d : decode cc pc = .ok (.ifCond .ne off, 3)) (kt : ¬ x = 0 → lj X as qn Γ μ tgt lv st) (kf : x = 0 → lj X as qn Γ μ (pc + 3) lv st) : lj X as qn Γ μ pc lv (.int x :: st) := by
  obtain ⟨p, l, e, R, s, m, args, below, meth, c, kc, ks, Q, nL⟩ := Γ
  obtain ⟨hx, hb, hml, hown, hts, hK, hN, hR, hX, hZ, hroom, hlk⟩ := hO
  intro H locs la hD hP hS hl
  exact lv_if_ne hx hb d ht (fun h => kt h H locs la hD hP hS hl) (fun h => kf h H locs la hD hP hS hl)
theorem lr_if_lt {X : xT} {Z : scT} {as : aT} {qn : Nat} {own : String} {cc : ByteArray} {F L MC : Nat} {Γ : gT} (hO : OkY X Z own cc F L MC Γ) (pc : Nat) {μ : mT} {lv : List (Nat × Value)} {st : List Value} {x : Int32} {off : Int} (tgt : Nat) (ht : (pc : Int) + off = (tgt : Int)) (d : decode cc pc = .ok (.ifCond .lt off, 3)) (kt : x < 0 → lj X as qn Γ μ tgt lv st) (kf : ¬ (x < 0) → lj X as qn Γ μ (pc + 3) lv st) : lj X as qn Γ μ pc lv (.int x :: st) := by
  obtain ⟨p, l, e, R, s, m, args, below, meth, c, kc, ks, Q, nL⟩ := Γ
  obtain ⟨hx, hb, hml, hown, hts, hK, hN, hR, hX, hZ, hroom, hlk⟩ := hO
  intro H locs la hD hP hS hl
  exact lv_if_lt hx hb d ht (fun h => kt h H locs la hD hP hS hl) (fun h => kf h H locs la hD hP hS hl)
theorem lr_if_ge {X : xT} {Z : scT} {as : aT} {qn : Nat} {own : String} {cc : ByteArray} {F L MC : Nat} {Γ : gT} (hO : OkY X Z own cc F L MC Γ) (pc : Nat) {μ : mT} {lv : List (Nat × Value)} {st : List Value} {x : Int32} {off : Int} (tgt : Nat) (ht : (pc : Int) + off = (tgt : Int)) (d : decode cc pc = .ok (.ifCond .ge off, 3)) (kt : 0 ≤ x → lj X as qn Γ μ tgt lv st) (kf : ¬ (0 ≤ x) → lj X as qn Γ μ (pc + 3) lv st) : lj X as qn Γ μ pc lv (.int x :: st) := by
  obtain ⟨p, l, e, R, s, m, args, below, meth, c, kc, ks, Q, nL⟩ := Γ
  obtain ⟨hx, hb, hml, hown, hts, hK, hN, hR, hX, hZ, hroom, hlk⟩ := hO
  intro H locs la hD hP hS hl
  exact lv_if_ge hx hb d ht (fun h => kt h H locs la hD hP hS hl) (fun h => kf h H locs la hD hP hS hl)
theorem lr_if_gt {X : xT} {Z : scT} {as : aT} {qn : Nat} {own : String} {cc : ByteArray} {F L MC : Nat} {Γ : gT} (hO : OkY X Z own cc F L MC Γ) (pc : Nat) {μ : mT} {lv : List (Nat × Value)} {st : List Value} {x : Int32} {off : Int} (tgt : Nat) (ht : (pc : Int) + off = (tgt : Int)) (d : decode cc pc = .ok (.ifCond .gt off, 3)) (kt : 0 < x → lj X as qn Γ μ tgt lv st) (kf : ¬ (0 < x) → lj X as qn Γ μ (pc + 3) lv st) : lj X as qn Γ μ pc lv (.int x :: st) := by
  obtain ⟨p, l, e, R, s, m, args, below, meth, c, kc, ks, Q, nL⟩ := Γ
  obtain ⟨hx, hb, hml, hown, hts, hK, hN, hR, hX, hZ, hroom, hlk⟩ := hO
  intro H locs la hD hP hS hl
  exact lv_if_gt hx hb d ht (fun h => kt h H locs la hD hP hS hl) (fun h => kf h H locs la hD hP hS hl)
theorem lr_if_le {X : xT} {Z : scT} {as : aT} {qn : Nat} {own : String} {cc : ByteArray} {F L MC : Nat} {Γ : gT} (hO : OkY X Z own cc F L MC Γ) (pc : Nat) {μ : mT} {lv : List (Nat × Value)} {st : List Value} {x : Int32} {off : Int} (tgt : Nat) (ht : (pc : Int) + off = (tgt : Int)) (d : decode cc pc = .ok (.ifCond .le off, 3)) (kt : x ≤ 0 → lj X as qn Γ μ tgt lv st) (kf : ¬ (x ≤ 0) → lj X as qn Γ μ (pc + 3) lv st) : lj X as qn Γ μ pc lv (.int x :: st) := by
  obtain ⟨p, l, e, R, s, m, args, below, meth, c, kc, ks, Q, nL⟩ := Γ
  obtain ⟨hx, hb, hml, hown, hts, hK, hN, hR, hX, hZ, hroom, hlk⟩ := hO
  intro H locs la hD hP hS hl
  exact lv_if_le hx hb d ht (fun h => kt h H locs la hD hP hS hl) (fun h => kf h H locs la hD hP hS hl)
theorem lr_icmp_eq {X : xT} {Z : scT} {as : aT} {qn : Nat} {own : String} {cc : ByteArray} {F L MC : Nat} {Γ : gT} (hO : OkY X Z own cc F L MC Γ) (pc : Nat) {μ : mT} {lv : List (Nat × Value)} {st : List Value} {x y : Int32} {off : Int} (tgt : Nat) (ht : (pc : Int) + off = (tgt : Int)) (d : decode cc pc = .ok (.if_icmp .eq off, 3)) (kt : x = y → lj X as qn Γ μ tgt lv st) (kf : ¬ (x = y) → lj X as qn Γ μ (pc + 3) lv st) : lj X as qn Γ μ pc lv (.int y :: .int x :: st) := by
  obtain ⟨p, l, e, R, s, m, args, below, meth, c, kc, ks, Q, nL⟩ := Γ
  obtain ⟨hx, hb, hml, hown, hts, hK, hN, hR, hX, hZ, hroom, hlk⟩ := hO
  intro H locs la hD hP hS hl
  exact lv_icmp_eq hx hb d ht (fun h => kt h H locs la hD hP hS hl) (fun h => kf h H locs la hD hP hS hl)
theorem lr_icmp_ne {X : xT} {Z : scT} {as : aT} {qn : Nat} {own : String} {cc : ByteArray} {F L MC : Nat} {Γ : gT} (hO : OkY X Z own cc F L MC Γ) (pc : Nat) {μ : mT} {lv : List (Nat × Value)} {st : List Value} {x y : Int32} {off : Int} (tgt : Nat) (ht : (pc : Int) + off = (tgt : Int)) (d : decode cc pc = .ok (.if_icmp .ne off, 3)) (kt : ¬ x = y → lj X as qn Γ μ tgt lv st) (kf : x = y → lj X as qn Γ μ (pc + 3) lv st) : lj X as qn Γ μ pc lv (.int y :: .int x :: st) := by
  obtain ⟨p, l, e, R, s, m, args, below, meth, c, kc, ks, Q, nL⟩ := Γ
  obtain ⟨hx, hb, hml, hown, hts, hK, hN, hR, hX, hZ, hroom, hlk⟩ := hO
  intro H locs la hD hP hS hl
  exact lv_icmp_ne hx hb d ht (fun h => kt h H locs la hD hP hS hl) (fun h => kf h H locs la hD hP hS hl)
theorem lr_icmp_lt {X : xT} {Z : scT} {as : aT} {qn : Nat} {own : String} {cc : ByteArray} {F L MC : Nat} {Γ : gT} (hO : OkY X Z own cc F L MC Γ) (pc : Nat) {μ : mT} {lv : List (Nat × Value)} {st : List Value} {x y : Int32} {off : Int} (tgt : Nat) (ht : (pc : Int) + off = (tgt : Int)) (d : decode cc pc = .ok (.if_icmp .lt off, 3)) (kt : x < y → lj X as qn Γ μ tgt lv st) (kf : ¬ (x < y) → lj X as qn Γ μ (pc + 3) lv st) : lj X as qn Γ μ pc lv (.int y :: .int x :: st) := by
  obtain ⟨p, l, e, R, s, m, args, below, meth, c, kc, ks, Q, nL⟩ := Γ
  obtain ⟨hx, hb, hml, hown, hts, hK, hN, hR, hX, hZ, hroom, hlk⟩ := hO
  intro H locs la hD hP hS hl
  exact lv_icmp_lt hx hb d ht (fun h => kt h H locs la hD hP hS hl) (fun h => kf h H locs la hD hP hS hl)
theorem lr_icmp_ge {X : xT} {Z : scT} {as : aT} {qn : Nat} {own : String} {cc : ByteArray} {F L MC : Nat} {Γ : gT} (hO : OkY X Z own cc F L MC Γ) (pc : Nat) {μ : mT} {lv : List (Nat × Value)} {st : List Value} {x y : Int32} {off : Int} (tgt : Nat) (ht : (pc : Int) + off = (tgt : Int)) (d : decode cc pc = .ok (.if_icmp .ge off, 3)) (kt : y ≤ x → lj X as qn Γ μ tgt lv st) (kf : ¬ (y ≤ x) → lj X as qn Γ μ (pc + 3) lv st) : lj X as qn Γ μ pc lv (.int y :: .int x :: st) := by
  obtain ⟨p, l, e, R, s, m, args, below, meth, c, kc, ks, Q, nL⟩ := Γ
  obtain ⟨hx, hb, hml, hown, hts, hK, hN, hR, hX, hZ, hroom, hlk⟩ := hO
  intro H locs la hD hP hS hl
  exact lv_icmp_ge hx hb d ht (fun h => kt h H locs la hD hP hS hl) (fun h => kf h H locs la hD hP hS hl)
theorem lr_icmp_gt {X : xT} {Z : scT} {as : aT} {qn : Nat} {own : String} {cc : ByteArray} {F L MC : Nat} {Γ : gT} (hO : OkY X Z own cc F L MC Γ) (pc : Nat) {μ : mT} {lv : List (Nat × Value)} {st : List Value} {x y : Int32} {off : Int} (tgt : Nat) (ht : (pc : Int) + off = (tgt : Int)) (d : decode cc pc = .ok (.if_icmp .gt off, 3)) (kt : y < x → lj X as qn Γ μ tgt lv st) (kf : ¬ (y < x) → lj X as qn Γ μ (pc + 3) lv st) : lj X as qn Γ μ pc lv (.int y :: .int x :: st) := by
  obtain ⟨p, l, e, R, s, m, args, below, meth, c, kc, ks, Q, nL⟩ := Γ
  obtain ⟨hx, hb, hml, hown, hts, hK, hN, hR, hX, hZ, hroom, hlk⟩ := hO
  intro H locs la hD hP hS hl
  exact lv_icmp_gt hx hb d ht (fun h => kt h H locs la hD hP hS hl) (fun h => kf h H locs la hD hP hS hl)
theorem lr_icmp_le {X : xT} {Z : scT} {as : aT} {qn : Nat} {own : String} {cc : ByteArray} {F L MC : Nat} {Γ : gT} (hO : OkY X Z own cc F L MC Γ) (pc : Nat) {μ : mT} {lv : List (Nat × Value)} {st : List Value} {x y : Int32} {off : Int} (tgt : Nat) (ht : (pc : Int) + off = (tgt : Int)) (d : decode cc pc = .ok (.if_icmp .le off, 3)) (kt : x ≤ y → lj X as qn Γ μ tgt lv st) (kf : ¬ (x ≤ y) → lj X as qn Γ μ (pc + 3) lv st) : lj X as qn Γ μ pc lv (.int y :: .int x :: st) := by
  obtain ⟨p, l, e, R, s, m, args, below, meth, c, kc, ks, Q, nL⟩ := Γ
  obtain ⟨hx, hb, hml, hown, hts, hK, hN, hR, hX, hZ, hroom, hlk⟩ := hO
  intro H locs la hD hP hS hl
  exact lv_icmp_le hx hb d ht (fun h => kt h H locs la hD hP hS hl) (fun h => kf h H locs la hD hP hS hl)
theorem lr_tabD {X : xT} {Z : scT} {as : aT} {qn : Nat} {own : String} {cc : ByteArray} {F L MC : Nat} {Γ : gT} (hO : OkY X Z own cc F L MC Γ) (pc : Nat) {μ : mT} {lv : List (Nat × Value)} {st : List Value} {dflt lo hi : Int} {offs : Array Int} {len : Nat} {x : Int32} (tgt : Nat) (h : x.toInt < lo ∨ hi < x.toInt ∨ (lo ≤ x.toInt ∧ x.toInt ≤ hi ∧ offs[(x.toInt - lo).toNat]? = some dflt)) (ht : (pc : Int) + dflt = (tgt : Int)) (d : decode cc pc = .ok (.tableswitch dflt lo hi offs, len)) (k : lj X as qn Γ μ tgt lv st) : lj X as qn Γ μ pc lv (.int x :: st) := by
  rcases h with h | h | ⟨h1, h2, h3⟩
  · exact lr_tabOut hO pc tgt (Or.inl h) ht d k
  · exact lr_tabOut hO pc tgt (Or.inr h) ht d k
  · exact lr_tabIn hO pc tgt (Int.not_lt.mpr h1) (Int.not_lt.mpr h2) h3 ht d k
theorem lr_sub {X : xT} {as : aT} {qn : Nat} {Γ : gT} {μ : mT} {lv lv' : List (Nat × Value)} {pc : Nat} {st : List Value} (ks : List Nat) (h : lv_pick lv ks = lv') (k : lj X as qn Γ μ pc lv' st) : lj X as qn Γ μ pc lv st := by
  obtain ⟨p, l, e, R, s, m, args, below, meth, c, kc, ks', Q, nL⟩ := Γ
  intro H locs la hD hP hS hl
  exact k H locs la hD hP hS (lv_sub hl ks h)
theorem lr_wide {X : xT} {as : aT} {qn q2 : Nat} {Γ : gT} {μ : mT} {lv : List (Nat × Value)} {pc : Nat} {st : List Value} (h : qn ≤ q2) (k : lj X as q2 Γ μ pc lv st) : lj X as qn Γ μ pc lv st := by
  obtain ⟨p, l, e, R, s, m, args, below, meth, c, kc, ks', Q, nL⟩ := Γ
  intro H locs la hD hP hS hl
  exact W.widen (by omega) (by omega) (k H locs la hD hP hS hl)
theorem lr_slen {X : xT} {Z : scT} {as : aT} {qn : Nat} {own : String} {cc : ByteArray} {F L MC : Nat} {Γ : gT} (hO : OkY X Z own cc F L MC Γ) (pc : Nat) {μ : mT} {lv : List (Nat × Value)} {st : List Value} (d : decode cc pc = .ok (.arraylength, 1)) (k : lj X as qn Γ μ (pc + 1) lv (.int (Int32.ofNat Z.2.1) :: st)) : lj X as qn Γ μ pc lv (.ref Z.1 :: st) := by
  obtain ⟨p, l, e, R, s, m, args, below, meth, c, kc, ks, Q, nL⟩ := Γ
  obtain ⟨hx, hb, hml, hown, hts, hK, hN, hR, hX, hZ, hroom, hlk⟩ := hO
  intro H locs la hD hP hS hl
  exact va_slen hx hb hZ.1 hZ.lt hZ.2.1 hS d (k H locs la hD hP hS hl)
theorem lr_sld {X : xT} {Z : scT} {as : aT} {qn : Nat} {own : String} {cc : ByteArray} {F L MC : Nat} {Γ : gT} (hO : OkY X Z own cc F L MC Γ) (pc : Nat) {μ : mT} {lv : List (Nat × Value)} {st : List Value} {i : Int32} (hi : inb i Z.2.1 = true) (d : decode cc pc = .ok (.iaload, 1)) (k : lj X as qn Γ μ (pc + 1) lv (.int (Z.2.2 i.toNatClampNeg) :: st)) : lj X as qn Γ μ pc lv (.int i :: .ref Z.1 :: st) := by
  obtain ⟨p, l, e, R, s, m, args, below, meth, c, kc, ks, Q, nL⟩ := Γ
  obtain ⟨hx, hb, hml, hown, hts, hK, hN, hR, hX, hZ, hroom, hlk⟩ := hO
  intro H locs la hD hP hS hl
  exact va_sld hx hb hZ.1 hZ.lt hZ.2.1 hS (inb_in hi) d (k H locs la hD hP hS hl)
theorem lr_iald {X : xT} {Z : scT} {as : aT} {qn : Nat} {own : String} {cc : ByteArray} {F L MC : Nat} {Γ : gT} (hO : OkY X Z own cc F L MC Γ) (pc : Nat) {μ : mT} {lv : List (Nat × Value)} {st : List Value} {κ a ia : Nat} {i : Int32} (ha : as[ia]? = some (κ, a)) (hi : inb i 32 = true) (d : decode cc pc = .ok (.iaload, 1)) (k : lj X as qn Γ μ (pc + 1) lv (.int (μ κ 0 i.toNatClampNeg) :: st)) : lj X as qn Γ μ pc lv (.int i :: .ref a :: st) := by
  obtain ⟨p, l, e, R, s, m, args, below, meth, c, kc, ks, Q, nL⟩ := Γ
  obtain ⟨hx, hb, hml, hown, hts, hK, hN, hR, hX, hZ, hroom, hlk⟩ := hO
  intro H locs la hD hP hS hl
  exact va_iald hx hb hK hP (207 + ia) 0 (y_at ha) rfl (inb_in hi) d (k H locs la hD hP hS hl)
theorem lr_iast {X : xT} {Z : scT} {as : aT} {qn : Nat} {own : String} {cc : ByteArray} {F L MC : Nat} {Γ : gT} (hO : OkY X Z own cc F L MC Γ) (pc : Nat) {μ : mT} {lv : List (Nat × Value)} {st : List Value} {κ a ia : Nat} {i x : Int32} {μ1 : mT} (e1 : μ1 = upM μ κ 0 i.toNatClampNeg x) (ha : as[ia]? = some (κ, a)) (hi : inb i 32 = true) (d : decode cc pc = .ok (.iastore, 1)) (k : lj X as qn Γ μ1 (pc + 1) lv st) : lj X as qn Γ μ pc lv (.int x :: .int i :: .ref a :: st) := by
  obtain ⟨p, l, e, R, s, m, args, below, meth, c, kc, ks, Q, nL⟩ := Γ
  obtain ⟨hx, hb, hml, hown, hts, hK, hN, hR, hX, hZ, hroom, hlk⟩ := hO
  intro H locs la hD hP hS hl
  subst e1
  refine va_iast hx hb hK hP (hD.2.2 μ) hS (207 + ia) 0 (y_at ha) rfl (inb_in hi) d (fun H1 locs1 hP1 _ hS1 => ?_)
  rw [y_set hD ha] at hP1
  exact k H1 locs1 la hD hP1 hS1 hl
theorem lr_new {X : xT} {Z : scT} {as : aT} {qn : Nat} {own : String} {cc : ByteArray} {F L MC : Nat} {Γ : gT} (hO : OkY X Z own cc F L MC Γ) (pc : Nat) {μ : mT} {lv : List (Nat × Value)} {st : List Value} {κ : Nat} {asf : Nat → aT} {μ1 : mT} (e1 : μ1 = upR μ κ 0 (fun _ => 0)) (he : ∀ a, as ++ [(κ, a)] = asf a) (hκ : 40 ≤ κ) (hn : ∀ p ∈ as, p.1 ≠ κ) (hm : qn + 1 ≤ MC) (d : decode cc pc = .ok (.newarray .int, 2)) (k : ∀ a, lj X (asf a) (qn + 1) Γ μ1 (pc + 2) lv (.ref a :: st)) : lj X as qn Γ μ pc lv (.int 32 :: st) := by
  obtain ⟨p, l, e, R, s, m, args, below, meth, c, kc, ks, Q, nL⟩ := Γ
  obtain ⟨hx, hb, hml, hown, hts, hK, hN, hR, hX, hZ, hroom, hlk⟩ := hO
  intro H locs la hD hP hS hl
  subst e1
  refine va_newa (a0 := (32, .inl (fun _ => 0))) (atype := .int) (ty := .int) (N' := 32) hx hb (hts _ wA_int) rfl hK hP (hD.2.2 μ) hS (fun q hq => Nat.le_trans hZ.2.2 hq) (fun _ => rfl) (by decide) (by decide) (Nat.le_of_ble_eq_true rfl) (by omega) (by omega) d (fun q cA H1 hK1 hP1 hD1 hS1 => ?_)
  have e1 : s.vm.findClass ("[" ++ FieldType.int.toString) = some cA := (hK1.2 (x_ty X).length (cA, .int) (by rw [List.getElem?_append_right (Nat.le_refl _), Nat.sub_self]; rfl)).2
  have e2 : s.vm.findClass ("[" ++ FieldType.int.toString) = some (X.2.2.1 0) := (hK.2 0 (X.2.2.1 0, .int) rfl).2
  have e3 : cA = X.2.2.1 0 := Option.some.inj (e1.symm.trans e2)
  subst e3
  have ew : y_w X (asf q) (upR μ κ 0 (fun _ => 0)) = y_w X as μ ++ [(q, .inl (X.2.2.1 0, 32, .inl (fun _ => 0)))] := by
    rw [← he]
    unfold y_w x_l
    rw [x_whi (X := X) (μ := μ) (μ' := upR μ κ 0 (fun _ => 0)) (fun κ' h' => by funext j; exact q_upr0 (by omega)), List.map_append, ← List.append_assoc]
    congr 1
    · congr 1
      apply List.map_congr_left
      intro p hp
      show (p.2, Sum.inl (X.2.2.1 0, 32, Sum.inl (upR μ κ 0 (fun _ => 0) p.1 0))) = (p.2, Sum.inl (X.2.2.1 0, 32, Sum.inl (μ p.1 0)))
      rw [q_upr0 (hn p hp)]
    · show [(q, Sum.inl (X.2.2.1 0, 32, Sum.inl (upR μ κ 0 (fun _ => 0) κ 0)))] = _
      rw [q_ups0]
  have hD2 : yD X (asf q) := by
    refine ⟨?_, fun p hp => ?_, fun μ2 => ?_⟩
    · rw [← he, List.map_append, List.nodup_append]
      refine ⟨hD.1, by simp, fun a ha b hb => ?_⟩
      obtain ⟨p, hp, rfl⟩ := List.mem_map.mp ha
      simp at hb
      rw [hb]
      exact hn p hp
    · rw [← he] at hp
      rcases List.mem_append.mp hp with z | z
      · exact hD.2.1 p z
      · rw [List.mem_singleton] at z
        subst z
        exact hκ
    · refine y_Da ?_ (by rw [← ew] at hD1; exact hD1)
      rw [y_adr, y_adr]
  have hk := k q H1 locs la hD2 (by rw [ew]; exact hP1) hS1 hl
  have e4 : kc + (qn + 1) = kc + qn + 1 := rfl
  have e5 : ks + 32 * (qn + 1) = ks + 32 * qn + 32 := by omega
  rw [e4, e5] at hk
  exact hk
theorem lr_iret {X : xT} {Z : scT} {as as0 : aT} {qn : Nat} {own : String} {cc : ByteArray} {F L MC : Nat} {Γ : gT} (hO : OkY X Z own cc F L MC Γ) (pc : Nat) {μ : mT} {lv : List (Nat × Value)} {r : Int32} {rt : FieldType} (hs : ∀ p ∈ as0, p ∈ as) (hm : qn ≤ MC) (hQ : RtY X as0 MC rt r μ Γ) (hn : narrow rt (.int r) = .int r) (d : decode cc pc = .ok (.ireturn, 1)) : lj X as qn Γ μ pc lv [.int r] := by
  obtain ⟨p, l, e, R, s, m, args, below, meth, c, kc, ks, Q, nL⟩ := Γ
  obtain ⟨hx, hb, hml, hown, hts, hK, hN, hR, hX, hZ, hroom, hlk⟩ := hO
  intro H locs la hD hP hS hl
  obtain ⟨rfl, rfl, hr, rfl⟩ := hQ
  have hP2 : va_P X.2.1 vwCl (y_w X as0 μ) H := y_Pm.mpr (fun q hq => y_Pm.mp hP q (by
    unfold y_w x_l at hq ⊢
    rcases List.mem_append.mp hq with z | z
    · exact List.mem_append_left _ z
    · obtain ⟨p, hp, rfl⟩ := List.mem_map.mp z
      exact List.mem_append_right _ (List.mem_map.mpr ⟨p, hs p hp, rfl⟩)))
  exact W.widen (by omega) (by omega) (W.zret hx hb hr hn (fun t ht hW => ⟨⟨r, (), rfl, rfl, by show va_P _ _ _ t.heap; rw [ht]; exact hP2⟩, hS.F ht⟩) hS.2.2 d hlk)
/-- a call of the class: only its world may change, the rows of the method stay -/
theorem lr_callI {X : xT} {Z : scT} {as : aT} {qn : Nat} {own : String} {cc : ByteArray} {F L MC : Nat} {Γ : gT} (hO : OkY X Z own cc F L MC Γ) (pc : Nat) {μ : mT} {lv : List (Nat × Value)} {st : List Value} {μa μ' : mT} {f' n' idx nl na : Nat} {As stk : List Value} {y : MethodName} {bytes : ByteArray} {r : Int32} {rt : FieldType} (hM : CMi X y bytes nl rt f' n' (.ref (X.1 18 0) :: As) μ r μa) (e1 : μ' = mix μ μa) (hs : As.reverse ++ .ref (X.1 18 0) :: st = stk) (h1 : Cond.methodLink own idx y ∈ big) (h2 : Cond.instanceMethod y ∈ big) (h3 : Cond.selects RX7 y y ∈ big) (h4 : Cond.initialized RX7 ∈ big) (h5 : Cond.code y bytes nl (some rt) ∈ big) (hd : y.cls = RX7 ∧ y.cls ≠ "java/lang/invoke/MethodHandle" ∧ y.cls ≠ "java/lang/invoke/VarHandle" ∧ (parseMethodDescriptor y.desc).map (fun d => d.parameters.length) = some na) (hna : As.length = na) (hF : f' + 1 ≤ F) (hL : 8 + (nl + 11) + n' ≤ L) (hrs : (st.map fun v => v.category).sum ≤ 8) (hm : qn ≤ MC) (d : decode cc pc = .ok (.invokevirtual idx, 3)) (k : lj X as qn Γ μ' (pc + 3) lv (.int r :: st)) : lj X as qn Γ μ pc lv stk := by
  obtain ⟨p, l, e, R, s, m, args, below, meth, c, kc, ks, Q, nL⟩ := Γ
  obtain ⟨hx, hb, hml, hown, hts, hK, hN, hR, hX, hZ, hroom, hlk⟩ := hO
  intro H locs la hD hP hS hl
  subst e1
  have hPx : va_P X.2.1 vwCl (x_w X μ) H := y_Pm.mpr (fun q hq => y_Pm.mp hP q (List.mem_append_left _ hq))
  obtain ⟨fs, he⟩ : ∃ fs, x_c X 18 0 (μ 18 0) = .inr (7, fs) := ⟨_, rfl⟩
  refine va_calli (post := fun z (_ : Unit) => z = r) (B := fun _ t => va_P X.2.1 vwCl (x_w X μa) t.heap) (va_runV (As := As) (rest := st) ⟨hx, hb, hml, hown, hts⟩ (hM l) (cwV na hts (big_V h1 h2 h3 h4 h5) rfl rfl rfl hd ⟨Nat.le_trans hF hroom.1, Nat.le_trans hL hroom.2.1⟩) ⟨fun a U g mk q => ⟨q.1, q.2.blind g mk a⟩, va_recv (ci := 7) hK hPx (q := (RX7, TX7, 7)) rfl (by rw [x_wg X μ (κ := 18) (j := 0) (x_v0 (by decide)), he]), fun U hU hW => ⟨rfl, y_Gx hX hK hN hR hS hP hU hW⟩⟩ rfl hna hl.1 hs.symm (lv_room hrs) d ⟨by omega, by omega⟩) hS (fun q _ h => x_Ay hX h) (fun q h => x_Ay hX h) (fun z u t H1 locs1 ht hvm hw hB hz1 hk1 hS1 => ?_)
  subst hw
  rw [ht] at hB
  refine k H1 locs1 la hD ?_ hS1 hl
  unfold y_w
  refine va_P.app ?_ ?_
  · rw [x_whi (X := X) (μ := μa) (μ' := mix μ μa) (fun κ h' => mix_lo (by omega))]
    exact hB
  · refine y_Pm.mpr (fun q hq => ?_)
    unfold x_l at hq
    obtain ⟨p, hp, rfl⟩ := List.mem_map.mp hq
    have h0 : va_at X.2.1 vwCl (p.2, .inl (X.2.2.1 0, 32, .inl (μ p.1 0))) H := y_Pm.mp hP _ (List.mem_append_right _ (List.mem_map.mpr ⟨p, hp, rfl⟩))
    rw [mix_hi (hD.2.1 p hp)]
    have hlt := h0.lt
    refine h0.kept (hk1 _ hlt (fun z => ?_))
    obtain ⟨n, hn, e⟩ := z
    have hd := (y_Dw.mp (hD.2.2 μ)).1
    rw [y_adr, List.nodup_append] at hd
    exact hd.2.2 _ (List.mem_map.mpr ⟨n, List.mem_range.mpr hn, rfl⟩) _ (List.mem_map.mpr ⟨p, hp, rfl⟩) e
theorem lr_callS {X : xT} {Z : scT} {as : aT} {qn : Nat} {own : String} {cc : ByteArray} {F L MC : Nat} {Γ : gT} (hO : OkY X Z own cc F L MC Γ) (pc : Nat) {μ : mT} {lv : List (Nat × Value)} {st : List Value} {μ' : mT} {f' n' mc idx nl na : Nat} {As stk : List Value} {y : MethodName} {bytes : ByteArray} {r : Int32} {rt : FieldType} (hM : CL X Z as y bytes nl rt f' n' mc As μ r μ') (hs : As.reverse ++ st = stk) (h1 : Cond.methodLink own idx y ∈ big) (h2 : Cond.static y ∈ big) (h4 : Cond.initialized own ∈ big) (h5 : Cond.code y bytes nl (some rt) ∈ big) (hd : y.cls = own ∧ y.cls ≠ "java/lang/invoke/MethodHandle" ∧ y.cls ≠ "java/lang/invoke/VarHandle" ∧ (parseMethodDescriptor y.desc).map (fun d => d.parameters.length) = some na) (hna : As.length = na) (hF : f' + 1 ≤ F) (hL : 8 + (nl + 11) + n' ≤ L) (hrs : (st.map fun v => v.category).sum ≤ 8) (hm : qn + mc ≤ MC) (d : decode cc pc = .ok (.invokestatic idx, 3)) (k : lj X as (qn + mc) Γ μ' (pc + 3) lv (.int r :: st)) : lj X as qn Γ μ pc lv stk := by
  obtain ⟨p, l, e, R, s, m, args, below, meth, c, kc, ks, Q, nL⟩ := Γ
  obtain ⟨hx, hb, hml, hown, hts, hK, hN, hR, hX, hZ, hroom, hlk⟩ := hO
  intro H locs la hD hP hS hl
  refine va_calli (post := fun z (_ : Unit) => z = r) (B := fun _ t => va_P X.2.1 vwCl (y_w X as μ') t.heap) (va_runS (As := As) (rest := st) ⟨hx, hb, hml, hown, hts⟩ (hM l) (cwS na hts (big_S h1 h2 h4 h5) rfl rfl rfl hd ⟨Nat.le_trans hF hroom.1, Nat.le_trans hL hroom.2.1⟩) ⟨fun a U g mk q => ⟨q.1, q.2.blind g mk a⟩, fun U hU hW => ⟨rfl, y_G.to hK hN hR hZ hD hS hP hU hW⟩⟩ rfl hna hl.1 hs.symm (lv_room hrs) d ⟨by omega, by omega⟩) hS (fun q _ h => h) (fun q h => h) (fun z u t H1 locs1 ht hvm hw hB hz1 hk1 hS1 => ?_)
  subst hw
  rw [ht] at hB
  have hk := k H1 locs1 la hD hB hS1 hl
  have e4 : kc + (qn + mc) = kc + qn + mc := (Nat.add_assoc _ _ _).symm
  have e5 : ks + 32 * (qn + mc) = ks + 32 * qn + 32 * mc := by omega
  rw [e4, e5] at hk
  exact hk
