abbrev xT := (Nat → Nat → Nat) × va_G × (Nat → ClassId) × Nat
abbrev mT := Nat → Nat → Nat → Int32
def x_v (κ j : Nat) : Prop := (κ < 18 ∧ j < 11) ∨ (18 ≤ κ ∧ κ < 27 ∧ j = 0)
def x_n (κ j : Nat) : Nat := if κ < 18 then 11 * κ + j else κ + 180
def x_k (n : Nat) : Nat × Nat := if n < 198 then (n / 11, n % 11) else (n - 180, 0)
def x_A (X : xT) : Nat → Prop := fun q => ∃ n, n < 207 ∧ X.1 (x_k n).1 (x_k n).2 = q
theorem x_vy {κ j : Nat} (h : κ < 18) (hj : j < 11) : x_v κ j := Or.inl ⟨h, hj⟩
theorem x_v0 {κ : Nat} (h : 18 ≤ κ ∧ κ < 27) : x_v κ 0 := Or.inr ⟨h.1, h.2, rfl⟩
theorem x_nl {κ j : Nat} (h : x_v κ j) : x_n κ j < 207 := by unfold x_n; rcases h with ⟨h1, h2⟩ | ⟨h1, h2, h3⟩ <;> split <;> omega
theorem x_kn {κ j : Nat} (h : x_v κ j) : x_k (x_n κ j) = (κ, j) := by
  rcases h with ⟨h1, h2⟩ | ⟨h1, h2, h3⟩
  · have e : x_n κ j = 11 * κ + j := if_pos h1
    rw [e]
    unfold x_k
    rw [if_pos (by omega)]
    exact Prod.ext (by show (11 * κ + j) / 11 = κ; omega) (by show (11 * κ + j) % 11 = j; omega)
  · subst h3
    have e : x_n κ 0 = κ + 180 := if_neg (by omega)
    rw [e]
    unfold x_k
    rw [if_neg (by omega)]
    exact Prod.ext (by show κ + 180 - 180 = κ; omega) rfl
theorem x_nk {n : Nat} (h : n < 207) : x_n (x_k n).1 (x_k n).2 = n ∧ x_v (x_k n).1 (x_k n).2 := by
  unfold x_n x_k x_v
  by_cases h1 : n < 198
  · rw [if_pos h1]
    dsimp only
    refine ⟨?_, Or.inl ⟨by omega, by omega⟩⟩
    rw [if_pos (by omega)]
    omega
  · rw [if_neg h1]
    dsimp only
    refine ⟨?_, Or.inr ⟨by omega, by omega, rfl⟩⟩
    rw [if_neg (by omega)]
    omega
def x_c (X : xT) (κ j : Nat) (r : Nat → Int32) : va_E := match κ with
  | 0 => .inr (6, [.int (r 0), .int (r 1), .int (r 2), .int (r 3), .int (r 4), .int (r 5), .ref (X.1 4 j), .int (r 7), .ref (X.1 5 j), .ref (X.1 6 j), .ref (X.1 7 j), .ref (X.1 1 j), .ref (X.1 2 j), .ref (X.1 3 j)])
  | 1 => .inr (5, [.int (r 0), .int (r 1), .ref (X.1 8 j), .ref (X.1 9 j), .ref (X.1 10 j), .ref (X.1 11 j), .ref (X.1 12 j)])
  | 2 => .inr (0, [.int (r 0), .ref (X.1 13 j), .ref (X.1 14 j)])
  | 3 => .inr (3, [.int (r 0), .ref (X.1 15 j), .ref (X.1 16 j), .ref (X.1 17 j)])
  | 4 => .inl (X.2.2.1 0, 6, .inl r)
  | 5 => .inl (X.2.2.1 0, 8, .inl r)
  | 6 => .inl (X.2.2.1 0, 8, .inl r)
  | 7 => .inl (X.2.2.1 0, 8, .inl r)
  | 8 => .inl (X.2.2.1 0, 30, .inl r)
  | 9 => .inl (X.2.2.1 0, 30, .inl r)
  | 10 => .inl (X.2.2.1 0, 30, .inl r)
  | 11 => .inl (X.2.2.1 0, 9, .inl r)
  | 12 => .inl (X.2.2.1 0, 270, .inl r)
  | 13 => .inl (X.2.2.1 0, 10, .inl r)
  | 14 => .inl (X.2.2.1 0, 10, .inl r)
  | 15 => .inl (X.2.2.1 0, 8, .inl r)
  | 16 => .inl (X.2.2.1 0, 8, .inl r)
  | 17 => .inl (X.2.2.1 0, 64, .inl r)
  | 18 => .inr (7, [.ref (X.1 0 0), .ref (X.1 20 0), .ref (X.1 19 0), .ref (X.1 23 0), .ref (X.1 24 0), .ref (X.1 21 0), .ref (X.1 26 0)])
  | 19 => .inr (1, [.int (r 0), .ref (X.1 22 0)])
  | 20 => .inr (4, [.ref (X.1 0 1)])
  | 21 => .inr (2, [.int (r 0), .ref (X.1 25 0)])
  | 22 => .inl (X.2.2.1 3, 7, .inr (.inr (.inr (.inr (fun k => some (X.1 0 (r k).toNatClampNeg))))))
  | 23 => .inl (X.2.2.1 3, 2, .inr (.inr (.inr (.inr (fun k => some (X.1 0 (r k).toNatClampNeg))))))
  | 24 => .inl (X.2.2.1 1, 2, .inl r)
  | 25 => .inl (X.2.2.1 2, 80, .inl r)
  | 26 => .inl (X.2.2.1 0, 8, .inl r)
  | _ => .inl (X.2.2.1 0, 0, .inl r)
def x_ai (κ t n : Nat) : Prop := ∀ (X : xT) (j : Nat) (r : Nat → Int32), x_c X κ j r = .inl (X.2.2.1 t, n, .inl r)
def x_aq (κ n : Nat) : Prop := ∀ (X : xT) (j : Nat) (r : Nat → Int32), x_c X κ j r = .inl (X.2.2.1 3, n, .inr (.inr (.inr (.inr (fun k => some (X.1 0 (r k).toNatClampNeg))))))
theorem a_4 : x_ai 4 0 6 := fun _ _ _ => rfl
theorem a_5 : x_ai 5 0 8 := fun _ _ _ => rfl
theorem a_6 : x_ai 6 0 8 := fun _ _ _ => rfl
theorem a_7 : x_ai 7 0 8 := fun _ _ _ => rfl
theorem a_8 : x_ai 8 0 30 := fun _ _ _ => rfl
theorem a_9 : x_ai 9 0 30 := fun _ _ _ => rfl
theorem a_10 : x_ai 10 0 30 := fun _ _ _ => rfl
theorem a_11 : x_ai 11 0 9 := fun _ _ _ => rfl
theorem a_12 : x_ai 12 0 270 := fun _ _ _ => rfl
theorem a_13 : x_ai 13 0 10 := fun _ _ _ => rfl
theorem a_14 : x_ai 14 0 10 := fun _ _ _ => rfl
theorem a_15 : x_ai 15 0 8 := fun _ _ _ => rfl
theorem a_16 : x_ai 16 0 8 := fun _ _ _ => rfl
theorem a_17 : x_ai 17 0 64 := fun _ _ _ => rfl
theorem a_22 : x_aq 22 7 := fun _ _ _ => rfl
theorem a_23 : x_aq 23 2 := fun _ _ _ => rfl
theorem a_24 : x_ai 24 1 2 := fun _ _ _ => rfl
theorem a_25 : x_ai 25 2 80 := fun _ _ _ => rfl
theorem a_26 : x_ai 26 0 8 := fun _ _ _ => rfl
def x_w (X : xT) (μ : mT) : va_W := (List.range 207).map fun n => (X.1 (x_k n).1 (x_k n).2, x_c X (x_k n).1 (x_k n).2 (μ (x_k n).1 (x_k n).2))
def upR (μ : mT) (κ j : Nat) (r : Nat → Int32) : mT := fun κ' j' => if κ' = κ ∧ j' = j then r else μ κ' j'
def upM (μ : mT) (κ j k : Nat) (x : Int32) : mT := upR μ κ j (upd (μ κ j) k x)
theorem x_wn (X : xT) (μ : mT) {n : Nat} (h : n < 207) : (x_w X μ)[n]? = some (X.1 (x_k n).1 (x_k n).2, x_c X (x_k n).1 (x_k n).2 (μ (x_k n).1 (x_k n).2)) := by
  unfold x_w
  rw [List.getElem?_map, List.getElem?_range h]
  rfl
theorem x_wg (X : xT) (μ : mT) {κ j : Nat} (h : x_v κ j) : (x_w X μ)[x_n κ j]? = some (X.1 κ j, x_c X κ j (μ κ j)) := by
  rw [x_wn X μ (x_nl h), x_kn h]
theorem x_wl (X : xT) (μ : mT) : (x_w X μ).length = 207 := by unfold x_w; rw [List.length_map, List.length_range]
theorem x_ws (X : xT) (μ : mT) {κ j : Nat} (h : x_v κ j) (r : Nat → Int32) : (x_w X μ).set (x_n κ j) (X.1 κ j, x_c X κ j r) = x_w X (upR μ κ j r) := by
  apply List.ext_getElem?
  intro n
  rw [List.getElem?_set, x_wl]
  by_cases hn : x_n κ j = n
  · rw [if_pos hn, if_pos (x_nl h), ← hn, x_wg X _ h]
    unfold upR
    rw [if_pos ⟨rfl, rfl⟩]
  · rw [if_neg hn]
    by_cases hl : n < 207
    · rw [x_wn X _ hl, x_wn X _ hl]
      unfold upR
      rw [if_neg]
      rintro ⟨h1, h2⟩
      apply hn
      rw [← h1, ← h2]
      exact (x_nk hl).1
    · rw [List.getElem?_eq_none (by rw [x_wl]; omega), List.getElem?_eq_none (by rw [x_wl]; omega)]
def xOK (X : xT) : Prop := (∀ n n', n < 207 → n' < 207 → X.1 (x_k n).1 (x_k n).2 = X.1 (x_k n').1 (x_k n').2 → n = n') ∧ ∀ n, n < 207 → X.2.2.2 ≤ X.1 (x_k n).1 (x_k n).2
theorem x_D {X : xT} (h : xOK X) (μ : mT) : va_D (x_A X) (x_w X μ) := by
  have hl : ∀ (n : Nat) (q : Nat × va_E), (x_w X μ)[n]? = some q → n < 207 := fun n q e => by
    have := (List.getElem?_eq_some_iff.mp e).1
    rwa [x_wl] at this
  refine ⟨fun i j p q hp hq e => ?_, fun k q hq => ?_⟩
  · have hi := hl i p hp
    have hj := hl j q hq
    rw [x_wn X μ hi] at hp
    rw [x_wn X μ hj] at hq
    cases hp
    cases hq
    exact h.1 i j hi hj e
  · have hk := hl k q hq
    rw [x_wn X μ hk] at hq
    cases hq
    exact ⟨k, hk, rfl⟩
def x_ty (X : xT) : List (ClassId × FieldType) := [(X.2.2.1 0, .int), (X.2.2.1 1, .boolean), (X.2.2.1 2, .char), (X.2.2.1 3, .object RX6)]
def cst (κ : Nat) : Nat → Int32 := if κ = 40 then fun k => ([4, 2, 1, 0, 1, 0] : List Int32).getD k 0 else fun k => ([60, 60, 20, 10, 60, 1000] : List Int32).getD k 0
def x_N (U : State) : Prop := (∀ q ∈ nF, va_Nw (.fieldLinkNest q.1 q.2.1 q.2.2.1 q.2.2.2.1 q.2.2.2.2.1 q.2.2.2.2.2) U) ∧ ∀ q ∈ nM, va_Nw (.methodLinkNest q.1 q.2.1 q.2.2.1 q.2.2.2) U
theorem x_N.warm {s U : State} (h : x_N s) (hW : s.WarmedH U.vm) : x_N U := ⟨fun q hq => va_Nw.warmF hW (h.1 q hq), fun q hq => va_Nw.warmM hW (h.2 q hq)⟩
theorem x_N.same {s U : State} (h : x_N s) (hW : s.vm = U.vm) : x_N U := ⟨fun q hq => va_Nw.same rfl hW (h.1 q hq), fun q hq => va_Nw.same rfl hW (h.2 q hq)⟩
def x_R (X : xT) (U : State) (H : Heap) : Prop := va_Z RX7 "LEAST_VALUES" "[I" (.ref (X.1 40 0)) (x_A X) U H ∧ va_Z RX7 "MOST_VALUES" "[I" (.ref (X.1 41 0)) (x_A X) U H ∧ ∀ κ, κ = 40 ∨ κ = 41 → va_T .int (X.1 κ 0) 6 (fun k => .int (cst κ k)) (x_A X) U H
theorem x_R.moved {X : xT} {u U : State} {H : Heap} (hvm : u.vm.Alike U.vm) (h : x_R X u H) : x_R X U H := ⟨h.1.moved hvm, h.2.1.moved hvm, fun κ hκ => (h.2.2 κ hκ).moved hvm⟩
theorem x_R.kept {X : xT} {U : State} {H H1 : Heap} {locs : List Loc} (h : x_R X U H) (hS : va_S (x_A X) H H1 locs) : x_R X U H1 := ⟨h.1.kept hS.2.1, h.2.1.kept hS.2.1, fun κ hκ => (h.2.2 κ hκ).kept hS.2.1⟩
def x_G (X : xT) (μ : mT) (U : State) : Prop := va_P X.2.1 vwCl (x_w X μ) U.heap ∧ va_K X.2.1 vwCl (x_ty X) U ∧ x_N U ∧ x_R X U U.heap
theorem x_G.blind {X : xT} {μ : mT} {U : State} (g : JFrame) (mk : MethodId) (a : Array Value) (h : x_G X μ U) : x_G X μ (U.calling g mk a) :=
  ⟨h.1, va_K.moved (u := U) (U := U.calling g mk a) (Vm.Alike.refl U.vm) h.2.1, x_N.same (U := U.calling g mk a) h.2.2.1 rfl, x_R.moved (u := U) (U := U.calling g mk a) (Vm.Alike.refl U.vm) h.2.2.2⟩
theorem x_G.to {X : xT} {μ : mT} {s U : State} {H : Heap} {locs : List Loc} (hK : va_K X.2.1 vwCl (x_ty X) s) (hN : x_N s) (hR : x_R X s s.heap) (hS : va_S (x_A X) s.heap H locs) (hP : va_P X.2.1 vwCl (x_w X μ) H) (hU : U.heap = H) (hW : s.WarmedH U.vm) : x_G X μ U :=
  ⟨by rw [hU]; exact hP, va_K.moved hW.alike hK, hN.warm hW, by rw [hU]; exact (hR.kept hS).moved hW.alike⟩
abbrev gT := Program × Launch × Env × Room × State × MethodId × Array Value × List Frame × Method × Code × Nat × Nat × (State → Prop) × Nat
def tj (X : xT) : gT → mT → Nat → List (Nat × Value) → List Value → Prop
  | (p, l, e, R, s, m, args, below, meth, c, kc, ks, Q, nL), μ, pc, lv, st => ∀ (H : Heap) (locs : List Loc) (la : Array Slot), va_P X.2.1 vwCl (x_w X μ) H → va_S (x_A X) s.heap H locs → lv_has la nL lv → W p l e R s m args below meth c H locs kc ks Q (F0 m pc la st)
def Ok (X : xT) (own : String) (cc : ByteArray) (F L : Nat) : gT → Prop
  | (p, _, _, R, s, m, args, _, meth, c, kc, ks, _, nL) => p.tables.exec = Jvm.exec ∧ c.code = cc ∧ c.maxLocals = nL ∧ s.vm.findClass own = some m.cls ∧ (∀ w ∈ big, w.before args s = true) ∧ va_K X.2.1 vwCl (x_ty X) s ∧ x_N s ∧ x_R X s s.heap ∧ xOK X ∧ (F ≤ R.frames ∧ L ≤ R.locals ∧ kc ≤ R.cells ∧ ks ≤ R.slots) ∧ meth.locks = false
def gL : gT → Nat
  | (_, _, _, _, _, _, _, _, _, _, _, _, _, nL) => nL
def Qi (X : xT) (r : Int32) (μ' : mT) : Array Value → State → Outcome → State → Prop := va_Qi (S := Unit) (fun z _ => z = r) (fun _ t => va_P X.2.1 vwCl (x_w X μ') t.heap) (x_A X)
def Qv (X : xT) (μ' : mT) : Array Value → State → Outcome → State → Prop := va_Qv (S := Unit) (fun _ => True) (fun _ t => va_P X.2.1 vwCl (x_w X μ') t.heap) (x_A X)
def Rti (X : xT) (rt : FieldType) (r : Int32) (μ' : mT) : gT → Prop
  | (_, _, _, _, s, _, args, below, meth, _, kc, ks, Q, _) => meth.sig.returnType = some rt ∧ Q = MQ below (Qi X r μ') args s kc ks (x_A X)
def Rtv (X : xT) (μ' : mT) : gT → Prop
  | (_, _, _, _, s, _, args, below, meth, _, kc, ks, Q, _) => meth.sig.returnType = none ∧ Q = MQ below (Qv X μ') args s kc ks (x_A X)
def CMi (X : xT) (y : MethodName) (cc : ByteArray) (nL : Nat) (rt : FieldType) (F L : Nat) (As : List Value) (μ : mT) (r : Int32) (μ' : mT) : Prop := ∀ l : Launch, Met l y (.code y cc nL (some rt) :: big) { frames := F, cells := 0, slots := 0, locals := L } (va_Pc As (x_G X μ)) (Qi X r μ') 0 0 (x_A X)
def CMv (X : xT) (y : MethodName) (cc : ByteArray) (nL : Nat) (F L : Nat) (As : List Value) (μ : mT) (μ' : mT) : Prop := ∀ l : Launch, Met l y (.code y cc nL none :: big) { frames := F, cells := 0, slots := 0, locals := L } (va_Pc As (x_G X μ)) (Qv X μ') 0 0 (x_A X)
theorem CMi_of {X : xT} {y : MethodName} {cc : ByteArray} {nL : Nat} {rt : FieldType} {F L : Nat} {As : List Value} {μ : mT} {r : Int32} {μ' : mT} {lv : List (Nat × Value)} (hX : xOK X) (hy : plainName y.cls = true) (hlen : (lg_sl As).length ≤ nL) (hlv : lv_args 0 As = lv)
    (h : ∀ Γ : gT, Ok X y.cls cc F L Γ → gL Γ = nL → Rti X rt r μ' Γ → tj X Γ μ 0 lv []) : CMi X y cc nL rt F L As μ r μ' := by
  intro l
  refine Met.ofW (cc := cc) (maxL := nL) (ret := some rt) hy rfl ?_
  intro p e s m args below meth c s₁ B hml hv
  obtain ⟨rfl, hP, hK, hN, hR⟩ := hv
  have hts := atoms_spec (ws := .code y cc nL (some rt) :: big) B.pre
  have hown : s.vm.findClass y.cls = some m.cls := findClass_of_methodNamed B.named
  have hl := lv_entry As (n := nL) hlen
  rw [hlv] at hl
  rw [lg_entry_eq]
  exact h (p, l, e, _, s, m, As.toArray, below, meth, c, 0, 0, _, nL) ⟨B.exec, B.bytes, hml, hown, fun w hw => hts w (List.mem_cons_of_mem _ hw), hK, hN, hR, hX, ⟨Nat.le_refl _, Nat.le_refl _, Nat.zero_le _, Nat.zero_le _⟩, B.notSynchronized⟩ rfl ⟨B.returns, rfl⟩ s.heap [] _ hP va_S.rf hl
theorem CMv_of {X : xT} {y : MethodName} {cc : ByteArray} {nL : Nat} {F L : Nat} {As : List Value} {μ : mT} {μ' : mT} {lv : List (Nat × Value)} (hX : xOK X) (hy : plainName y.cls = true) (hlen : (lg_sl As).length ≤ nL) (hlv : lv_args 0 As = lv)
    (h : ∀ Γ : gT, Ok X y.cls cc F L Γ → gL Γ = nL → Rtv X μ' Γ → tj X Γ μ 0 lv []) : CMv X y cc nL F L As μ μ' := by
  intro l
  refine Met.ofW (cc := cc) (maxL := nL) (ret := none) hy rfl ?_
  intro p e s m args below meth c s₁ B hml hv
  obtain ⟨rfl, hP, hK, hN, hR⟩ := hv
  have hts := atoms_spec (ws := .code y cc nL none :: big) B.pre
  have hown : s.vm.findClass y.cls = some m.cls := findClass_of_methodNamed B.named
  have hl := lv_entry As (n := nL) hlen
  rw [hlv] at hl
  rw [lg_entry_eq]
  exact h (p, l, e, _, s, m, As.toArray, below, meth, c, 0, 0, _, nL) ⟨B.exec, B.bytes, hml, hown, fun w hw => hts w (List.mem_cons_of_mem _ hw), hK, hN, hR, hX, ⟨Nat.le_refl _, Nat.le_refl _, Nat.zero_le _, Nat.zero_le _⟩, B.notSynchronized⟩ rfl ⟨B.returns, rfl⟩ s.heap [] _ hP va_S.rf hl
def inb (i : Int32) (n : Nat) : Bool := decide (0 ≤ i) && decide (i.toNatClampNeg < n)
theorem inb_in {i : Int32} {n : Nat} (h : inb i n = true) : vp_in i n := by
  unfold inb at h
  rw [Bool.and_eq_true, decide_eq_true_eq, decide_eq_true_eq] at h
  intro q
  rcases q with q | q
  · exact Int32.not_lt.mpr h.1 q
  · omega
def gd {α : Type} (b : Bool) (k : Option α) : Option α := if b = true then k else none
theorem of_gd {α : Type} {b : Bool} {k : Option α} {x : α} (h : gd b k = some x) : b = true ∧ k = some x := by
  unfold gd at h
  split at h
  · exact ⟨by assumption, h⟩
  · cases h
def lt {α β : Type} (a : α) (f : α → β) : β := f a
theorem of_lt {α β : Type} {a : α} {f : α → β} {b : β} (h : lt a f = b) : ∃ x, x = a ∧ f x = b := ⟨a, rfl, h⟩
def bd {α : Type} (x : Option (Int32 × mT)) (k : Int32 → mT → Option α) : Option α := match x with
  | some (r, μ) => k r μ
  | none => none
theorem of_bd {α : Type} {x : Option (Int32 × mT)} {k : Int32 → mT → Option α} {y : α} (h : bd x k = some y) : ∃ (r : Int32) (μ : mT), x = some (r, μ) ∧ k r μ = some y := by
  unfold bd at h
  split at h
  · exact ⟨_, _, rfl, h⟩
  · cases h
theorem of_t {α : Type} {c : Prop} {_ : Decidable c} {A B : α} {x : α} (hc : c) (h : (if c then A else B) = x) : A = x := (if_pos hc).symm.trans h
theorem of_f {α : Type} {c : Prop} {_ : Decidable c} {A B : α} {x : α} (hc : ¬ c) (h : (if c then A else B) = x) : B = x := (if_neg hc).symm.trans h
def fu : Nat := 4000
theorem tr_iconst {X : xT} {own : String} {cc : ByteArray} {F L : Nat} {Γ : gT} (hO : Ok X own cc F L Γ) (pc : Nat) {μ : mT} {lv : List (Nat × Value)} {st : List Value} {n : Int} {v : Int32} (hv : Int32.ofInt n = v) (d : decode cc pc = .ok (.iconst n, 1)) (k : tj X Γ μ (pc + 1) lv (.int v :: st)) : tj X Γ μ pc lv st := by
  obtain ⟨p, l, e, R, s, m, args, below, meth, c, kc, ks, Q, nL⟩ := Γ
  obtain ⟨hx, hb, hml, hown, hts, hK, hN, hR, hX, hroom, hlk⟩ := hO
  intro H locs la hP hS hl
  exact lv_iconst hx hb d hv (k H locs la hP hS hl)
theorem tr_bipush {X : xT} {own : String} {cc : ByteArray} {F L : Nat} {Γ : gT} (hO : Ok X own cc F L Γ) (pc : Nat) {μ : mT} {lv : List (Nat × Value)} {st : List Value} {n : Int} {v : Int32} (hv : (Int8.ofInt n).toInt32 = v) (d : decode cc pc = .ok (.bipush n, 2)) (k : tj X Γ μ (pc + 2) lv (.int v :: st)) : tj X Γ μ pc lv st := by
  obtain ⟨p, l, e, R, s, m, args, below, meth, c, kc, ks, Q, nL⟩ := Γ
  obtain ⟨hx, hb, hml, hown, hts, hK, hN, hR, hX, hroom, hlk⟩ := hO
  intro H locs la hP hS hl
  exact lv_bipush hx hb d hv (k H locs la hP hS hl)
theorem tr_sipush {X : xT} {own : String} {cc : ByteArray} {F L : Nat} {Γ : gT} (hO : Ok X own cc F L Γ) (pc : Nat) {μ : mT} {lv : List (Nat × Value)} {st : List Value} {n : Int} {v : Int32} (hv : (Int16.ofInt n).toInt32 = v) (d : decode cc pc = .ok (.sipush n, 3)) (k : tj X Γ μ (pc + 3) lv (.int v :: st)) : tj X Γ μ pc lv st := by
  obtain ⟨p, l, e, R, s, m, args, below, meth, c, kc, ks, Q, nL⟩ := Γ
  obtain ⟨hx, hb, hml, hown, hts, hK, hN, hR, hX, hroom, hlk⟩ := hO
  intro H locs la hP hS hl
  exact lv_sipush hx hb d hv (k H locs la hP hS hl)
theorem tr_lconst {X : xT} {own : String} {cc : ByteArray} {F L : Nat} {Γ : gT} (hO : Ok X own cc F L Γ) (pc : Nat) {μ : mT} {lv : List (Nat × Value)} {st : List Value} {n : Fin 2} {v : Int64} (hv : Int64.ofNat (n : Nat) = v) (d : decode cc pc = .ok (.lconst n, 1)) (k : tj X Γ μ (pc + 1) lv (.long v :: st)) : tj X Γ μ pc lv st := by
  obtain ⟨p, l, e, R, s, m, args, below, meth, c, kc, ks, Q, nL⟩ := Γ
  obtain ⟨hx, hb, hml, hown, hts, hK, hN, hR, hX, hroom, hlk⟩ := hO
  intro H locs la hP hS hl
  exact lv_lconst hx hb d hv (k H locs la hP hS hl)
theorem tr_ldc2 {X : xT} {own : String} {cc : ByteArray} {F L : Nat} {Γ : gT} (hO : Ok X own cc F L Γ) (pc : Nat) {μ : mT} {lv : List (Nat × Value)} {st : List Value} {index : Nat} {v : Int64} (hw : Cond.constantLong own index v ∈ big) (d : decode cc pc = .ok (.ldc2_w index, 3)) (k : tj X Γ μ (pc + 3) lv (.long v :: st)) : tj X Γ μ pc lv st := by
  obtain ⟨p, l, e, R, s, m, args, below, meth, c, kc, ks, Q, nL⟩ := Γ
  obtain ⟨hx, hb, hml, hown, hts, hK, hN, hR, hX, hroom, hlk⟩ := hO
  intro H locs la hP hS hl
  exact lv_ldc2 hx hb hown (hts _ hw) d (k H locs la hP hS hl)
theorem tr_iload_n {X : xT} {own : String} {cc : ByteArray} {F L : Nat} {Γ : gT} (hO : Ok X own cc F L Γ) (pc : Nat) {μ : mT} {lv : List (Nat × Value)} {st : List Value} {i : Fin 4} {x : Int32} (q : Nat) (hq : lv[q]? = some ((i : Nat), .int x)) (d : decode cc pc = .ok (.iload_n i, 1)) (k : tj X Γ μ (pc + 1) lv (.int x :: st)) : tj X Γ μ pc lv st := by
  obtain ⟨p, l, e, R, s, m, args, below, meth, c, kc, ks, Q, nL⟩ := Γ
  obtain ⟨hx, hb, hml, hown, hts, hK, hN, hR, hX, hroom, hlk⟩ := hO
  intro H locs la hP hS hl
  exact lv_iload_n hx hb d rfl (lv_at hl q hq) (k H locs la hP hS hl)
theorem tr_iload {X : xT} {own : String} {cc : ByteArray} {F L : Nat} {Γ : gT} (hO : Ok X own cc F L Γ) (pc : Nat) {μ : mT} {lv : List (Nat × Value)} {st : List Value} {i : Nat} {x : Int32} (q : Nat) (hq : lv[q]? = some (i, .int x)) (d : decode cc pc = .ok (.iload i, 2)) (k : tj X Γ μ (pc + 2) lv (.int x :: st)) : tj X Γ μ pc lv st := by
  obtain ⟨p, l, e, R, s, m, args, below, meth, c, kc, ks, Q, nL⟩ := Γ
  obtain ⟨hx, hb, hml, hown, hts, hK, hN, hR, hX, hroom, hlk⟩ := hO
  intro H locs la hP hS hl
  exact lv_iload hx hb d (lv_at hl q hq) (k H locs la hP hS hl)
theorem tr_lload_n {X : xT} {own : String} {cc : ByteArray} {F L : Nat} {Γ : gT} (hO : Ok X own cc F L Γ) (pc : Nat) {μ : mT} {lv : List (Nat × Value)} {st : List Value} {i : Fin 4} {x : Int64} (q : Nat) (hq : lv[q]? = some ((i : Nat), .long x)) (d : decode cc pc = .ok (.lload_n i, 1)) (k : tj X Γ μ (pc + 1) lv (.long x :: st)) : tj X Γ μ pc lv st := by
  obtain ⟨p, l, e, R, s, m, args, below, meth, c, kc, ks, Q, nL⟩ := Γ
  obtain ⟨hx, hb, hml, hown, hts, hK, hN, hR, hX, hroom, hlk⟩ := hO
  intro H locs la hP hS hl
  exact lv_lload_n hx hb d rfl (lv_at hl q hq) (k H locs la hP hS hl)
theorem tr_lload {X : xT} {own : String} {cc : ByteArray} {F L : Nat} {Γ : gT} (hO : Ok X own cc F L Γ) (pc : Nat) {μ : mT} {lv : List (Nat × Value)} {st : List Value} {i : Nat} {x : Int64} (q : Nat) (hq : lv[q]? = some (i, .long x)) (d : decode cc pc = .ok (.lload i, 2)) (k : tj X Γ μ (pc + 2) lv (.long x :: st)) : tj X Γ μ pc lv st := by
  obtain ⟨p, l, e, R, s, m, args, below, meth, c, kc, ks, Q, nL⟩ := Γ
  obtain ⟨hx, hb, hml, hown, hts, hK, hN, hR, hX, hroom, hlk⟩ := hO
  intro H locs la hP hS hl
  exact lv_lload hx hb d (lv_at hl q hq) (k H locs la hP hS hl)
theorem tr_aload_n {X : xT} {own : String} {cc : ByteArray} {F L : Nat} {Γ : gT} (hO : Ok X own cc F L Γ) (pc : Nat) {μ : mT} {lv : List (Nat × Value)} {st : List Value} {i : Fin 4} {x : Nat} (q : Nat) (hq : lv[q]? = some ((i : Nat), .ref x)) (d : decode cc pc = .ok (.aload_n i, 1)) (k : tj X Γ μ (pc + 1) lv (.ref x :: st)) : tj X Γ μ pc lv st := by
  obtain ⟨p, l, e, R, s, m, args, below, meth, c, kc, ks, Q, nL⟩ := Γ
  obtain ⟨hx, hb, hml, hown, hts, hK, hN, hR, hX, hroom, hlk⟩ := hO
  intro H locs la hP hS hl
  exact lv_aload_n hx hb d rfl (lv_at hl q hq) (k H locs la hP hS hl)
theorem tr_aload {X : xT} {own : String} {cc : ByteArray} {F L : Nat} {Γ : gT} (hO : Ok X own cc F L Γ) (pc : Nat) {μ : mT} {lv : List (Nat × Value)} {st : List Value} {i : Nat} {x : Nat} (q : Nat) (hq : lv[q]? = some (i, .ref x)) (d : decode cc pc = .ok (.aload i, 2)) (k : tj X Γ μ (pc + 2) lv (.ref x :: st)) : tj X Γ μ pc lv st := by
  obtain ⟨p, l, e, R, s, m, args, below, meth, c, kc, ks, Q, nL⟩ := Γ
  obtain ⟨hx, hb, hml, hown, hts, hK, hN, hR, hX, hroom, hlk⟩ := hO
  intro H locs la hP hS hl
  exact lv_aload hx hb d (lv_at hl q hq) (k H locs la hP hS hl)
theorem tr_istore_n {X : xT} {own : String} {cc : ByteArray} {F L : Nat} {Γ : gT} (hO : Ok X own cc F L Γ) (pc : Nat) {μ : mT} {lv : List (Nat × Value)} {st : List Value} {i : Nat} {k4 : Fin 4} {x v : Int32} {n : Nat} {lv' : List (Nat × Value)} (ev : v = x) (hn : gL Γ = n) (hi : (k4 : Nat) = i) (h4 : i < n) (hlv : (i, Value.int v) :: lv.filter (fun q => !(q.1 == i) && !(q.1 + 1 == i && q.2.category == 2)) = lv') (d : decode cc pc = .ok (.istore_n k4, 1)) (k : tj X Γ μ (pc + 1) lv' st) : tj X Γ μ pc lv (.int x :: st) := by
  obtain ⟨p, l, e, R, s, m, args, below, meth, c, kc, ks, Q, nL⟩ := Γ
  obtain ⟨hx, hb, hml, hown, hts, hK, hN, hR, hX, hroom, hlk⟩ := hO
  intro H locs la hP hS hl
  subst hn
  subst ev
  exact lv_istore_n hx hb d hi hl h4 hlv (fun la hl => k H locs la hP hS hl)
theorem tr_istore {X : xT} {own : String} {cc : ByteArray} {F L : Nat} {Γ : gT} (hO : Ok X own cc F L Γ) (pc : Nat) {μ : mT} {lv : List (Nat × Value)} {st : List Value} {i : Nat} {x v : Int32} {n : Nat} {lv' : List (Nat × Value)} (ev : v = x) (hn : gL Γ = n) (h4 : i < n) (hlv : (i, Value.int v) :: lv.filter (fun q => !(q.1 == i) && !(q.1 + 1 == i && q.2.category == 2)) = lv') (d : decode cc pc = .ok (.istore i, 2)) (k : tj X Γ μ (pc + 2) lv' st) : tj X Γ μ pc lv (.int x :: st) := by
  obtain ⟨p, l, e, R, s, m, args, below, meth, c, kc, ks, Q, nL⟩ := Γ
  obtain ⟨hx, hb, hml, hown, hts, hK, hN, hR, hX, hroom, hlk⟩ := hO
  intro H locs la hP hS hl
  subst hn
  subst ev
  exact lv_istore hx hb d hl h4 hlv (fun la hl => k H locs la hP hS hl)
theorem tr_lstore_n {X : xT} {own : String} {cc : ByteArray} {F L : Nat} {Γ : gT} (hO : Ok X own cc F L Γ) (pc : Nat) {μ : mT} {lv : List (Nat × Value)} {st : List Value} {i : Nat} {k4 : Fin 4} {x v : Int64} {n : Nat} {lv' : List (Nat × Value)} (ev : v = x) (hn : gL Γ = n) (hi : (k4 : Nat) = i) (h4 : i + 1 < n) (hlv : (i, Value.long v) :: lv.filter (fun q => !(q.1 == i) && (!(q.1 == i + 1) && !(q.1 + 1 == i && q.2.category == 2))) = lv') (d : decode cc pc = .ok (.lstore_n k4, 1)) (k : tj X Γ μ (pc + 1) lv' st) : tj X Γ μ pc lv (.long x :: st) := by
  obtain ⟨p, l, e, R, s, m, args, below, meth, c, kc, ks, Q, nL⟩ := Γ
  obtain ⟨hx, hb, hml, hown, hts, hK, hN, hR, hX, hroom, hlk⟩ := hO
  intro H locs la hP hS hl
  subst hn
  subst ev
  exact lv_lstore_n hx hb d hi hl h4 hlv (fun la hl => k H locs la hP hS hl)
theorem tr_lstore {X : xT} {own : String} {cc : ByteArray} {F L : Nat} {Γ : gT} (hO : Ok X own cc F L Γ) (pc : Nat) {μ : mT} {lv : List (Nat × Value)} {st : List Value} {i : Nat} {x v : Int64} {n : Nat} {lv' : List (Nat × Value)} (ev : v = x) (hn : gL Γ = n) (h4 : i + 1 < n) (hlv : (i, Value.long v) :: lv.filter (fun q => !(q.1 == i) && (!(q.1 == i + 1) && !(q.1 + 1 == i && q.2.category == 2))) = lv') (d : decode cc pc = .ok (.lstore i, 2)) (k : tj X Γ μ (pc + 2) lv' st) : tj X Γ μ pc lv (.long x :: st) := by
  obtain ⟨p, l, e, R, s, m, args, below, meth, c, kc, ks, Q, nL⟩ := Γ
  obtain ⟨hx, hb, hml, hown, hts, hK, hN, hR, hX, hroom, hlk⟩ := hO
  intro H locs la hP hS hl
  subst hn
  subst ev
  exact lv_lstore hx hb d hl h4 hlv (fun la hl => k H locs la hP hS hl)
theorem tr_astore_n {X : xT} {own : String} {cc : ByteArray} {F L : Nat} {Γ : gT} (hO : Ok X own cc F L Γ) (pc : Nat) {μ : mT} {lv : List (Nat × Value)} {st : List Value} {i : Nat} {k4 : Fin 4} {x v : Nat} {n : Nat} {lv' : List (Nat × Value)} (ev : v = x) (hn : gL Γ = n) (hi : (k4 : Nat) = i) (h4 : i < n) (hlv : (i, Value.ref v) :: lv.filter (fun q => !(q.1 == i) && !(q.1 + 1 == i && q.2.category == 2)) = lv') (d : decode cc pc = .ok (.astore_n k4, 1)) (k : tj X Γ μ (pc + 1) lv' st) : tj X Γ μ pc lv (.ref x :: st) := by
  obtain ⟨p, l, e, R, s, m, args, below, meth, c, kc, ks, Q, nL⟩ := Γ
  obtain ⟨hx, hb, hml, hown, hts, hK, hN, hR, hX, hroom, hlk⟩ := hO
  intro H locs la hP hS hl
  subst hn
  subst ev
  exact lv_astore_n hx hb d hi hl h4 hlv (fun la hl => k H locs la hP hS hl)
theorem tr_iinc {X : xT} {own : String} {cc : ByteArray} {F L : Nat} {Γ : gT} (hO : Ok X own cc F L Γ) (pc : Nat) {μ : mT} {lv : List (Nat × Value)} {st : List Value} {i q : Nat} {n : Int} {x v : Int32} {nl : Nat} {lv' : List (Nat × Value)} (hn : gL Γ = nl) (hq : lv[q]? = some (i, .int x)) (hv : x + Int32.ofInt n = v) (h4 : i < nl) (hlv : (i, Value.int v) :: lv.filter (fun q => !(q.1 == i) && !(q.1 + 1 == i && q.2.category == 2)) = lv') (d : decode cc pc = .ok (.iinc i n, 3)) (k : tj X Γ μ (pc + 3) lv' st) : tj X Γ μ pc lv st := by
  obtain ⟨p, l, e, R, s, m, args, below, meth, c, kc, ks, Q, nL⟩ := Γ
  obtain ⟨hx, hb, hml, hown, hts, hK, hN, hR, hX, hroom, hlk⟩ := hO
  intro H locs la hP hS hl
  subst hn
  exact lv_iinc hx hb d hl hq hv h4 hlv (fun la hl => k H locs la hP hS hl)
theorem tr_iadd {X : xT} {own : String} {cc : ByteArray} {F L : Nat} {Γ : gT} (hO : Ok X own cc F L Γ) (pc : Nat) {μ : mT} {lv : List (Nat × Value)} {st : List Value} {x y : Int32} (d : decode cc pc = .ok (.iadd, 1)) (k : tj X Γ μ (pc + 1) lv (.int (x + y) :: st)) : tj X Γ μ pc lv (.int y :: .int x :: st) := by
  obtain ⟨p, l, e, R, s, m, args, below, meth, c, kc, ks, Q, nL⟩ := Γ
  obtain ⟨hx, hb, hml, hown, hts, hK, hN, hR, hX, hroom, hlk⟩ := hO
  intro H locs la hP hS hl
  exact lv_iadd hx hb d (k H locs la hP hS hl)
theorem tr_isub {X : xT} {own : String} {cc : ByteArray} {F L : Nat} {Γ : gT} (hO : Ok X own cc F L Γ) (pc : Nat) {μ : mT} {lv : List (Nat × Value)} {st : List Value} {x y : Int32} (d : decode cc pc = .ok (.isub, 1)) (k : tj X Γ μ (pc + 1) lv (.int (x - y) :: st)) : tj X Γ μ pc lv (.int y :: .int x :: st) := by
  obtain ⟨p, l, e, R, s, m, args, below, meth, c, kc, ks, Q, nL⟩ := Γ
  obtain ⟨hx, hb, hml, hown, hts, hK, hN, hR, hX, hroom, hlk⟩ := hO
  intro H locs la hP hS hl
  exact lv_isub hx hb d (k H locs la hP hS hl)
theorem tr_imul {X : xT} {own : String} {cc : ByteArray} {F L : Nat} {Γ : gT} (hO : Ok X own cc F L Γ) (pc : Nat) {μ : mT} {lv : List (Nat × Value)} {st : List Value} {x y : Int32} (d : decode cc pc = .ok (.imul, 1)) (k : tj X Γ μ (pc + 1) lv (.int (x * y) :: st)) : tj X Γ μ pc lv (.int y :: .int x :: st) := by
  obtain ⟨p, l, e, R, s, m, args, below, meth, c, kc, ks, Q, nL⟩ := Γ
  obtain ⟨hx, hb, hml, hown, hts, hK, hN, hR, hX, hroom, hlk⟩ := hO
  intro H locs la hP hS hl
  exact lv_imul hx hb d (k H locs la hP hS hl)
theorem tr_iand {X : xT} {own : String} {cc : ByteArray} {F L : Nat} {Γ : gT} (hO : Ok X own cc F L Γ) (pc : Nat) {μ : mT} {lv : List (Nat × Value)} {st : List Value} {x y : Int32} (d : decode cc pc = .ok (.iand, 1)) (k : tj X Γ μ (pc + 1) lv (.int (x &&& y) :: st)) : tj X Γ μ pc lv (.int y :: .int x :: st) := by
  obtain ⟨p, l, e, R, s, m, args, below, meth, c, kc, ks, Q, nL⟩ := Γ
  obtain ⟨hx, hb, hml, hown, hts, hK, hN, hR, hX, hroom, hlk⟩ := hO
  intro H locs la hP hS hl
  exact lv_iand hx hb d (k H locs la hP hS hl)
theorem tr_ior {X : xT} {own : String} {cc : ByteArray} {F L : Nat} {Γ : gT} (hO : Ok X own cc F L Γ) (pc : Nat) {μ : mT} {lv : List (Nat × Value)} {st : List Value} {x y : Int32} (d : decode cc pc = .ok (.ior, 1)) (k : tj X Γ μ (pc + 1) lv (.int (x ||| y) :: st)) : tj X Γ μ pc lv (.int y :: .int x :: st) := by
  obtain ⟨p, l, e, R, s, m, args, below, meth, c, kc, ks, Q, nL⟩ := Γ
  obtain ⟨hx, hb, hml, hown, hts, hK, hN, hR, hX, hroom, hlk⟩ := hO
  intro H locs la hP hS hl
  exact lv_ior hx hb d (k H locs la hP hS hl)
theorem tr_ishl {X : xT} {own : String} {cc : ByteArray} {F L : Nat} {Γ : gT} (hO : Ok X own cc F L Γ) (pc : Nat) {μ : mT} {lv : List (Nat × Value)} {st : List Value} {x y : Int32} (d : decode cc pc = .ok (.ishl, 1)) (k : tj X Γ μ (pc + 1) lv (.int (x <<< (y &&& 31)) :: st)) : tj X Γ μ pc lv (.int y :: .int x :: st) := by
  obtain ⟨p, l, e, R, s, m, args, below, meth, c, kc, ks, Q, nL⟩ := Γ
  obtain ⟨hx, hb, hml, hown, hts, hK, hN, hR, hX, hroom, hlk⟩ := hO
  intro H locs la hP hS hl
  exact lv_ishl hx hb d (k H locs la hP hS hl)
theorem tr_ishr {X : xT} {own : String} {cc : ByteArray} {F L : Nat} {Γ : gT} (hO : Ok X own cc F L Γ) (pc : Nat) {μ : mT} {lv : List (Nat × Value)} {st : List Value} {x y : Int32} (d : decode cc pc = .ok (.ishr, 1)) (k : tj X Γ μ (pc + 1) lv (.int (x >>> (y &&& 31)) :: st)) : tj X Γ μ pc lv (.int y :: .int x :: st) := by
  obtain ⟨p, l, e, R, s, m, args, below, meth, c, kc, ks, Q, nL⟩ := Γ
  obtain ⟨hx, hb, hml, hown, hts, hK, hN, hR, hX, hroom, hlk⟩ := hO
  intro H locs la hP hS hl
  exact lv_ishr hx hb d (k H locs la hP hS hl)
theorem tr_idiv {X : xT} {own : String} {cc : ByteArray} {F L : Nat} {Γ : gT} (hO : Ok X own cc F L Γ) (pc : Nat) {μ : mT} {lv : List (Nat × Value)} {st : List Value} {x y : Int32} (hne : ¬ y = 0) (d : decode cc pc = .ok (.idiv, 1)) (k : tj X Γ μ (pc + 1) lv (.int (x / y) :: st)) : tj X Γ μ pc lv (.int y :: .int x :: st) := by
  obtain ⟨p, l, e, R, s, m, args, below, meth, c, kc, ks, Q, nL⟩ := Γ
  obtain ⟨hx, hb, hml, hown, hts, hK, hN, hR, hX, hroom, hlk⟩ := hO
  intro H locs la hP hS hl
  exact lv_idiv hx hb d hne (k H locs la hP hS hl)
theorem tr_lrem {X : xT} {own : String} {cc : ByteArray} {F L : Nat} {Γ : gT} (hO : Ok X own cc F L Γ) (pc : Nat) {μ : mT} {lv : List (Nat × Value)} {st : List Value} {x y : Int64} (hne : ¬ y = 0) (d : decode cc pc = .ok (.lrem, 1)) (k : tj X Γ μ (pc + 1) lv (.long (x - x / y * y) :: st)) : tj X Γ μ pc lv (.long y :: .long x :: st) := by
  obtain ⟨p, l, e, R, s, m, args, below, meth, c, kc, ks, Q, nL⟩ := Γ
  obtain ⟨hx, hb, hml, hown, hts, hK, hN, hR, hX, hroom, hlk⟩ := hO
  intro H locs la hP hS hl
  exact lv_lrem hx hb d hne (k H locs la hP hS hl)
theorem tr_ldiv {X : xT} {own : String} {cc : ByteArray} {F L : Nat} {Γ : gT} (hO : Ok X own cc F L Γ) (pc : Nat) {μ : mT} {lv : List (Nat × Value)} {st : List Value} {x y : Int64} (hne : ¬ y = 0) (d : decode cc pc = .ok (.ldiv, 1)) (k : tj X Γ μ (pc + 1) lv (.long (x / y) :: st)) : tj X Γ μ pc lv (.long y :: .long x :: st) := by
  obtain ⟨p, l, e, R, s, m, args, below, meth, c, kc, ks, Q, nL⟩ := Γ
  obtain ⟨hx, hb, hml, hown, hts, hK, hN, hR, hX, hroom, hlk⟩ := hO
  intro H locs la hP hS hl
  exact lv_ldiv hx hb d hne (k H locs la hP hS hl)
theorem tr_land {X : xT} {own : String} {cc : ByteArray} {F L : Nat} {Γ : gT} (hO : Ok X own cc F L Γ) (pc : Nat) {μ : mT} {lv : List (Nat × Value)} {st : List Value} {x y : Int64} (d : decode cc pc = .ok (.land, 1)) (k : tj X Γ μ (pc + 1) lv (.long (x &&& y) :: st)) : tj X Γ μ pc lv (.long y :: .long x :: st) := by
  obtain ⟨p, l, e, R, s, m, args, below, meth, c, kc, ks, Q, nL⟩ := Γ
  obtain ⟨hx, hb, hml, hown, hts, hK, hN, hR, hX, hroom, hlk⟩ := hO
  intro H locs la hP hS hl
  exact lv_land hx hb d (k H locs la hP hS hl)
theorem tr_lor {X : xT} {own : String} {cc : ByteArray} {F L : Nat} {Γ : gT} (hO : Ok X own cc F L Γ) (pc : Nat) {μ : mT} {lv : List (Nat × Value)} {st : List Value} {x y : Int64} (d : decode cc pc = .ok (.lor, 1)) (k : tj X Γ μ (pc + 1) lv (.long (x ||| y) :: st)) : tj X Γ μ pc lv (.long y :: .long x :: st) := by
  obtain ⟨p, l, e, R, s, m, args, below, meth, c, kc, ks, Q, nL⟩ := Γ
  obtain ⟨hx, hb, hml, hown, hts, hK, hN, hR, hX, hroom, hlk⟩ := hO
  intro H locs la hP hS hl
  exact lv_lor hx hb d (k H locs la hP hS hl)
def shlL (x : Int64) (y : Int32) : Int64 := x <<< (y.toInt64 &&& 63)
def shrL (x : Int64) (y : Int32) : Int64 := (x.toUInt64 >>> (y.toInt64.toUInt64 &&& Int64.toUInt64 63)).toInt64
def toC (x : Int32) : Int32 := (x.toUInt32 % 65536).toInt32
theorem tr_lshl {X : xT} {own : String} {cc : ByteArray} {F L : Nat} {Γ : gT} (hO : Ok X own cc F L Γ) (pc : Nat) {μ : mT} {lv : List (Nat × Value)} {st : List Value} {x : Int64} {y : Int32} (d : decode cc pc = .ok (.lshl, 1)) (k : tj X Γ μ (pc + 1) lv (.long (shlL x y) :: st)) : tj X Γ μ pc lv (.int y :: .long x :: st) := by
  obtain ⟨p, l, e, R, s, m, args, below, meth, c, kc, ks, Q, nL⟩ := Γ
  obtain ⟨hx, hb, hml, hown, hts, hK, hN, hR, hX, hroom, hlk⟩ := hO
  intro H locs la hP hS hl
  exact lv_lshl hx hb d rfl (k H locs la hP hS hl)
theorem tr_lushr {X : xT} {own : String} {cc : ByteArray} {F L : Nat} {Γ : gT} (hO : Ok X own cc F L Γ) (pc : Nat) {μ : mT} {lv : List (Nat × Value)} {st : List Value} {x : Int64} {y : Int32} (d : decode cc pc = .ok (.lushr, 1)) (k : tj X Γ μ (pc + 1) lv (.long (shrL x y) :: st)) : tj X Γ μ pc lv (.int y :: .long x :: st) := by
  obtain ⟨p, l, e, R, s, m, args, below, meth, c, kc, ks, Q, nL⟩ := Γ
  obtain ⟨hx, hb, hml, hown, hts, hK, hN, hR, hX, hroom, hlk⟩ := hO
  intro H locs la hP hS hl
  exact lv_lushr hx hb d rfl (k H locs la hP hS hl)
theorem tr_i2l {X : xT} {own : String} {cc : ByteArray} {F L : Nat} {Γ : gT} (hO : Ok X own cc F L Γ) (pc : Nat) {μ : mT} {lv : List (Nat × Value)} {st : List Value} {x : Int32} (d : decode cc pc = .ok (.i2l, 1)) (k : tj X Γ μ (pc + 1) lv (.long x.toInt64 :: st)) : tj X Γ μ pc lv (.int x :: st) := by
  obtain ⟨p, l, e, R, s, m, args, below, meth, c, kc, ks, Q, nL⟩ := Γ
  obtain ⟨hx, hb, hml, hown, hts, hK, hN, hR, hX, hroom, hlk⟩ := hO
  intro H locs la hP hS hl
  exact lv_i2l hx hb d rfl (k H locs la hP hS hl)
theorem tr_l2i {X : xT} {own : String} {cc : ByteArray} {F L : Nat} {Γ : gT} (hO : Ok X own cc F L Γ) (pc : Nat) {μ : mT} {lv : List (Nat × Value)} {st : List Value} {x : Int64} (d : decode cc pc = .ok (.l2i, 1)) (k : tj X Γ μ (pc + 1) lv (.int x.toInt32 :: st)) : tj X Γ μ pc lv (.long x :: st) := by
  obtain ⟨p, l, e, R, s, m, args, below, meth, c, kc, ks, Q, nL⟩ := Γ
  obtain ⟨hx, hb, hml, hown, hts, hK, hN, hR, hX, hroom, hlk⟩ := hO
  intro H locs la hP hS hl
  exact lv_l2i hx hb d rfl (k H locs la hP hS hl)
theorem tr_i2c {X : xT} {own : String} {cc : ByteArray} {F L : Nat} {Γ : gT} (hO : Ok X own cc F L Γ) (pc : Nat) {μ : mT} {lv : List (Nat × Value)} {st : List Value} {x : Int32} (d : decode cc pc = .ok (.i2c, 1)) (k : tj X Γ μ (pc + 1) lv (.int (toC x) :: st)) : tj X Γ μ pc lv (.int x :: st) := by
  obtain ⟨p, l, e, R, s, m, args, below, meth, c, kc, ks, Q, nL⟩ := Γ
  obtain ⟨hx, hb, hml, hown, hts, hK, hN, hR, hX, hroom, hlk⟩ := hO
  intro H locs la hP hS hl
  exact lv_i2c hx hb d rfl (k H locs la hP hS hl)
theorem tr_lcmp {X : xT} {own : String} {cc : ByteArray} {F L : Nat} {Γ : gT} (hO : Ok X own cc F L Γ) (pc : Nat) {μ : mT} {lv : List (Nat × Value)} {st : List Value} {x y : Int64} (d : decode cc pc = .ok (.lcmp, 1)) (k : tj X Γ μ (pc + 1) lv (.int (lg_cmp x y) :: st)) : tj X Γ μ pc lv (.long y :: .long x :: st) := by
  obtain ⟨p, l, e, R, s, m, args, below, meth, c, kc, ks, Q, nL⟩ := Γ
  obtain ⟨hx, hb, hml, hown, hts, hK, hN, hR, hX, hroom, hlk⟩ := hO
  intro H locs la hP hS hl
  exact W.lcmp hx hb d (k H locs la hP hS hl)
theorem tr_pop {X : xT} {own : String} {cc : ByteArray} {F L : Nat} {Γ : gT} (hO : Ok X own cc F L Γ) (pc : Nat) {μ : mT} {lv : List (Nat × Value)} {st : List Value} {v : Value} (hc : v.category = 1) (d : decode cc pc = .ok (.pop, 1)) (k : tj X Γ μ (pc + 1) lv st) : tj X Γ μ pc lv (v :: st) := by
  obtain ⟨p, l, e, R, s, m, args, below, meth, c, kc, ks, Q, nL⟩ := Γ
  obtain ⟨hx, hb, hml, hown, hts, hK, hN, hR, hX, hroom, hlk⟩ := hO
  intro H locs la hP hS hl
  exact lv_pop hx hb d hc (k H locs la hP hS hl)
theorem tr_dup {X : xT} {own : String} {cc : ByteArray} {F L : Nat} {Γ : gT} (hO : Ok X own cc F L Γ) (pc : Nat) {μ : mT} {lv : List (Nat × Value)} {st : List Value} {v : Value} (hc : v.category = 1) (d : decode cc pc = .ok (.dup, 1)) (k : tj X Γ μ (pc + 1) lv (v :: v :: st)) : tj X Γ μ pc lv (v :: st) := by
  obtain ⟨p, l, e, R, s, m, args, below, meth, c, kc, ks, Q, nL⟩ := Γ
  obtain ⟨hx, hb, hml, hown, hts, hK, hN, hR, hX, hroom, hlk⟩ := hO
  intro H locs la hP hS hl
  exact lv_dup hx hb d hc (k H locs la hP hS hl)
theorem tr_dup2 {X : xT} {own : String} {cc : ByteArray} {F L : Nat} {Γ : gT} (hO : Ok X own cc F L Γ) (pc : Nat) {μ : mT} {lv : List (Nat × Value)} {st : List Value} {v w : Value} (hc : v.category = 1) (hw : w.category = 1) (d : decode cc pc = .ok (.dup2, 1)) (k : tj X Γ μ (pc + 1) lv (v :: w :: v :: w :: st)) : tj X Γ μ pc lv (v :: w :: st) := by
  obtain ⟨p, l, e, R, s, m, args, below, meth, c, kc, ks, Q, nL⟩ := Γ
  obtain ⟨hx, hb, hml, hown, hts, hK, hN, hR, hX, hroom, hlk⟩ := hO
  intro H locs la hP hS hl
  exact lv_dup2_11 hx hb d hc hw (k H locs la hP hS hl)
theorem tr_goto {X : xT} {own : String} {cc : ByteArray} {F L : Nat} {Γ : gT} (hO : Ok X own cc F L Γ) (pc : Nat) {μ : mT} {lv : List (Nat × Value)} {st : List Value} {off : Int} (tgt : Nat) (ht : (pc : Int) + off = (tgt : Int)) (d : decode cc pc = .ok (.goto off, 3)) (k : tj X Γ μ tgt lv st) : tj X Γ μ pc lv st := by
  obtain ⟨p, l, e, R, s, m, args, below, meth, c, kc, ks, Q, nL⟩ := Γ
  obtain ⟨hx, hb, hml, hown, hts, hK, hN, hR, hX, hroom, hlk⟩ := hO
  intro H locs la hP hS hl
  exact lv_goto hx hb d ht (k H locs la hP hS hl)
theorem tr_if_eq {X : xT} {own : String} {cc : ByteArray} {F L : Nat} {Γ : gT} (hO : Ok X own cc F L Γ) (pc : Nat) {μ : mT} {lv : List (Nat × Value)} {st : List Value} {x : Int32} {off : Int} (tgt : Nat) (ht : (pc : Int) + off = (tgt : Int)) (d : decode cc pc = .ok (.ifCond .eq off, 3)) (kt : x = 0 → tj X Γ μ tgt lv st) (kf : ¬ (x = 0) → tj X Γ μ (pc + 3) lv st) : tj X Γ μ pc lv (.int x :: st) := by
  obtain ⟨p, l, e, R, s, m, args, below, meth, c, kc, ks, Q, nL⟩ := Γ
  obtain ⟨hx, hb, hml, hown, hts, hK, hN, hR, hX, hroom, hlk⟩ := hO
  intro H locs la hP hS hl
  exact lv_if_eq hx hb d ht (fun h => kt h H locs la hP hS hl) (fun h => kf h H locs la hP hS hl)
theorem tr_icmp_eq {X : xT} {own : String} {cc : ByteArray} {F L : Nat} {Γ : gT} (hO : Ok X own cc F L Γ) (pc : Nat) {μ : mT} {lv : List (Nat × Value)} {st : List Value} {x y : Int32} {off : Int} (tgt : Nat) (ht : (pc : Int) + off = (tgt : Int)) (d : decode cc pc = .ok (.if_icmp .eq off, 3)) (kt : x = y → tj X Γ μ tgt lv st) (kf : ¬ (x = y) → tj X Γ μ (pc + 3) lv st) : tj X Γ μ pc lv (.int y :: .int x :: st) := by
  obtain ⟨p, l, e, R, s, m, args, below, meth, c, kc, ks, Q, nL⟩ := Γ
  obtain ⟨hx, hb, hml, hown, hts, hK, hN, hR, hX, hroom, hlk⟩ := hO
  intro H locs la hP hS hl
  exact lv_icmp_eq hx hb d ht (fun h => kt h H locs la hP hS hl) (fun h => kf h H locs la hP hS hl)
theorem tr_if_ne {X : xT} {own : String} {cc : ByteArray} {F L : Nat} {Γ : gT} (hO : Ok X own cc F L Γ) (pc : Nat) {μ : mT} {lv : List (Nat × Value)} {st : List Value} {x : Int32} {off : Int} (tgt : Nat) (ht : (pc : Int) + off = (tgt : Int)) (d : decode cc pc = .ok (.ifCond .ne off, 3)) (kt : ¬ x = 0 → tj X Γ μ tgt lv st) (kf : x = 0 → tj X Γ μ (pc + 3) lv st) : tj X Γ μ pc lv (.int x :: st) := by
  obtain ⟨p, l, e, R, s, m, args, below, meth, c, kc, ks, Q, nL⟩ := Γ
  obtain ⟨hx, hb, hml, hown, hts, hK, hN, hR, hX, hroom, hlk⟩ := hO
  intro H locs la hP hS hl
  exact lv_if_ne hx hb d ht (fun h => kt h H locs la hP hS hl) (fun h => kf h H locs la hP hS hl)
theorem tr_icmp_ne {X : xT} {own : String} {cc : ByteArray} {F L : Nat} {Γ : gT} (hO : Ok X own cc F L Γ) (pc : Nat) {μ : mT} {lv : List (Nat × Value)} {st : List Value} {x y : Int32} {off : Int} (tgt : Nat) (ht : (pc : Int) + off = (tgt : Int)) (d : decode cc pc = .ok (.if_icmp .ne off, 3)) (kt : ¬ x = y → tj X Γ μ tgt lv st) (kf : x = y → tj X Γ μ (pc + 3) lv st) : tj X Γ μ pc lv (.int y :: .int x :: st) := by
  obtain ⟨p, l, e, R, s, m, args, below, meth, c, kc, ks, Q, nL⟩ := Γ
  obtain ⟨hx, hb, hml, hown, hts, hK, hN, hR, hX, hroom, hlk⟩ := hO
  intro H locs la hP hS hl
  exact lv_icmp_ne hx hb d ht (fun h => kt h H locs la hP hS hl) (fun h => kf h H locs la hP hS hl)
theorem tr_if_lt {X : xT} {own : String} {cc : ByteArray} {F L : Nat} {Γ : gT} (hO : Ok X own cc F L Γ) (pc : Nat) {μ : mT} {lv : List (Nat × Value)} {st : List Value} {x : Int32} {off : Int} (tgt : Nat) (ht : (pc : Int) + off = (tgt : Int)) (d : decode cc pc = .ok (.ifCond .lt off, 3)) (kt : x < 0 → tj X Γ μ tgt lv st) (kf : ¬ (x < 0) → tj X Γ μ (pc + 3) lv st) : tj X Γ μ pc lv (.int x :: st) := by
  obtain ⟨p, l, e, R, s, m, args, below, meth, c, kc, ks, Q, nL⟩ := Γ
  obtain ⟨hx, hb, hml, hown, hts, hK, hN, hR, hX, hroom, hlk⟩ := hO
  intro H locs la hP hS hl
  exact lv_if_lt hx hb d ht (fun h => kt h H locs la hP hS hl) (fun h => kf h H locs la hP hS hl)
theorem tr_icmp_lt {X : xT} {own : String} {cc : ByteArray} {F L : Nat} {Γ : gT} (hO : Ok X own cc F L Γ) (pc : Nat) {μ : mT} {lv : List (Nat × Value)} {st : List Value} {x y : Int32} {off : Int} (tgt : Nat) (ht : (pc : Int) + off = (tgt : Int)) (d : decode cc pc = .ok (.if_icmp .lt off, 3)) (kt : x < y → tj X Γ μ tgt lv st) (kf : ¬ (x < y) → tj X Γ μ (pc + 3) lv st) : tj X Γ μ pc lv (.int y :: .int x :: st) := by
  obtain ⟨p, l, e, R, s, m, args, below, meth, c, kc, ks, Q, nL⟩ := Γ
  obtain ⟨hx, hb, hml, hown, hts, hK, hN, hR, hX, hroom, hlk⟩ := hO
  intro H locs la hP hS hl
  exact lv_icmp_lt hx hb d ht (fun h => kt h H locs la hP hS hl) (fun h => kf h H locs la hP hS hl)
theorem tr_if_ge {X : xT} {own : String} {cc : ByteArray} {F L : Nat} {Γ : gT} (hO : Ok X own cc F L Γ) (pc : Nat) {μ : mT} {lv : List (Nat × Value)} {st : List Value} {x : Int32} {off : Int} (tgt : Nat) (ht : (pc : Int) + off = (tgt : Int)) (d : decode cc pc = .ok (.ifCond .ge off, 3)) (kt : 0 ≤ x → tj X Γ μ tgt lv st) (kf : ¬ (0 ≤ x) → tj X Γ μ (pc + 3) lv st) : tj X Γ μ pc lv (.int x :: st) := by
  obtain ⟨p, l, e, R, s, m, args, below, meth, c, kc, ks, Q, nL⟩ := Γ
  obtain ⟨hx, hb, hml, hown, hts, hK, hN, hR, hX, hroom, hlk⟩ := hO
  intro H locs la hP hS hl
  exact lv_if_ge hx hb d ht (fun h => kt h H locs la hP hS hl) (fun h => kf h H locs la hP hS hl)
theorem tr_icmp_ge {X : xT} {own : String} {cc : ByteArray} {F L : Nat} {Γ : gT} (hO : Ok X own cc F L Γ) (pc : Nat) {μ : mT} {lv : List (Nat × Value)} {st : List Value} {x y : Int32} {off : Int} (tgt : Nat) (ht : (pc : Int) + off = (tgt : Int)) (d : decode cc pc = .ok (.if_icmp .ge off, 3)) (kt : y ≤ x → tj X Γ μ tgt lv st) (kf : ¬ (y ≤ x) → tj X Γ μ (pc + 3) lv st) : tj X Γ μ pc lv (.int y :: .int x :: st) := by
  obtain ⟨p, l, e, R, s, m, args, below, meth, c, kc, ks, Q, nL⟩ := Γ
  obtain ⟨hx, hb, hml, hown, hts, hK, hN, hR, hX, hroom, hlk⟩ := hO
  intro H locs la hP hS hl
  exact lv_icmp_ge hx hb d ht (fun h => kt h H locs la hP hS hl) (fun h => kf h H locs la hP hS hl)
theorem tr_if_gt {X : xT} {own : String} {cc : ByteArray} {F L : Nat} {Γ : gT} (hO : Ok X own cc F L Γ) (pc : Nat) {μ : mT} {lv : List (Nat × Value)} {st : List Value} {x : Int32} {off : Int} (tgt : Nat) (ht : (pc : Int) + off = (tgt : Int)) (d : decode cc pc = .ok (.ifCond .gt off, 3)) (kt : 0 < x → tj X Γ μ tgt lv st) (kf : ¬ (0 < x) → tj X Γ μ (pc + 3) lv st) : tj X Γ μ pc lv (.int x :: st) := by
  obtain ⟨p, l, e, R, s, m, args, below, meth, c, kc, ks, Q, nL⟩ := Γ
  obtain ⟨hx, hb, hml, hown, hts, hK, hN, hR, hX, hroom, hlk⟩ := hO
  intro H locs la hP hS hl
  exact lv_if_gt hx hb d ht (fun h => kt h H locs la hP hS hl) (fun h => kf h H locs la hP hS hl)
theorem tr_icmp_gt {X : xT} {own : String} {cc : ByteArray} {F L : Nat} {Γ : gT} (hO : Ok X own cc F L Γ) (pc : Nat) {μ : mT} {lv : List (Nat × Value)} {st : List Value} {x y : Int32} {off : Int} (tgt : Nat) (ht : (pc : Int) + off = (tgt : Int)) (d : decode cc pc = .ok (.if_icmp .gt off, 3)) (kt : y < x → tj X Γ μ tgt lv st) (kf : ¬ (y < x) → tj X Γ μ (pc + 3) lv st) : tj X Γ μ pc lv (.int y :: .int x :: st) := by
  obtain ⟨p, l, e, R, s, m, args, below, meth, c, kc, ks, Q, nL⟩ := Γ
  obtain ⟨hx, hb, hml, hown, hts, hK, hN, hR, hX, hroom, hlk⟩ := hO
  intro H locs la hP hS hl
  exact lv_icmp_gt hx hb d ht (fun h => kt h H locs la hP hS hl) (fun h => kf h H locs la hP hS hl)
theorem tr_if_le {X : xT} {own : String} {cc : ByteArray} {F L : Nat} {Γ : gT} (hO : Ok X own cc F L Γ) (pc : Nat) {μ : mT} {lv : List (Nat × Value)} {st : List Value} {x : Int32} {off : Int} (tgt : Nat) (ht : (pc : Int) + off = (tgt : Int)) (d : decode cc pc = .ok (.ifCond .le off, 3)) (kt : x ≤ 0 → tj X Γ μ tgt lv st) (kf : ¬ (x ≤ 0) → tj X Γ μ (pc + 3) lv st) : tj X Γ μ pc lv (.int x :: st) := by
  obtain ⟨p, l, e, R, s, m, args, below, meth, c, kc, ks, Q, nL⟩ := Γ
  obtain ⟨hx, hb, hml, hown, hts, hK, hN, hR, hX, hroom, hlk⟩ := hO
  intro H locs la hP hS hl
  exact lv_if_le hx hb d ht (fun h => kt h H locs la hP hS hl) (fun h => kf h H locs la hP hS hl)
theorem tr_icmp_le {X : xT} {own : String} {cc : ByteArray} {F L : Nat} {Γ : gT} (hO : Ok X own cc F L Γ) (pc : Nat) {μ : mT} {lv : List (Nat × Value)} {st : List Value} {x y : Int32} {off : Int} (tgt : Nat) (ht : (pc : Int) + off = (tgt : Int)) (d : decode cc pc = .ok (.if_icmp .le off, 3)) (kt : x ≤ y → tj X Γ μ tgt lv st) (kf : ¬ (x ≤ y) → tj X Γ μ (pc + 3) lv st) : tj X Γ μ pc lv (.int y :: .int x :: st) := by
  obtain ⟨p, l, e, R, s, m, args, below, meth, c, kc, ks, Q, nL⟩ := Γ
  obtain ⟨hx, hb, hml, hown, hts, hK, hN, hR, hX, hroom, hlk⟩ := hO
  intro H locs la hP hS hl
  exact lv_icmp_le hx hb d ht (fun h => kt h H locs la hP hS hl) (fun h => kf h H locs la hP hS hl)
theorem tr_tabIn {X : xT} {own : String} {cc : ByteArray} {F L : Nat} {Γ : gT} (hO : Ok X own cc F L Γ) (pc : Nat) {μ : mT} {lv : List (Nat × Value)} {st : List Value} {dflt lo hi : Int} {offs : Array Int} {len : Nat} {x : Int32} {off : Int} (tgt : Nat) (h1 : ¬ x.toInt < lo) (h2 : ¬ hi < x.toInt) (ho : offs[(x.toInt - lo).toNat]? = some off) (ht : (pc : Int) + off = (tgt : Int)) (d : decode cc pc = .ok (.tableswitch dflt lo hi offs, len)) (k : tj X Γ μ tgt lv st) : tj X Γ μ pc lv (.int x :: st) := by
  obtain ⟨p, l, e, R, s, m, args, below, meth, c, kc, ks, Q, nL⟩ := Γ
  obtain ⟨hx, hb, hml, hown, hts, hK, hN, hR, hX, hroom, hlk⟩ := hO
  intro H locs la hP hS hl
  exact lv_tableIn hx hb d h1 h2 ho ht (k H locs la hP hS hl)
theorem tr_tabOut {X : xT} {own : String} {cc : ByteArray} {F L : Nat} {Γ : gT} (hO : Ok X own cc F L Γ) (pc : Nat) {μ : mT} {lv : List (Nat × Value)} {st : List Value} {dflt lo hi : Int} {offs : Array Int} {len : Nat} {x : Int32} (tgt : Nat) (h : x.toInt < lo ∨ hi < x.toInt) (ht : (pc : Int) + dflt = (tgt : Int)) (d : decode cc pc = .ok (.tableswitch dflt lo hi offs, len)) (k : tj X Γ μ tgt lv st) : tj X Γ μ pc lv (.int x :: st) := by
  obtain ⟨p, l, e, R, s, m, args, below, meth, c, kc, ks, Q, nL⟩ := Γ
  obtain ⟨hx, hb, hml, hown, hts, hK, hN, hR, hX, hroom, hlk⟩ := hO
  intro H locs la hP hS hl
  exact lv_tableOut hx hb d h ht (k H locs la hP hS hl)
theorem tr_get {X : xT} {own : String} {cc : ByteArray} {F L : Nat} {Γ : gT} (hO : Ok X own cc F L Γ) (pc : Nat) {μ : mT} {lv : List (Nat × Value)} {st : List Value} {κ j ci idx N k : Nat} {C : String} {Tb : u_T} {fs : List Value} {v : Value} (hv : x_v κ j) (hc : vwCl[ci]? = some (C, Tb, N)) (he : x_c X κ j (μ κ j) = .inr (ci, fs)) (hin : ∀ w ∈ u_ws C Tb N, w ∈ big) (hk : k < N) (hw : Cond.fieldLink own idx C (Tb k).2.1 (Tb k).2.2.1 ∈ big) (hs : (Tb k).1 = C) (hf : fs[k]? = some v) (d : decode cc pc = .ok (.getfield idx, 3)) (kk : tj X Γ μ (pc + 3) lv (v :: st)) : tj X Γ μ pc lv (.ref (X.1 κ j) :: st) := by
  obtain ⟨p, l, e, R, s, m, args, below, meth, c, kc, ks, Q, nL⟩ := Γ
  obtain ⟨hx, hb, hml, hown, hts, hK, hN, hR, hX, hroom, hlk⟩ := hO
  intro H locs la hP hS hl
  exact va_get (D := X.2.1) (ci := ci) (v := v) (C := C) (T := Tb) (N := N) hx hb hts hin hown hK hP (x_n κ j) (by rw [x_wg X μ hv, he]) hc k hk (hts _ hw) (fun x h => by rw [hs] at h; exact h) hf d (kk H locs la hP hS hl)
theorem tr_getN {X : xT} {own : String} {cc : ByteArray} {F L : Nat} {Γ : gT} (hO : Ok X own cc F L Γ) (pc : Nat) {μ : mT} {lv : List (Nat × Value)} {st : List Value} {κ j ci idx N k : Nat} {C : String} {Tb : u_T} {fs : List Value} {v : Value} {host : String} (hv : x_v κ j) (hc : vwCl[ci]? = some (C, Tb, N)) (he : x_c X κ j (μ κ j) = .inr (ci, fs)) (hin : ∀ w ∈ u_ws C Tb N, w ∈ big) (hk : k < N) (hw : (own, idx, C, (Tb k).2.1, (Tb k).2.2.1, host) ∈ nF) (hs : (Tb k).1 = C) (hf : fs[k]? = some v) (d : decode cc pc = .ok (.getfield idx, 3)) (kk : tj X Γ μ (pc + 3) lv (v :: st)) : tj X Γ μ pc lv (.ref (X.1 κ j) :: st) := by
  obtain ⟨p, l, e, R, s, m, args, below, meth, c, kc, ks, Q, nL⟩ := Γ
  obtain ⟨hx, hb, hml, hown, hts, hK, hN, hR, hX, hroom, hlk⟩ := hO
  intro H locs la hP hS hl
  exact va_getN (D := X.2.1) (ci := ci) (v := v) (C := C) (T := Tb) (N := N) hx hb hts hin hown hK hP (x_n κ j) (by rw [x_wg X μ hv, he]) hc k hk (va_Nw.use rfl (hN.1 _ hw)) (fun x h => by rw [hs] at h; exact h) hf d (kk H locs la hP hS hl)
theorem tr_put {X : xT} {own : String} {cc : ByteArray} {F L : Nat} {Γ : gT} (hO : Ok X own cc F L Γ) (pc : Nat) {μ : mT} {lv : List (Nat × Value)} {st : List Value} {κ j ci idx N k : Nat} {C : String} {Tb : u_T} {fs : List Value} {x : Int32} {ty : FieldType} {μ1 : mT} (e1 : μ1 = upM μ κ j k x) (hv : x_v κ j) (hc : vwCl[ci]? = some (C, Tb, N)) (he : x_c X κ j (μ κ j) = .inr (ci, fs)) (he2 : x_c X κ j (upd (μ κ j) k x) = .inr (ci, fs.set k (.int x))) (hin : ∀ w ∈ u_ws C Tb N, w ∈ big) (ty0 : Nat → FieldType) (hty : ∀ k, k < N → parseFieldDescriptor (Tb k).2.2.1 = some (ty0 k)) (hnm : ∀ a, a < N → ∀ b, b < N → a ≠ b → (Tb a).2.1 ≠ (Tb b).2.1) (hk : k < N) (hw : Cond.fieldLink own idx C (Tb k).2.1 (Tb k).2.2.1 ∈ big) (hs : (Tb k).1 = C) (hfin : (Tb k).2.2.2 = false) (hd : parseFieldDescriptor (Tb k).2.2.1 = some ty) (hn : narrow ty (.int x) = .int x) (hfit : fits ty (.int x) = true) (hlf : k < fs.length) (d : decode cc pc = .ok (.putfield idx, 3)) (kk : tj X Γ μ1 (pc + 3) lv st) : tj X Γ μ pc lv (.int x :: .ref (X.1 κ j) :: st) := by
  obtain ⟨p, l, e, R, s, m, args, below, meth, c, kc, ks, Q, nL⟩ := Γ
  obtain ⟨hx, hb, hml, hown, hts, hK, hN, hR, hX, hroom, hlk⟩ := hO
  intro H locs la hP hS hl
  subst e1
  refine va_put (D := X.2.1) (ci := ci) (v := .int x) (ty := ty) (C := C) (T := Tb) (N := N) hx hb hts hin ty0 hty hnm hown hK hP (x_D hX μ) hS (x_n κ j) (by rw [x_wg X μ hv, he]) hc k hk (hts _ hw) (fun x h => by rw [hs] at h; exact h) hfin hd hn hfit hlf d (fun H1 locs1 hP1 _ hS1 => ?_)
  rw [← he2, x_ws X μ hv] at hP1
  exact kk H1 locs1 la hP1 hS1 hl
theorem tr_iald {X : xT} {own : String} {cc : ByteArray} {F L : Nat} {Γ : gT} (hO : Ok X own cc F L Γ) (pc : Nat) {μ : mT} {lv : List (Nat × Value)} {st : List Value} {κ j n : Nat} {i : Int32} (hv : x_v κ j) (ha : x_ai κ 0 n) (hi : inb i n = true) (d : decode cc pc = .ok (.iaload, 1)) (k : tj X Γ μ (pc + 1) lv (.int (μ κ j i.toNatClampNeg) :: st)) : tj X Γ μ pc lv (.int i :: .ref (X.1 κ j) :: st) := by
  obtain ⟨p, l, e, R, s, m, args, below, meth, c, kc, ks, Q, nL⟩ := Γ
  obtain ⟨hx, hb, hml, hown, hts, hK, hN, hR, hX, hroom, hlk⟩ := hO
  intro H locs la hP hS hl
  exact va_iald hx hb hK hP (x_n κ j) 0 (by rw [x_wg X μ hv, ha]) rfl (inb_in hi) d (k H locs la hP hS hl)
theorem tr_zald {X : xT} {own : String} {cc : ByteArray} {F L : Nat} {Γ : gT} (hO : Ok X own cc F L Γ) (pc : Nat) {μ : mT} {lv : List (Nat × Value)} {st : List Value} {κ j n : Nat} {i : Int32} (hv : x_v κ j) (ha : x_ai κ 1 n) (hi : inb i n = true) (d : decode cc pc = .ok (.baload, 1)) (k : tj X Γ μ (pc + 1) lv (.int (μ κ j i.toNatClampNeg) :: st)) : tj X Γ μ pc lv (.int i :: .ref (X.1 κ j) :: st) := by
  obtain ⟨p, l, e, R, s, m, args, below, meth, c, kc, ks, Q, nL⟩ := Γ
  obtain ⟨hx, hb, hml, hown, hts, hK, hN, hR, hX, hroom, hlk⟩ := hO
  intro H locs la hP hS hl
  exact va_zald hx hb hK hP (x_n κ j) 1 (by rw [x_wg X μ hv, ha]) rfl (inb_in hi) d (k H locs la hP hS hl)
theorem tr_cald {X : xT} {own : String} {cc : ByteArray} {F L : Nat} {Γ : gT} (hO : Ok X own cc F L Γ) (pc : Nat) {μ : mT} {lv : List (Nat × Value)} {st : List Value} {κ j n : Nat} {i : Int32} (hv : x_v κ j) (ha : x_ai κ 2 n) (hi : inb i n = true) (d : decode cc pc = .ok (.caload, 1)) (k : tj X Γ μ (pc + 1) lv (.int (μ κ j i.toNatClampNeg) :: st)) : tj X Γ μ pc lv (.int i :: .ref (X.1 κ j) :: st) := by
  obtain ⟨p, l, e, R, s, m, args, below, meth, c, kc, ks, Q, nL⟩ := Γ
  obtain ⟨hx, hb, hml, hown, hts, hK, hN, hR, hX, hroom, hlk⟩ := hO
  intro H locs la hP hS hl
  exact va_cald hx hb hK hP (x_n κ j) 2 (by rw [x_wg X μ hv, ha]) rfl (inb_in hi) d (k H locs la hP hS hl)
theorem tr_iast {X : xT} {own : String} {cc : ByteArray} {F L : Nat} {Γ : gT} (hO : Ok X own cc F L Γ) (pc : Nat) {μ : mT} {lv : List (Nat × Value)} {st : List Value} {κ j n : Nat} {i x : Int32} {μ1 : mT} (e1 : μ1 = upM μ κ j i.toNatClampNeg x) (hv : x_v κ j) (ha : x_ai κ 0 n) (hi : inb i n = true) (d : decode cc pc = .ok (.iastore, 1)) (k : tj X Γ μ1 (pc + 1) lv st) : tj X Γ μ pc lv (.int x :: .int i :: .ref (X.1 κ j) :: st) := by
  obtain ⟨p, l, e, R, s, m, args, below, meth, c, kc, ks, Q, nL⟩ := Γ
  obtain ⟨hx, hb, hml, hown, hts, hK, hN, hR, hX, hroom, hlk⟩ := hO
  intro H locs la hP hS hl
  subst e1
  refine va_iast hx hb hK hP (x_D hX μ) hS (x_n κ j) 0 (by rw [x_wg X μ hv, ha]) rfl (inb_in hi) d (fun H1 locs1 hP1 _ hS1 => ?_)
  rw [← ha X j, x_ws X μ hv] at hP1
  exact k H1 locs1 la hP1 hS1 hl
theorem tr_zast {X : xT} {own : String} {cc : ByteArray} {F L : Nat} {Γ : gT} (hO : Ok X own cc F L Γ) (pc : Nat) {μ : mT} {lv : List (Nat × Value)} {st : List Value} {κ j n : Nat} {i x : Int32} {μ1 : mT} (e1 : μ1 = upM μ κ j i.toNatClampNeg x) (hnar : vp_nar .boolean x = x) (hv : x_v κ j) (ha : x_ai κ 1 n) (hi : inb i n = true) (d : decode cc pc = .ok (.bastore, 1)) (k : tj X Γ μ1 (pc + 1) lv st) : tj X Γ μ pc lv (.int x :: .int i :: .ref (X.1 κ j) :: st) := by
  obtain ⟨p, l, e, R, s, m, args, below, meth, c, kc, ks, Q, nL⟩ := Γ
  obtain ⟨hx, hb, hml, hown, hts, hK, hN, hR, hX, hroom, hlk⟩ := hO
  intro H locs la hP hS hl
  subst e1
  refine va_zast hx hb hK hP (x_D hX μ) hS (x_n κ j) 1 (by rw [x_wg X μ hv, ha]) rfl (inb_in hi) d (fun H1 locs1 hP1 _ hS1 => ?_)
  rw [hnar, ← ha X j, x_ws X μ hv] at hP1
  exact k H1 locs1 la hP1 hS1 hl
theorem tr_cast {X : xT} {own : String} {cc : ByteArray} {F L : Nat} {Γ : gT} (hO : Ok X own cc F L Γ) (pc : Nat) {μ : mT} {lv : List (Nat × Value)} {st : List Value} {κ j n : Nat} {i x : Int32} {μ1 : mT} (e1 : μ1 = upM μ κ j i.toNatClampNeg x) (hnar : vp_nar .char x = x) (hv : x_v κ j) (ha : x_ai κ 2 n) (hi : inb i n = true) (d : decode cc pc = .ok (.castore, 1)) (k : tj X Γ μ1 (pc + 1) lv st) : tj X Γ μ pc lv (.int x :: .int i :: .ref (X.1 κ j) :: st) := by
  obtain ⟨p, l, e, R, s, m, args, below, meth, c, kc, ks, Q, nL⟩ := Γ
  obtain ⟨hx, hb, hml, hown, hts, hK, hN, hR, hX, hroom, hlk⟩ := hO
  intro H locs la hP hS hl
  subst e1
  refine va_cast hx hb hK hP (x_D hX μ) hS (x_n κ j) 2 (by rw [x_wg X μ hv, ha]) rfl (inb_in hi) d (fun H1 locs1 hP1 _ hS1 => ?_)
  rw [hnar, ← ha X j, x_ws X μ hv] at hP1
  exact k H1 locs1 la hP1 hS1 hl
theorem tr_aald {X : xT} {own : String} {cc : ByteArray} {F L : Nat} {Γ : gT} (hO : Ok X own cc F L Γ) (pc : Nat) {μ : mT} {lv : List (Nat × Value)} {st : List Value} {κ j n j' : Nat} {i : Int32} (ej : j' = (μ κ j i.toNatClampNeg).toNatClampNeg) (hv : x_v κ j) (ha : x_aq κ n) (hi : inb i n = true) (d : decode cc pc = .ok (.aaload, 1)) (k : tj X Γ μ (pc + 1) lv (.ref (X.1 0 j') :: st)) : tj X Γ μ pc lv (.int i :: .ref (X.1 κ j) :: st) := by
  obtain ⟨p, l, e, R, s, m, args, below, meth, c, kc, ks, Q, nL⟩ := Γ
  obtain ⟨hx, hb, hml, hown, hts, hK, hN, hR, hX, hroom, hlk⟩ := hO
  intro H locs la hP hS hl
  subst ej
  exact va_aldq (f := fun k => some (X.1 0 (μ κ j k).toNatClampNeg)) hx hb hK hP (x_n κ j) 3 (by rw [x_wg X μ hv, ha]) rfl (inb_in hi) d (k H locs la hP hS hl)
theorem tr_aast {X : xT} {own : String} {cc : ByteArray} {F L : Nat} {Γ : gT} (hO : Ok X own cc F L Γ) (pc : Nat) {μ : mT} {lv : List (Nat × Value)} {st : List Value} {κ j n j' : Nat} {i : Int32} {μ1 : mT} (e1 : μ1 = upM μ κ j i.toNatClampNeg (nI j')) (hj : j' < 11) (hv : x_v κ j) (ha : x_aq κ n) (hi : inb i n = true) (d : decode cc pc = .ok (.aastore, 1)) (k : tj X Γ μ1 (pc + 1) lv st) : tj X Γ μ pc lv (.ref (X.1 0 j') :: .int i :: .ref (X.1 κ j) :: st) := by
  obtain ⟨p, l, e, R, s, m, args, below, meth, c, kc, ks, Q, nL⟩ := Γ
  obtain ⟨hx, hb, hml, hown, hts, hK, hN, hR, hX, hroom, hlk⟩ := hO
  intro H locs la hP hS hl
  subst e1
  refine va_astq (r := (RX6, TX6, 14)) hx hb hK hP (x_D hX μ) hS (x_n κ j) 3 (x_n 0 j') 6 (by rw [x_wg X μ hv, ha]) rfl (x_wg X μ (x_vy (by decide) hj)) rfl (inb_in hi) d (fun H1 locs1 hP1 _ hS1 => ?_)
  have e : va_up (fun k => some (X.1 0 (μ κ j k).toNatClampNeg)) i.toNatClampNeg (some (X.1 0 j')) = fun k => some (X.1 0 (upd (μ κ j) i.toNatClampNeg (nI j') k).toNatClampNeg) := by
    funext q
    unfold va_up upd
    by_cases hq : q = i.toNatClampNeg
    · rw [if_pos hq, if_pos hq, nI_clamp (by omega)]
    · rw [if_neg hq, if_neg hq]
  rw [e, ← ha X j, x_ws X μ hv] at hP1
  exact k H1 locs1 la hP1 hS1 hl
theorem tr_sald {X : xT} {own : String} {cc : ByteArray} {F L : Nat} {Γ : gT} (hO : Ok X own cc F L Γ) (pc : Nat) {μ : mT} {lv : List (Nat × Value)} {st : List Value} {κ : Nat} {i : Int32} (hκ : κ = 40 ∨ κ = 41) (hi : inb i 6 = true) (d : decode cc pc = .ok (.iaload, 1)) (k : tj X Γ μ (pc + 1) lv (.int (cst κ i.toNatClampNeg) :: st)) : tj X Γ μ pc lv (.int i :: .ref (X.1 κ 0) :: st) := by
  obtain ⟨p, l, e, R, s, m, args, below, meth, c, kc, ks, Q, nL⟩ := Γ
  obtain ⟨hx, hb, hml, hown, hts, hK, hN, hR, hX, hroom, hlk⟩ := hO
  intro H locs la hP hS hl
  exact va_ti hx hb (hR.2.2 κ hκ) hS (inb_in hi) rfl d (k H locs la hP hS hl)
theorem tr_gets {X : xT} {own : String} {cc : ByteArray} {F L : Nat} {Γ : gT} (hO : Ok X own cc F L Γ) (pc : Nat) {μ : mT} {lv : List (Nat × Value)} {st : List Value} {κ idx : Nat} {n : String} {host : String} (hκ : (κ = 40 ∧ n = "LEAST_VALUES") ∨ (κ = 41 ∧ n = "MOST_VALUES")) (hw : (own, idx, RX7, n, "[I", host) ∈ nF) (d : decode cc pc = .ok (.getstatic idx, 3)) (k : tj X Γ μ (pc + 3) lv (.ref (X.1 κ 0) :: st)) : tj X Γ μ pc lv st := by
  obtain ⟨p, l, e, R, s, m, args, below, meth, c, kc, ks, Q, nL⟩ := Γ
  obtain ⟨hx, hb, hml, hown, hts, hK, hN, hR, hX, hroom, hlk⟩ := hO
  intro H locs la hP hS hl
  rcases hκ with ⟨rfl, rfl⟩ | ⟨rfl, rfl⟩
  · exact va_getsN hx hb hR.1 hS hown (va_Nw.use rfl (hN.1 _ hw)) (fun x h => h) d (k H locs la hP hS hl)
  · exact va_getsN hx hb hR.2.1 hS hown (va_Nw.use rfl (hN.1 _ hw)) (fun x h => h) d (k H locs la hP hS hl)
theorem tr_min {X : xT} {own : String} {cc : ByteArray} {F L : Nat} {Γ : gT} (hO : Ok X own cc F L Γ) (pc : Nat) {μ : mT} {lv : List (Nat × Value)} {st : List Value} {x y : Int32} {idx : Nat} (hw : Cond.methodLink own idx Lib.Math.min.name ∈ big) (hs : (st.map fun v => v.category).sum ≤ 8) (hF : 1 ≤ F) (hL : 21 ≤ L) (d : decode cc pc = .ok (.invokestatic idx, 3)) (k : tj X Γ μ (pc + 3) lv (.int (if y < x then y else x) :: st)) : tj X Γ μ pc lv (.int y :: .int x :: st) := by
  obtain ⟨p, l, e, R, s, m, args, below, meth, c, kc, ks, Q, nL⟩ := Γ
  obtain ⟨hx, hb, hml, hown, hts, hK, hN, hR, hX, hroom, hlk⟩ := hO
  intro H locs la hP hS hl
  exact va_mmin hx hb (by rw [hml]; exact hl.1.symm) hown (hts _ hw) (hts _ wT_min) (hts _ wN_Math) (hts _ wC_min) (Nat.le_trans hF hroom.1) (by have := hroom.2.1; omega) hroom.2.2.1 hroom.2.2.2 d (k H locs la hP hS hl)
theorem tr_max {X : xT} {own : String} {cc : ByteArray} {F L : Nat} {Γ : gT} (hO : Ok X own cc F L Γ) (pc : Nat) {μ : mT} {lv : List (Nat × Value)} {st : List Value} {x y : Int32} {idx : Nat} (hw : Cond.methodLink own idx Lib.Math.max.name ∈ big) (hs : (st.map fun v => v.category).sum ≤ 8) (hF : 1 ≤ F) (hL : 21 ≤ L) (d : decode cc pc = .ok (.invokestatic idx, 3)) (k : tj X Γ μ (pc + 3) lv (.int (if x < y then y else x) :: st)) : tj X Γ μ pc lv (.int y :: .int x :: st) := by
  obtain ⟨p, l, e, R, s, m, args, below, meth, c, kc, ks, Q, nL⟩ := Γ
  obtain ⟨hx, hb, hml, hown, hts, hK, hN, hR, hX, hroom, hlk⟩ := hO
  intro H locs la hP hS hl
  exact va_mmax hx hb (by rw [hml]; exact hl.1.symm) hown (hts _ hw) (hts _ wT_max) (hts _ wN_Math) (hts _ wC_max) (Nat.le_trans hF hroom.1) (by have := hroom.2.1; omega) hroom.2.2.1 hroom.2.2.2 d (k H locs la hP hS hl)
theorem tr_copyi {X : xT} {own : String} {cc : ByteArray} {F L : Nat} {Γ : gT} (hO : Ok X own cc F L Γ) (pc : Nat) {μ : mT} {lv : List (Nat × Value)} {st : List Value} {κ j κ0 j0 n n0 idx : Nat} {sp dp m : Int32} {μ1 : mT} (e1 : μ1 = upR μ κ j (va_cpy (μ κ0 j0) (μ κ j) sp.toNatClampNeg dp.toNatClampNeg m.toNatClampNeg)) (hw : Cond.methodLink own idx arraycopyName ∈ big) (hv : x_v κ j) (hv0 : x_v κ0 j0) (ha : x_ai κ 0 n) (ha0 : x_ai κ0 0 n0) (h1 : ¬ sp < 0) (h2 : ¬ dp < 0) (h3 : ¬ m < 0) (h4 : sp.toNatClampNeg + m.toNatClampNeg ≤ n0) (h5 : dp.toNatClampNeg + m.toNatClampNeg ≤ n) (hs : (st.map fun v => v.category).sum ≤ 8) (hF : 1 ≤ F) (hL : 8 + (nativeFrameWords "java/lang/System" "arraycopy" 5 + 11) ≤ L) (d : decode cc pc = .ok (.invokestatic idx, 3)) (k : tj X Γ μ1 (pc + 3) lv st) : tj X Γ μ pc lv (.int m :: .int dp :: .ref (X.1 κ j) :: .int sp :: .ref (X.1 κ0 j0) :: st) := by
  obtain ⟨p, l, e, R, s, m, args, below, meth, c, kc, ks, Q, nL⟩ := Γ
  obtain ⟨hx, hb, hml, hown, hts, hK, hN, hR, hX, hroom, hlk⟩ := hO
  intro H locs la hP hS hl
  subst e1
  refine va_copyi (ty := .int) hx hb (by rw [hml]; exact hl.1.symm) hown (hts _ hw) (hts _ wNat_copy) (hts _ wT_arraycopyName) (hts _ wN_System) hK hP (x_D hX μ) hS (x_n κ0 j0) (x_n κ j) 0 0 (by rw [x_wg X μ hv0, ha0]) (by rw [x_wg X μ hv, ha]) rfl rfl rfl h1 h2 h3 h4 h5 (fun i _ => rfl) (Nat.le_trans hF hroom.1) (by have := hroom.2.1; omega) d (fun H1 locs1 hP1 _ hS1 => ?_)
  rw [← ha X j, x_ws X μ hv] at hP1
  exact k H1 locs1 la hP1 hS1 hl
theorem big_V {own C : String} {idx nl : Nat} {y : MethodName} {bytes : ByteArray} {ret : Option FieldType} (h1 : Cond.methodLink own idx y ∈ big) (h2 : Cond.instanceMethod y ∈ big) (h3 : Cond.selects C y y ∈ big) (h4 : Cond.initialized C ∈ big) (h5 : Cond.code y bytes nl ret ∈ big) : GoodIn big (wsV own idx C y (.code y bytes nl ret :: big)) := by
  intro w hw
  have hb : w ∈ big := by
    simp only [wsV, List.cons_append, List.nil_append, List.mem_cons] at hw
    rcases hw with rfl | rfl | rfl | rfl | rfl | hw
    · exact h1
    · exact h2
    · exact h3
    · exact h4
    · exact h5
    · exact hw
  exact ⟨hb, good_of_word (big_good hb)⟩
theorem big_S {own : String} {idx nl : Nat} {y : MethodName} {bytes : ByteArray} {ret : Option FieldType} (h1 : Cond.methodLink own idx y ∈ big) (h2 : Cond.static y ∈ big) (h4 : Cond.initialized own ∈ big) (h5 : Cond.code y bytes nl ret ∈ big) : GoodIn big (wsS own idx y (.code y bytes nl ret :: big)) := by
  intro w hw
  have hb : w ∈ big := by
    simp only [wsS, List.cons_append, List.nil_append, List.mem_cons] at hw
    rcases hw with rfl | rfl | rfl | rfl | hw
    · exact h1
    · exact h2
    · exact h4
    · exact h5
    · exact hw
  exact ⟨hb, good_of_word (big_good hb)⟩
theorem tr_callI {X : xT} {own : String} {cc : ByteArray} {F L : Nat} {Γ : gT} (hO : Ok X own cc F L Γ) (pc : Nat) {μ : mT} {lv : List (Nat × Value)} {st : List Value} {μ' : mT} {κ j ci N f' n' idx nl na : Nat} {C : String} {Tb : u_T} {fs As stk : List Value} {y : MethodName} {bytes : ByteArray} {r : Int32} {rt : FieldType} (hM : CMi X y bytes nl rt f' n' (.ref (X.1 κ j) :: As) μ r μ') (hs : As.reverse ++ .ref (X.1 κ j) :: st = stk) (hv : x_v κ j) (hc : vwCl[ci]? = some (C, Tb, N)) (he : x_c X κ j (μ κ j) = .inr (ci, fs)) (h1 : Cond.methodLink own idx y ∈ big) (h2 : Cond.instanceMethod y ∈ big) (h3 : Cond.selects C y y ∈ big) (h4 : Cond.initialized C ∈ big) (h5 : Cond.code y bytes nl (some rt) ∈ big) (hd : y.cls = C ∧ y.cls ≠ "java/lang/invoke/MethodHandle" ∧ y.cls ≠ "java/lang/invoke/VarHandle" ∧ (parseMethodDescriptor y.desc).map (fun d => d.parameters.length) = some na) (hna : As.length = na) (hF : f' + 1 ≤ F) (hL : 8 + (nl + 11) + n' ≤ L) (hrs : (st.map fun v => v.category).sum ≤ 8) (d : decode cc pc = .ok (.invokevirtual idx, 3)) (k : tj X Γ μ' (pc + 3) lv (.int r :: st)) : tj X Γ μ pc lv stk := by
  obtain ⟨p, l, e, R, s, m, args, below, meth, c, kc, ks, Q, nL⟩ := Γ
  obtain ⟨hx, hb, hml, hown, hts, hK, hN, hR, hX, hroom, hlk⟩ := hO
  intro H locs la hP hS hl
  refine va_calli (post := fun z (_ : Unit) => z = r) (B := fun _ t => va_P X.2.1 vwCl (x_w X μ') t.heap) (va_runV (As := As) (rest := st) ⟨hx, hb, hml, hown, hts⟩ (hM l) (cwV na hts (big_V h1 h2 h3 h4 h5) rfl rfl rfl hd ⟨Nat.le_trans hF hroom.1, Nat.le_trans hL hroom.2.1⟩) ⟨fun a U g mk q => ⟨q.1, q.2.blind g mk a⟩, va_recv hK hP hc (by rw [x_wg X μ hv, he]), fun U hU hW => ⟨rfl, x_G.to hK hN hR hS hP hU hW⟩⟩ rfl hna hl.1 hs.symm (lv_room hrs) d ⟨hroom.2.2.1, hroom.2.2.2⟩) hS (fun q _ h => h) (fun q h => h) (fun z u t H1 locs1 ht hvm hw hB hz1 hk1 hS1 => ?_)
  subst hw
  rw [ht] at hB
  exact k H1 locs1 la hB hS1 hl
theorem tr_callV {X : xT} {own : String} {cc : ByteArray} {F L : Nat} {Γ : gT} (hO : Ok X own cc F L Γ) (pc : Nat) {μ : mT} {lv : List (Nat × Value)} {st : List Value} {μ' : mT} {κ j ci N f' n' idx nl na : Nat} {C : String} {Tb : u_T} {fs As stk : List Value} {y : MethodName} {bytes : ByteArray} (hM : CMv X y bytes nl f' n' (.ref (X.1 κ j) :: As) μ μ') (hs : As.reverse ++ .ref (X.1 κ j) :: st = stk) (hv : x_v κ j) (hc : vwCl[ci]? = some (C, Tb, N)) (he : x_c X κ j (μ κ j) = .inr (ci, fs)) (h1 : Cond.methodLink own idx y ∈ big) (h2 : Cond.instanceMethod y ∈ big) (h3 : Cond.selects C y y ∈ big) (h4 : Cond.initialized C ∈ big) (h5 : Cond.code y bytes nl none ∈ big) (hd : y.cls = C ∧ y.cls ≠ "java/lang/invoke/MethodHandle" ∧ y.cls ≠ "java/lang/invoke/VarHandle" ∧ (parseMethodDescriptor y.desc).map (fun d => d.parameters.length) = some na) (hna : As.length = na) (hF : f' + 1 ≤ F) (hL : 8 + (nl + 11) + n' ≤ L) (hrs : (st.map fun v => v.category).sum ≤ 8) (d : decode cc pc = .ok (.invokevirtual idx, 3)) (k : tj X Γ μ' (pc + 3) lv st) : tj X Γ μ pc lv stk := by
  obtain ⟨p, l, e, R, s, m, args, below, meth, c, kc, ks, Q, nL⟩ := Γ
  obtain ⟨hx, hb, hml, hown, hts, hK, hN, hR, hX, hroom, hlk⟩ := hO
  intro H locs la hP hS hl
  refine va_callv (post := fun (_ : Unit) => True) (B := fun _ t => va_P X.2.1 vwCl (x_w X μ') t.heap) (va_runV (As := As) (rest := st) ⟨hx, hb, hml, hown, hts⟩ (hM l) (cwV na hts (big_V h1 h2 h3 h4 h5) rfl rfl rfl hd ⟨Nat.le_trans hF hroom.1, Nat.le_trans hL hroom.2.1⟩) ⟨fun a U g mk q => ⟨q.1, q.2.blind g mk a⟩, va_recv hK hP hc (by rw [x_wg X μ hv, he]), fun U hU hW => ⟨rfl, x_G.to hK hN hR hS hP hU hW⟩⟩ rfl hna hl.1 hs.symm (lv_room hrs) d ⟨hroom.2.2.1, hroom.2.2.2⟩) hS (fun q _ h => h) (fun q h => h) (fun u t H1 locs1 ht hvm hw hB hz1 hk1 hS1 => ?_)
  rw [ht] at hB
  exact k H1 locs1 la hB hS1 hl
theorem tr_callS {X : xT} {own : String} {cc : ByteArray} {F L : Nat} {Γ : gT} (hO : Ok X own cc F L Γ) (pc : Nat) {μ : mT} {lv : List (Nat × Value)} {st : List Value} {μ' : mT} {f' n' idx nl na : Nat} {As stk : List Value} {y : MethodName} {bytes : ByteArray} {r : Int32} {rt : FieldType} (hM : CMi X y bytes nl rt f' n' As μ r μ') (hs : As.reverse ++ st = stk) (h1 : Cond.methodLink own idx y ∈ big) (h2 : Cond.static y ∈ big) (h4 : Cond.initialized own ∈ big) (h5 : Cond.code y bytes nl (some rt) ∈ big) (hd : y.cls = own ∧ y.cls ≠ "java/lang/invoke/MethodHandle" ∧ y.cls ≠ "java/lang/invoke/VarHandle" ∧ (parseMethodDescriptor y.desc).map (fun d => d.parameters.length) = some na) (hna : As.length = na) (hF : f' + 1 ≤ F) (hL : 8 + (nl + 11) + n' ≤ L) (hrs : (st.map fun v => v.category).sum ≤ 8) (d : decode cc pc = .ok (.invokestatic idx, 3)) (k : tj X Γ μ' (pc + 3) lv (.int r :: st)) : tj X Γ μ pc lv stk := by
  obtain ⟨p, l, e, R, s, m, args, below, meth, c, kc, ks, Q, nL⟩ := Γ
  obtain ⟨hx, hb, hml, hown, hts, hK, hN, hR, hX, hroom, hlk⟩ := hO
  intro H locs la hP hS hl
  refine va_calli (post := fun z (_ : Unit) => z = r) (B := fun _ t => va_P X.2.1 vwCl (x_w X μ') t.heap) (va_runS (As := As) (rest := st) ⟨hx, hb, hml, hown, hts⟩ (hM l) (cwS na hts (big_S h1 h2 h4 h5) rfl rfl rfl hd ⟨Nat.le_trans hF hroom.1, Nat.le_trans hL hroom.2.1⟩) ⟨fun a U g mk q => ⟨q.1, q.2.blind g mk a⟩, fun U hU hW => ⟨rfl, x_G.to hK hN hR hS hP hU hW⟩⟩ rfl hna hl.1 hs.symm (lv_room hrs) d ⟨hroom.2.2.1, hroom.2.2.2⟩) hS (fun q _ h => h) (fun q h => h) (fun z u t H1 locs1 ht hvm hw hB hz1 hk1 hS1 => ?_)
  subst hw
  rw [ht] at hB
  exact k H1 locs1 la hB hS1 hl
theorem tr_iret {X : xT} {own : String} {cc : ByteArray} {F L : Nat} {Γ : gT} (hO : Ok X own cc F L Γ) (pc : Nat) {μ : mT} {lv : List (Nat × Value)} {r : Int32} {rt : FieldType} (hQ : Rti X rt r μ Γ) (hn : narrow rt (.int r) = .int r) (d : decode cc pc = .ok (.ireturn, 1)) : tj X Γ μ pc lv [.int r] := by
  obtain ⟨p, l, e, R, s, m, args, below, meth, c, kc, ks, Q, nL⟩ := Γ
  obtain ⟨hx, hb, hml, hown, hts, hK, hN, hR, hX, hroom, hlk⟩ := hO
  intro H locs la hP hS hl
  obtain ⟨hr, rfl⟩ := hQ
  exact W.zret hx hb hr hn (fun t ht hW => ⟨⟨r, (), rfl, rfl, by show va_P _ _ _ t.heap; rw [ht]; exact hP⟩, hS.F ht⟩) hS.2.2 d hlk
theorem tr_vret {X : xT} {own : String} {cc : ByteArray} {F L : Nat} {Γ : gT} (hO : Ok X own cc F L Γ) (pc : Nat) {μ : mT} {lv : List (Nat × Value)} (hQ : Rtv X μ Γ) (d : decode cc pc = .ok (.return_, 1)) : tj X Γ μ pc lv [] := by
  obtain ⟨p, l, e, R, s, m, args, below, meth, c, kc, ks, Q, nL⟩ := Γ
  obtain ⟨hx, hb, hml, hown, hts, hK, hN, hR, hX, hroom, hlk⟩ := hO
  intro H locs la hP hS hl
  obtain ⟨hr, rfl⟩ := hQ
  exact W.vret hx hb hr (fun t ht hW => ⟨⟨(), rfl, trivial, by show va_P _ _ _ t.heap; rw [ht]; exact hP⟩, hS.F ht⟩) hS.2.2 d hlk
