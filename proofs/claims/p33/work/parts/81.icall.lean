theorem i_Pm {D : va_G} {cl : List vw_C} {ws : va_W} {H : Heap} : va_P D cl ws H ↔ ∀ q ∈ ws, va_at D cl q H :=
  ⟨fun h q hq => by
    obtain ⟨k, hk⟩ := List.getElem?_of_mem hq
    exact h k q hk, fun h k q hk => h q (List.mem_of_getElem? hk)⟩
def aNe : Nat × va_E → Nat × va_E → Prop := fun p q => p.1 ≠ q.1
theorem i_Dw {A : Nat → Prop} {ws : va_W} : va_D A ws ↔ ws.Pairwise aNe ∧ ∀ q ∈ ws, A q.1 := by
  constructor
  · intro h
    refine ⟨?_, fun q hq => ?_⟩
    · rw [List.pairwise_iff_getElem]
      intro i j hi hj hij e
      have := h.1 i j _ _ (List.getElem?_eq_getElem hi) (List.getElem?_eq_getElem hj) e
      omega
    · obtain ⟨k, hk⟩ := List.getElem?_of_mem hq
      exact h.2 k q hk
  · rintro ⟨h1, h2⟩
    rw [List.pairwise_iff_getElem] at h1
    refine ⟨fun i j p q hp hq e => ?_, fun k q hk => h2 q (List.mem_of_getElem? hk)⟩
    obtain ⟨li, rfl⟩ := List.getElem?_eq_some_iff.mp hp
    obtain ⟨lj, rfl⟩ := List.getElem?_eq_some_iff.mp hq
    rcases Nat.lt_trichotomy i j with c | c | c
    · exact absurd e (h1 i j li lj c)
    · exact c
    · exact absurd e.symm (h1 j i lj li c)
theorem i_A1 {h sz q : Nat} {e : va_E} (ha : va_A [(h, e)] sz q) : q = h ∨ sz ≤ q := by
  rcases ha with ⟨k, e', hk⟩ | ha
  · have h1 := (List.getElem?_eq_some_iff.mp hk).1
    rw [show k = 0 by simp at h1; omega] at hk
    cases hk
    exact Or.inl rfl
  · exact Or.inr ha
theorem i_join {A0 : Nat → Prop} {D : va_G} {cl : List vw_C} {S1 S2 B w1 : va_W} {h : Nat} {e : va_E} {H H1 : Heap} (hP : va_P D cl ((S1 ++ (h, e) :: S2) ++ B) H) (hD : va_D A0 ((S1 ++ (h, e) :: S2) ++ B)) (hk : ∀ q : Nat, q < H.size → ¬ va_A [(h, e)] H.size q → H1[q]? = H[q]?) (hF : ∀ q, va_A [(h, e)] H.size q → A0 q) (hP1 : va_P D cl w1 H1) (hD1 : va_D (va_A [(h, e)] H.size) w1) :
    va_P D cl ((S1 ++ S2) ++ (w1 ++ B)) H1 ∧ va_D A0 ((S1 ++ S2) ++ (w1 ++ B)) := by
  rw [i_Pm] at hP hP1 ⊢
  rw [i_Dw] at hD hD1 ⊢
  obtain ⟨d1, d2⟩ := hD
  obtain ⟨d3, d4⟩ := hD1
  have hperm : List.Perm ((S1 ++ (h, e) :: S2) ++ B) ((h, e) :: ((S1 ++ S2) ++ B)) := by
    rw [List.append_assoc, List.cons_append, List.append_assoc]
    exact List.perm_middle
  have d5 := (hperm.pairwise_iff (R := aNe) (fun {x y} h => fun z => h z.symm)).mp d1
  rw [List.pairwise_cons] at d5
  obtain ⟨d6, d7⟩ := d5
  have hrest : ∀ q ∈ (S1 ++ S2) ++ B, va_at D cl q H ∧ A0 q.1 ∧ q.1 < H.size ∧ q.1 ≠ h := fun q hq => by
    have hm := hperm.mem_iff.mpr (List.mem_cons_of_mem _ hq)
    exact ⟨hP q hm, d2 q hm, (hP q hm).lt, fun z => d6 q hq z.symm⟩
  have hnA : ∀ q : Nat, q < H.size → q ≠ h → ¬ va_A [(h, e)] H.size q := fun q h1 h2 z => by
    rcases i_A1 z with z | z
    · exact h2 z
    · omega
  have hperm2 : List.Perm ((S1 ++ S2) ++ (w1 ++ B)) (((S1 ++ S2) ++ B) ++ w1) := by
    rw [List.append_assoc (S1 ++ S2) B w1]
    exact List.Perm.append_left _ List.perm_append_comm
  refine ⟨fun q hq => ?_, ?_, fun q hq => ?_⟩
  · rcases List.mem_append.mp (hperm2.mem_iff.mp hq) with z | z
    · obtain ⟨r1, r2, r3, r4⟩ := hrest q z
      exact r1.kept (hk q.1 r3 (hnA q.1 r3 r4))
    · exact hP1 q z
  · rw [hperm2.pairwise_iff (R := aNe) (fun {x y} h => fun z => h z.symm), List.pairwise_append]
    refine ⟨d7, d3, fun p hp q hq z => ?_⟩
    obtain ⟨r1, r2, r3, r4⟩ := hrest p hp
    refine hnA p.1 r3 r4 ?_
    rw [show p.1 = q.1 from z]
    exact d4 q hq
  · rcases List.mem_append.mp (hperm2.mem_iff.mp hq) with z | z
    · exact (hrest q z).2.1
    · exact hF _ (d4 q z)
theorem big_I {y : MethodName} {bytes : ByteArray} {nl : Nat} (h5 : Cond.code y bytes nl none ∈ big) : GoodIn big (.code y bytes nl none :: big) := by
  intro w hw
  have hb : w ∈ big := by
    rcases List.mem_cons.mp hw with rfl | hw
    · exact h5
    · exact hw
  exact ⟨hb, good_of_word (big_good hb)⟩
section IC
variable {V : iV} {A : Nat → Prop} {own : String} {cc : ByteArray} {F L mc ms : Nat} {Γ : gT} {S B : va_W} {kc ks : Nat} {lv : List (Nat × Value)} {st : List Value}
theorem ir_call (hO : OkI V A own cc F L mc ms Γ) (pc : Nat) {y : MethodName} {bytes : ByteArray} {nl F1 L1 mc1 ms1 h idx kc1 ks1 : Nat} {e : va_E} {post : Nat → (Nat → Nat → Nat) → Prop} {Wf : (Nat → Nat → Nat) → va_W} {S1 S2 : va_W} {host : String} (hC : CK V y bytes nl F1 L1 mc1 ms1 e post Wf) (hSe : S1 ++ (h, e) :: S2 = S)
    (hlk1 : Cond.methodLink own idx y ∈ big ∨ (own, idx, y, host) ∈ nM) (hi1 : Cond.instanceMethod y ∈ big) (hi2 : Cond.initialized y.cls ∈ big) (hcd : Cond.code y bytes nl none ∈ big) (hy : y.name = "<init>") (hd : y.cls ≠ "java/lang/invoke/MethodHandle" ∧ y.cls ≠ "java/lang/invoke/VarHandle" ∧ (parseMethodDescriptor y.desc).map (fun d => d.parameters.length) = some 0)
    (hF1 : F1 + 1 ≤ F) (hL1 : 8 + (nl + 11) + L1 ≤ L) (hrs : (st.map fun v => v.category).sum ≤ 8) (h1 : kc + mc1 = kc1) (h2 : ks + ms1 = ks1) (h3 : kc1 ≤ mc) (h4 : ks1 ≤ ms) (d : decode cc pc = .ok (.invokespecial idx, 3))
    (k : ∀ u, post h u → ij V A Γ (S1 ++ S2) (Wf u ++ B) kc1 ks1 (pc + 3) lv st) : ij V A Γ S B kc ks pc lv (.ref h :: st) := by
  obtain ⟨p, l, ev, R, s, m, args, below, meth, c, kc0, ks0, Q, nL⟩ := Γ
  obtain ⟨hx, hb, hml, hown, hts, hS, hZ, hA, hroom, hlk⟩ := hO
  intro H locs la hP hD hF hl
  subst h1
  subst h2
  subst hSe
  have hm : (h, e) ∈ (S1 ++ (h, e) :: S2) ++ B := List.mem_append_left _ (List.mem_append_right _ List.mem_cons_self)
  have hPc : va_P V.1 vwCl [(h, e)] H := i_Pm.mpr (fun q hq => by
    rw [List.mem_singleton] at hq
    subst hq
    exact i_Pm.mp hP _ hm)
  have hAh : A h := (i_Dw.mp hD).2 _ hm
  have hF2 : ∀ q, va_A [(h, e)] H.size q → A q := fun q hq => by
    rcases i_A1 hq with rfl | z
    · exact hAh
    · exact hA.1 q (Nat.le_trans hF.1 z)
  have hBs : i_B V H.size := hA.2 _ (hA.1 _ hF.1)
  have hM := hC l h H.size (hA.2 _ hAh) hBs
  have hpre : PreS s H (va_Pc [.ref h] (iPre V h H.size e)) [.ref h] := ⟨fun a U g mk q => ⟨q.1, q.2.1, q.2.2.1, q.2.2.2.1.blind g mk a, q.2.2.2.2.moved (u := U) (U := U.calling g mk a) (Vm.Alike.refl U.vm)⟩, fun U hU hW => ⟨rfl, by rw [hU], by rw [hU]; exact hPc, hS.warm hW, by rw [hU]; exact (hZ.kept hA.2 hF).moved hW.alike⟩⟩
  have hend : ∀ (u : Nat → Nat → Nat) (t : State) (H1 : Heap) (locs1 : List Loc), t.heap = H1 → s.vm.Alike t.vm → post h u → iPost V h H.size e Wf u t → H.size ≤ H1.size → (∀ q : Nat, q < H.size → ¬ va_A [(h, e)] H.size q → H1[q]? = H[q]?) → va_S A s.heap H1 locs1 → W p l ev R s m args below meth c H1 locs1 (kc + mc1) (ks + ms1) Q (F0 m (pc + 3) la st) := by
    intro u t H1 locs1 ht hvm hw hB hz1 hk1 hS1
    obtain ⟨b1, b2⟩ := hB
    rw [ht] at b1
    obtain ⟨j1, j2⟩ := i_join hP hD hk1 hF2 b1 b2
    exact k u hw H1 locs1 la j1 j2 hS1 hl
  rcases hlk1 with hlk1 | hlk1
  · exact va_callv (va_runI (As := []) (rest := st) ⟨hx, hb, hml, hown, hts⟩ hM (cwI 0 hts (big_I hcd) rfl rfl rfl (hts _ hi2) (hts _ hlk1) (hts _ hi1) hy hd ⟨Nat.le_trans hF1 hroom.1, Nat.le_trans hL1 hroom.2.1⟩) hpre rfl rfl hl.1 rfl (lv_room hrs) d ⟨Nat.le_trans h3 hroom.2.2.1, Nat.le_trans h4 hroom.2.2.2⟩) hF (fun q _ z => hF2 q z) hF2 hend
  · exact va_callv (va_runIN (As := []) (rest := st) ⟨hx, hb, hml, hown, hts⟩ hM ⟨va_cnB 0 hts (big_I hcd) rfl rfl rfl (hS.2.1.2 _ hlk1) (hts _ hi2) hd ⟨Nat.le_trans hF1 hroom.1, Nat.le_trans hL1 hroom.2.1⟩, hy, hts _ hi1⟩ hpre rfl rfl hl.1 rfl (lv_room hrs) d ⟨Nat.le_trans h3 hroom.2.2.1, Nat.le_trans h4 hroom.2.2.2⟩) hF (fun q _ z => hF2 q z) hF2 hend
def RtI (V : iV) (h0 : Nat) (e : va_E) (mc ms : Nat) (post : (Nat → Nat → Nat) → Prop) (Wf : (Nat → Nat → Nat) → va_W) : gT → Prop
  | (_, _, _, _, s, _, args, below, meth, _, _, _, Q, _) => meth.sig.returnType = none ∧ Q = MQ below (va_Qv (S := Nat → Nat → Nat) post (iPost V h0 s.heap.size e Wf) (va_A [(h0, e)] s.heap.size)) args s mc ms (va_A [(h0, e)] s.heap.size)
def gH : gT → Nat
  | (_, _, _, _, s, _, _, _, _, _, _, _, _, _) => s.heap.size
theorem ir_vret {h0 : Nat} {e : va_E} {post : (Nat → Nat → Nat) → Prop} {Wf : (Nat → Nat → Nat) → va_W} (hO : OkI V (va_A [(h0, e)] (gH Γ)) own cc F L mc ms Γ) (pc : Nat) (hQ : RtI V h0 e kc ks post Wf Γ) (u : Nat → Nat → Nat) (hu : post u) (hW : List.Perm (S ++ B) (Wf u)) (d : decode cc pc = .ok (.return_, 1)) : ij V (va_A [(h0, e)] (gH Γ)) Γ S B kc ks pc lv [] := by
  obtain ⟨p, l, ev, R, s, m, args, below, meth, c, kc0, ks0, Q, nL⟩ := Γ
  obtain ⟨hx, hb, hml, hown, hts, hS, hZ, hA, hroom, hlk⟩ := hO
  intro H locs la hP hD hF hl
  obtain ⟨hr, rfl⟩ := hQ
  have hP2 : va_P V.1 vwCl (Wf u) H := i_Pm.mpr (fun q hq => i_Pm.mp hP q (hW.mem_iff.mpr hq))
  have hD2 : va_D (va_A [(h0, e)] s.heap.size) (Wf u) := by
    have hD := i_Dw.mp hD
    exact i_Dw.mpr ⟨(hW.pairwise_iff (R := aNe) (fun {x y} h => fun z => h z.symm)).mp hD.1, fun q hq => hD.2 q (hW.mem_iff.mpr hq)⟩
  exact W.vret hx hb hr (fun t ht hW => ⟨⟨u, rfl, hu, by rw [ht]; exact hP2, hD2⟩, hF.F ht⟩) hF.2.2 d hlk
theorem CK_of {y : MethodName} {nl : Nat} {e : va_E} {post : Nat → (Nat → Nat → Nat) → Prop} {Wf : (Nat → Nat → Nat) → va_W} {lv : Nat → List (Nat × Value)} (hy : plainName y.cls = true) (hn : y.name = "<init>") (hnl : 1 ≤ nl) (hlv : ∀ h0, lv_args 0 [Value.ref h0] = lv h0)
    (h : ∀ (h0 : Nat) (Γ : gT), OkI V (va_A [(h0, e)] (gH Γ)) y.cls cc F L mc ms Γ → Ini Γ → gL Γ = nl → RtI V h0 e mc ms (post h0) Wf Γ → ij V (va_A [(h0, e)] (gH Γ)) Γ [(h0, e)] [] 0 0 0 (lv h0) []) : CK V y cc nl F L mc ms e post Wf := by
  intro l h0 sz hb0 hbs
  refine Met.ofW (cc := cc) (maxL := nl) (ret := none) hy rfl ?_
  intro p ev s m args below meth c s₁ Bl hml hv
  obtain ⟨rfl, hsz, hP, hS, hZ⟩ := hv
  have hts := atoms_spec (ws := .code y cc nl none :: big) Bl.pre
  have hown : s.vm.findClass y.cls = some m.cls := findClass_of_methodNamed Bl.named
  have hin : meth.name = y.name := (name_of_methodNamed Bl.named Bl.method).1
  have hl := lv_entry [Value.ref h0] (n := nl) hnl
  rw [hlv] at hl
  rw [lg_entry_eq]
  subst hsz
  have hA : (∀ q, s.heap.size ≤ q → va_A [(h0, e)] s.heap.size q) ∧ ∀ q, va_A [(h0, e)] s.heap.size q → i_B V q := by
    refine ⟨fun q z => Or.inr z, fun q z => ?_⟩
    rcases i_A1 z with rfl | z
    · exact hb0
    · exact Nat.le_trans hbs z
  have hD : va_D (va_A [(h0, e)] s.heap.size) ([(h0, e)] ++ []) := va_D1 (va_A.in (k := 0) (q := (h0, e)) rfl)
  exact h h0 (p, l, ev, _, s, m, [Value.ref h0].toArray, below, meth, c, 0, 0, _, nl) ⟨Bl.exec, Bl.bytes, hml, hown, fun w hw => hts w (List.mem_cons_of_mem _ hw), hS, hZ, hA, ⟨Nat.le_refl _, Nat.le_refl _, Nat.le_refl _, Nat.le_refl _⟩, Bl.notSynchronized⟩ (hin.trans hn) rfl ⟨Bl.returns, rfl⟩ s.heap [] _ hP hD va_S.rf hl
end IC
