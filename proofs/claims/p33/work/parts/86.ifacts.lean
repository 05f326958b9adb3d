theorem s_arr {args : Array Value} {s : State} {ty : FieldType} (h : (Cond.arrayClass ty).before args s = true) : ∃ c, s.vm.findClass ("[" ++ ty.toString) = some c ∧ ArrOfT s c ty := by
  obtain ⟨c, k, comp, h1, h2, h3⟩ := Cond.arrayClass_spec h
  exact ⟨c, h1, fun n z => ⟨fun k h => (by cases h), k, h2, comp, h3⟩⟩
theorem s_refs {s : State} (h : va_AO RX6 s) : ∃ c, ArrOfT s c (.object RX6) ∧ va_RA s c (.object RX6) := by
  obtain ⟨comp, c, k, h1, -, h3, h4, h5⟩ := Cond.arrayOver_spec h
  exact ⟨c, fun n z => ⟨fun k h => (by cases h), k, h3, comp, h4⟩, k, comp, h3, h4, h1, h5⟩
theorem s_len {args : Array Value} {s : State} {tm : Term} (h : (Term.length tm).eval args s none [] s = some (.int 6)) : ∃ t cell, tm.eval args s none [] s = some (.ref t) ∧ s.heap[t]? = some cell ∧ cell.slots.size = 6 := by
  obtain ⟨t, cell, ht, harr, hv⟩ := Term.length_spec h
  have hsz : cell.slots.size < 2 ^ 31 := by
    simp only [Term.eval, ht, harr, Option.bind_eq_bind, Option.bind_some] at h
    by_cases hlt : cell.slots.size < 2147483648
    · exact hlt
    · simp [hlt] at h
  obtain ⟨hcell, -⟩ := State.arrayAt?_spec harr
  refine ⟨t, cell, ht, hcell, ?_⟩
  injection hv with hv
  have e : nI 6 = nI cell.slots.size := hv
  exact ((nI_eq (show 6 < 2 ^ 31 by omega) hsz).mp e).symm
theorem s_stat {args : Array Value} {s : State} {nm : String} {f : Nat → Int32} {A : Nat → Prop} (hA : ∀ a : Nat, a < s.heap.size → ¬ A a) (harr : (Cond.arrayOf (.static RX7 nm "[I") .int).before args s = true) (hlen : (Cond.eq (.length (.static RX7 nm "[I")) (.int 6)).before args s = true)
    (h0 : (Cond.eq (.elem (.static RX7 nm "[I") (.int 0)) (.int (f 0))).before args s = true) (h1 : (Cond.eq (.elem (.static RX7 nm "[I") (.int 1)) (.int (f 1))).before args s = true) (h2 : (Cond.eq (.elem (.static RX7 nm "[I") (.int 2)) (.int (f 2))).before args s = true) (h3 : (Cond.eq (.elem (.static RX7 nm "[I") (.int 3)) (.int (f 3))).before args s = true) (h4 : (Cond.eq (.elem (.static RX7 nm "[I") (.int 4)) (.int (f 4))).before args s = true) (h5 : (Cond.eq (.elem (.static RX7 nm "[I") (.int 5)) (.int (f 5))).before args s = true)
    (hl : (Cond.laysStatic RX7 nm "[I").before args s = true) (hini : (Cond.initialized RX7).before args s = true) : ∃ t, (Term.static RX7 nm "[I").eval args s none [] s = some (.ref t) ∧ va_Z RX7 nm "[I" (.ref t) A s s.heap ∧ va_T .int t 6 (fun k => .int (f k)) A s s.heap := by
  obtain ⟨t, ht, hT⟩ := va_Tof (tm := .static RX7 nm "[I") (ty := .int) (N := 6) (f := fun k => .int (f k)) (A := A) (by decide) harr (va_eqt hlen) (fun j hj => by
    rcases (show j = 0 ∨ j = 1 ∨ j = 2 ∨ j = 3 ∨ j = 4 ∨ j = 5 by omega) with rfl | rfl | rfl | rfl | rfl | rfl
    · exact va_eqt h0
    · exact va_eqt h1
    · exact va_eqt h2
    · exact va_eqt h3
    · exact va_eqt h4
    · exact va_eqt h5) hA
  exact ⟨t, ht, va_Zref hl hini ht hA, hT⟩
theorem s_first {args : Array Value} {s : State} {V : iV} {t : Nat} (hA : ∀ a : Nat, a < s.heap.size → ¬ i_B V a) (ht : (Term.static RX7 "FIRST_VALUES" "[I").eval args s none [] s = some (.ref t)) (hV : V.2.2.2 = t) (hZ : va_Z RX7 "FIRST_VALUES" "[I" (.ref t) (i_B V) s s.heap) (hT : va_T .int t 6 (fun k => .int (fv k)) (i_B V) s s.heap) (hlen : (Cond.eq (.length (.static RX7 "FIRST_VALUES" "[I")) (.int 6)).before args s = true) (hex : (Cond.exactly (.static RX7 "FIRST_VALUES" "[I") "[I").before args s = true) (hnm : s.vm.findClass "[I" = some (V.2.1 0)) : i_Z V s s.heap := by
  subst hV
  obtain ⟨cell, c1, c2, c3, c4, c5, c6, c7⟩ := hT
  obtain ⟨t2, cell2, d1, d2, d3⟩ := s_len (va_eqt hlen)
  cases ht.symm.trans d1
  cases c1.symm.trans d2
  obtain ⟨a3, c, cell3, k, e1, e2, e3, e4, e5, e6, -⟩ := Cond.exactly_spec (args := args) (first := s) (o := none) (s := s) (idx := []) (t := .static RX7 "FIRST_VALUES" "[I") (cls := "[I") hex
  cases ht.symm.trans e1
  cases c1.symm.trans e3
  have hc : cell.cls = V.2.1 0 := e6.trans (Option.some.inj (e2.symm.trans hnm))
  refine ⟨hZ, c7, cell, c1, c2.1, c3, hc, ?_⟩
  apply Array.ext_getElem?
  intro i
  rw [vp_cell_i]
  by_cases hi : i < 6
  · rw [c6 i hi, arrV_read _ _ hi]
  · rw [Array.getElem?_eq_none (by omega), Array.getElem?_eq_none (by rw [arrV_size]; omega)]
