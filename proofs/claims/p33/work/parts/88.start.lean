set_option maxHeartbeats 4000000 in
set_option maxRecDepth 100000 in
theorem whole_start {p : Program} {e : Env} {s : State} {m : MethodId} {below : List Frame} {meth : Method} {c : Code} (l : Launch) (hflags : l.flags = flags0) {b L : Nat} {xs : Nat → Int32} (hL : L ≤ 260) (C0 : lw_At p s m meth c b L xs) : W p l e room_1 s m #[Value.ref b] below meth c s.heap [] 0 0 (lw_Z below #[Value.ref b] s) (entryFrame m ([Value.ref b] : List Value).toArray 3) := by
  obtain ⟨hx, hb, hr, hml, hown, hts0, hX, hbl, hlocks, hgv⟩ := id C0
  have hts : ∀ w ∈ big, w.before #[Value.ref b] s = true := fun w hw => hts0 w (List.mem_filter.mp hw).1
  have tb : ∀ w ∈ tables_1, w.before #[Value.ref b] s = true := fun w hw => hts0 w (List.mem_append_right _ hw)
  have hNA : ∀ a : Nat, a < s.heap.size → ¬ (fun q : Nat => s.heap.size ≤ q) a := fun a h => Nat.not_le.mpr h
  obtain ⟨c0, i0, k0⟩ := u_known (C := RX0) (T := TX0) (N := 3) (n := 3) hts iX0 (hts _ wT_X0)
  obtain ⟨c1, i1, k1⟩ := u_known (C := RX1) (T := TX1) (N := 2) (n := 2) hts iX1 (hts _ wT_X1)
  obtain ⟨c2, i2, k2⟩ := u_known (C := RX2) (T := TX2) (N := 2) (n := 2) hts iX2 (hts _ wT_X2)
  obtain ⟨c3, i3, k3⟩ := u_known (C := RX3) (T := TX3) (N := 4) (n := 4) hts iX3 (hts _ wT_X3)
  obtain ⟨c4, i4, k4⟩ := u_known (C := RX4) (T := TX4) (N := 1) (n := 1) hts iX4 (hts _ wT_X4)
  obtain ⟨c5, i5, k5⟩ := u_known (C := RX5) (T := TX5) (N := 7) (n := 7) hts iX5 (hts _ wT_X5)
  obtain ⟨c6, i6, k6⟩ := u_known (C := RX6) (T := TX6) (N := 14) (n := 14) hts iX6 (hts _ wT_X6)
  obtain ⟨c7, i7, k7⟩ := u_known (C := RX7) (T := TX7) (N := 7) (n := 7) hts iX7 (hts _ wT_X7)
  obtain ⟨dC, dI, hKc⟩ : ∃ (dC : Nat → ClassId) (dI : Nat → Nat → Nat), ∀ (k : Nat) (q : vw_C), vwCl[k]? = some q → u_Kn s q.1 q.2.1 q.2.2 (dC k) (dI k) := by
    refine ⟨fun k => if k = 0 then c0 else if k = 1 then c1 else if k = 2 then c2 else if k = 3 then c3 else if k = 4 then c4 else if k = 5 then c5 else if k = 6 then c6 else c7, fun k => if k = 0 then i0 else if k = 1 then i1 else if k = 2 then i2 else if k = 3 then i3 else if k = 4 then i4 else if k = 5 then i5 else if k = 6 then i6 else i7, ?_⟩
    intro k q hq
    match k, hq with
    | 0, hq => cases hq; exact k0
    | 1, hq => cases hq; exact k1
    | 2, hq => cases hq; exact k2
    | 3, hq => cases hq; exact k3
    | 4, hq => cases hq; exact k4
    | 5, hq => cases hq; exact k5
    | 6, hq => cases hq; exact k6
    | 7, hq => cases hq; exact k7
    | k + 8, hq => simp [vwCl] at hq
  obtain ⟨a0, n0, r0⟩ := s_arr (ty := .int) (hts _ wA_int)
  obtain ⟨a1, n1, r1⟩ := s_arr (ty := .boolean) (hts _ wA_boolean)
  obtain ⟨a2, n2, r2⟩ := s_arr (ty := .char) (hts _ wA_char)
  have hAO : va_AO RX6 s := va_AO.of (tb (.arrayOver (.object RX6)) (List.mem_of_getElem? (i := 176) (by decide +kernel)))
  obtain ⟨a3, r3, n3⟩ := s_refs hAO
  have hCs : va_Nw (.castable "[I" "java/lang/Cloneable") s := va_Nw.of rfl (tb (.castable "[I" "java/lang/Cloneable") (List.mem_of_getElem? (i := 32) (by decide +kernel)))
  have hN : x_N s := ⟨fun q hq => va_Nw.of rfl (tb _ (nF_in q hq)), fun q hq => va_Nw.of rfl (tb _ (nM_in q hq))⟩
  have hs := flat_of_before _ hgv
  obtain ⟨tf, ef, zf, Tf⟩ := s_stat (nm := "FIRST_VALUES") (f := fv) hNA (hs _ (by decide +kernel)) (hs _ (by decide +kernel)) (hs _ (by decide +kernel)) (hs _ (by decide +kernel)) (hs _ (by decide +kernel)) (hs _ (by decide +kernel)) (hs _ (by decide +kernel)) (hs _ (by decide +kernel)) (tb (.laysStatic RX7 "FIRST_VALUES" "[I") (List.mem_of_getElem? (i := 26) (by decide +kernel))) (hts _ wN_X7)
  obtain ⟨tl, el, zl, Tl⟩ := s_stat (nm := "LEAST_VALUES") (f := (cst 40)) hNA (hs _ (by decide +kernel)) (hs _ (by decide +kernel)) (hs _ (by decide +kernel)) (hs _ (by decide +kernel)) (hs _ (by decide +kernel)) (hs _ (by decide +kernel)) (hs _ (by decide +kernel)) (hs _ (by decide +kernel)) (tb (.laysStatic RX7 "LEAST_VALUES" "[I") (List.mem_of_getElem? (i := 258) (by decide +kernel))) (hts _ wN_X7)
  obtain ⟨tm, em, zm, Tm⟩ := s_stat (nm := "MOST_VALUES") (f := (cst 41)) hNA (hs _ (by decide +kernel)) (hs _ (by decide +kernel)) (hs _ (by decide +kernel)) (hs _ (by decide +kernel)) (hs _ (by decide +kernel)) (hs _ (by decide +kernel)) (hs _ (by decide +kernel)) (hs _ (by decide +kernel)) (tb (.laysStatic RX7 "MOST_VALUES" "[I") (List.mem_of_getElem? (i := 260) (by decide +kernel))) (hts _ wN_X7)
  obtain ⟨V, hV⟩ : ∃ V : iV, V = ((dC, dI), (fun t => if t = 0 then a0 else if t = 1 then a1 else if t = 2 then a2 else a3), s.heap.size, tf) := ⟨_, rfl⟩
  have hK : va_K V.1 vwCl (i_ty V) s := by
    subst hV
    refine ⟨hKc, fun k q hq => ?_⟩
    match k, hq with
    | 0, hq => cases hq; exact ⟨r0, n0⟩
    | 1, hq => cases hq; exact ⟨r1, n1⟩
    | 2, hq => cases hq; exact ⟨r2, n2⟩
    | 3, hq => cases hq; exact ⟨r3, n3⟩
    | k + 4, hq => simp [i_ty] at hq
  have hZ : i_Z V s s.heap := by
    subst hV
    exact s_first hNA ef rfl zf Tf (hs _ (by decide +kernel)) (hs _ (by decide +kernel)) n0
  have hV3 : V.2.2.1 = s.heap.size := by rw [hV]
  have hS : i_S V s := ⟨hK, hN, hCs, hAO⟩
  obtain ⟨Γ, hΓ⟩ : ∃ Γ : gT, Γ = (p, l, e, room_1, s, m, #[Value.ref b], below, meth, c, 207, 5908, lw_Z below #[Value.ref b] s, 3) := ⟨_, rfl⟩
  have hOI : OkI V (fun q : Nat => s.heap.size ≤ q) RL cL_law 5 94 207 5908 Γ := by
    subst hΓ
    exact ⟨hx, hb, hml, hown, hts, hS, hZ, ⟨fun q h => h, fun q h => by show V.2.2.1 ≤ q; rw [hV3]; exact h⟩, ⟨Nat.le_of_ble_eq_true rfl, Nat.le_of_ble_eq_true rfl, Nat.le_of_ble_eq_true rfl, Nat.le_of_ble_eq_true rfl⟩, hlocks⟩
  have start : ij V (fun q : Nat => s.heap.size ≤ q) Γ [] [] 0 0 0 [(0, .ref b)] [] := by
    refine c_start hOI (by rw [hΓ]; rfl) (fun u => ?_)
    have hOI := hOI
    subst hΓ
    intro H locs la hP hD hF hl
    have hXok : xOK (xF V u tl tm) := xF_ok (fun q h => by rw [hV3]; exact h) hD
    have hPx : va_P (xF V u tl tm).2.1 vwCl (x_w (xF V u tl tm) mem0) H := xF_P hP
    obtain ⟨μ', hlaw⟩ := law_done (xs := xs) (Ls := L) hL
    have eA : y_A (xF V u tl tm) = fun q : Nat => s.heap.size ≤ q := by
      funext q
      show (V.2.2.1 ≤ q) = _
      rw [hV3]
    have hR : y_R (xF V u tl tm) s s.heap := by
      refine ⟨by rw [eA]; exact zl, by rw [eA]; exact zm, fun κ hκ => ?_⟩
      rcases hκ with rfl | rfl
      · rw [eA]; exact Tl
      · rw [eA]; exact Tm
    have hZy : y_Z (xF V u tl tm) (b, L, xs) s s.heap := ⟨hX, by rw [eA]; exact Nat.not_le.mpr hbl, Nat.le_of_eq hV3⟩
    have hOk : OkY (xF V u tl tm) (b, L, xs) RL cL_law 9 218 12010 (p, l, e, room_1, s, m, #[Value.ref b], below, meth, c, 207, 5908, lw_Z below #[Value.ref b] s, 3) := ⟨hx, hb, hml, hown, hts, hK, hN, hR, hXok, hZy, ⟨Nat.le_of_ble_eq_true rfl, Nat.le_of_ble_eq_true rfl, Nat.le_of_ble_eq_true rfl, Nat.le_of_ble_eq_true rfl⟩, hlocks⟩
    have hRt : RtL (xF V u tl tm) b (p, l, e, room_1, s, m, #[Value.ref b], below, meth, c, 207, 5908, lw_Z below #[Value.ref b] s, 3) := ⟨rfl, rfl, hr, rfl, hV3, Nat.le_of_ble_eq_true rfl, Nat.le_of_ble_eq_true rfl⟩
    have hyD : yD (xF V u tl tm) [] := ⟨List.nodup_nil, fun p hp => (List.not_mem_nil hp).elim, fun μ => y_Dw.mpr ⟨by
      rw [y_adr, List.map_nil, List.append_nil]
      have h := x_D hXok mem0
      have h1 := (y_Dw.mp h).1
      have e := y_adr (X := xF V u tl tm) (as := []) (μ := mem0)
      unfold y_w x_l at e
      rw [List.map_nil, List.append_nil, List.map_nil, List.append_nil] at e
      rw [← e]
      exact h1, fun a ha => by
      rw [y_adr, List.map_nil, List.append_nil] at ha
      obtain ⟨n, hn, rfl⟩ := List.mem_map.mp ha
      exact hXok.2 n (List.mem_range.mp hn)⟩⟩
    refine c_L_law (Z := (b, L, xs)) hXok hOk rfl hRt hlaw H locs la hyD ?_ (by rw [eA]; exact hF) hl
    unfold y_w x_l
    rw [List.map_nil, List.append_nil]
    exact hPx
  subst hΓ
  have hl := lv_entry [Value.ref b] (n := 3) (Nat.le_of_ble_eq_true rfl)
  rw [lg_entry_eq]
  exact start s.heap [] _ (fun k q h => by simp at h) ⟨fun i j p q h => by simp at h, fun k q h => by simp at h⟩ va_S.rf hl
