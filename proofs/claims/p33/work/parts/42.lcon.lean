set_option maxHeartbeats 4000000 in
set_option maxRecDepth 100000 in
theorem c_L_cell {X : xT} {Z : scT} (hX : xOK X) {as : aT} {xs : Nat → Int32} {Ls : Nat} (hZx : Z.2.2 = xs) (hZl : Z.2.1 = Ls) {a1 : Int32} {a2 : Int32} {μ μ' : mT} {r : Int32} (h : f_L_cell xs Ls a1 a2 μ = some (r, μ')) : CL X Z as yL_cell cL_cell 3 .int 0 0 0 [.ref Z.1, .int a1, .int a2] μ r μ' := by
  subst hZx
  subst hZl
  have hZx : Z.2.2 = Z.2.2 := rfl
  have hZl : Z.2.1 = Z.2.1 := rfl
  refine CL_of hX (by decide +kernel) (lv := [(0, .ref Z.1), (1, .int a1), (2, .int a2)]) (Nat.le_of_ble_eq_true rfl) rfl (fun Γ hO hn hQ => ?_)
  have hO : OkY X Z RL cL_cell 0 0 0 Γ := hO
  unfold f_L_cell at h
  refine lr_aload_n hO 0 0 rfl dL_cell_0 ?_
  refine lr_slen hO 1 dL_cell_1 ?_
  refine lr_if_ne hO 2 14 (by decide) dL_cell_2 (fun hc => ?_) (fun hc => ?_)
  · have h := of_f hc h
    refine lr_aload_n hO 14 0 rfl dL_cell_14 ?_
    refine lr_iload_n hO 15 1 rfl dL_cell_15 ?_
    refine lr_aload_n hO 16 0 rfl dL_cell_16 ?_
    refine lr_slen hO 17 dL_cell_17 ?_
    obtain ⟨hg, h⟩ := of_gd h
    refine lr_irem hO 18 (of_decide_eq_true hg) dL_cell_18 ?_
    obtain ⟨hg, h⟩ := of_gd h
    refine lr_sld hO 19 hg dL_cell_19 ?_
    refine lr_iload_n hO 20 1 rfl dL_cell_20 ?_
    refine lr_bipush hO 21 (v := 7) (by decide) dL_cell_21 ?_
    refine lr_irem hO 23 (by decide) dL_cell_23 ?_
    refine lr_ishr hO 24 dL_cell_24 ?_
    refine lr_ldc hO 25 (v := 4194303) wK_L_7 dL_cell_25 ?_
    refine lr_iand hO 27 dL_cell_27 ?_
    refine lr_iload_n hO 28 2 rfl dL_cell_28 ?_
    obtain ⟨hg, h⟩ := of_gd h
    refine lr_irem hO 29 (of_decide_eq_true hg) dL_cell_29 ?_
    cases h
    exact lr_iret hO 30 (fun _ h => h) (by decide) hQ rfl dL_cell_30
  · have h := of_t hc h
    refine lr_iload_n hO 5 1 rfl dL_cell_5 ?_
    refine lr_bipush hO 6 (v := 37) (by decide) dL_cell_6 ?_
    refine lr_imul hO 8 dL_cell_8 ?_
    refine lr_iconst hO 9 (v := 5) (by decide) dL_cell_9 ?_
    refine lr_iadd hO 10 dL_cell_10 ?_
    refine lr_goto hO 11 28 (by decide) dL_cell_11 ?_
    refine lr_iload_n hO 28 2 rfl dL_cell_28 ?_
    obtain ⟨hg, h⟩ := of_gd h
    refine lr_irem hO 29 (of_decide_eq_true hg) dL_cell_29 ?_
    cases h
    exact lr_iret hO 30 (fun _ h => h) (by decide) hQ rfl dL_cell_30
set_option maxHeartbeats 4000000 in
set_option maxRecDepth 100000 in
theorem c_L_row {X : xT} {Z : scT} (hX : xOK X) {as : aT} {ka aa ia : Nat} (ha : as[ia]? = some (ka, aa)) {a1 : Int32} {μ μ' : mT} {r : Int32} (h : f_L_row ka a1 μ = some (r, μ')) : CL X Z as yL_row cL_row 5 .int 3 67 0 [.ref (X.1 18 0), .int a1, .ref aa] μ r μ' := by
  refine CL_of hX (by decide +kernel) (lv := [(0, .ref (X.1 18 0)), (1, .int a1), (2, .ref aa)]) (Nat.le_of_ble_eq_true rfl) rfl (fun Γ hO hn hQ => ?_)
  have hO : OkY X Z RL cL_row 3 67 0 Γ := hO
  unfold f_L_row at h
  refine lr_iload_n hO 0 1 rfl dL_row_0 ?_
  obtain ⟨J1, e_J1, h⟩ := of_lt h
  have J1_T : ∀ (v2 : Int32) (μ3 : mT), J1 v2 μ3 = some (r, μ') → lj X as 0 Γ μ3 18 [(0, .ref (X.1 18 0)), (1, .int a1), (2, .ref aa)] [.int v2] := by
    intro v2 μ3 h
    rw [e_J1] at h
    refine lr_istore_n hO 18 (v := v2) rfl (lv' := [(3, .int v2), (0, .ref (X.1 18 0)), (1, .int a1), (2, .ref aa)]) hn rfl (by decide) rfl dL_row_18 ?_
    refine lr_iconst hO 19 (v := 0) (by decide) dL_row_19 ?_
    refine lr_istore hO 20 (v := 0) rfl (lv' := [(4, .int 0), (3, .int v2), (0, .ref (X.1 18 0)), (1, .int a1), (2, .ref aa)]) hn (by decide) rfl dL_row_20 ?_
    obtain ⟨K6, e_K6, h⟩ := of_lt h
    have K6_T : ∀ (μ7 : mT), K6 μ7 = some (r, μ') → lj X as 0 Γ μ7 45 [(0, .ref (X.1 18 0)), (1, .int a1), (3, .int v2)] [] := by
      intro μ7 h
      rw [e_K6] at h
      refine lr_aload_n hO 45 0 rfl dL_row_45 ?_
      refine lr_iload_n hO 46 1 rfl dL_row_46 ?_
      refine lr_iload_n hO 47 2 rfl dL_row_47 ?_
      obtain ⟨v8, μa_μ9, μ9, hcall, e_μ9, h⟩ := of_bm h
      refine lr_callI hO 48 (na := 2) (As := [.int a1, .int v2]) (st := []) (c_X7_at hX hcall) e_μ9 rfl wM_L_18 wI_X7_at wS_X7_at wN_X7 wC_X7_at (by decide +kernel) rfl (by decide) (by decide) (Nat.le_of_ble_eq_true rfl) (by decide) dL_row_48 ?_
      refine lr_bipush hO 51 (v := (-6)) (by decide) dL_row_51 ?_
      refine lr_icmp_ne hO 53 71 (by decide) dL_row_53 (fun hc => ?_) (fun hc => ?_)
      · have h := of_f hc h
        refine lr_iconst hO 71 (v := (-1)) (by decide) dL_row_71 ?_
        cases h
        exact lr_iret hO 72 (fun _ h => h) (by decide) hQ rfl dL_row_72
      · have h := of_t hc h
        refine lr_aload_n hO 56 0 rfl dL_row_56 ?_
        refine lr_iload_n hO 57 1 rfl dL_row_57 ?_
        refine lr_iconst hO 58 (v := (-1)) (by decide) dL_row_58 ?_
        obtain ⟨v10, μa_μ11, μ11, hcall, e_μ11, h⟩ := of_bm h
        refine lr_callI hO 59 (na := 2) (As := [.int a1, .int ((-1))]) (st := []) (c_X7_at hX hcall) e_μ11 rfl wM_L_18 wI_X7_at wS_X7_at wN_X7 wC_X7_at (by decide +kernel) rfl (by decide) (by decide) (Nat.le_of_ble_eq_true rfl) (by decide) dL_row_59 ?_
        refine lr_bipush hO 62 (v := (-6)) (by decide) dL_row_62 ?_
        refine lr_icmp_ne hO 64 71 (by decide) dL_row_64 (fun hc => ?_) (fun hc => ?_)
        · have h := of_f hc h
          refine lr_iconst hO 71 (v := (-1)) (by decide) dL_row_71 ?_
          cases h
          exact lr_iret hO 72 (fun _ h => h) (by decide) hQ rfl dL_row_72
        · have h := of_t hc h
          refine lr_iload_n hO 67 2 rfl dL_row_67 ?_
          refine lr_goto hO 68 72 (by decide) dL_row_68 ?_
          cases h
          exact lr_iret hO 72 (fun _ h => h) (by decide) hQ rfl dL_row_72
    have L22_T : ∀ (n : Nat) (v4 : Int32) (μ5 : mT), f_L_row_L22 ka a1 v2 K6 n v4 μ5 = some (r, μ') → lj X as 0 Γ μ5 22 [(0, .ref (X.1 18 0)), (1, .int a1), (2, .ref aa), (3, .int v2), (4, .int v4)] [] := by
      intro n
      induction n with
      | zero =>
        intro v4 μ5 h
        rw [f_L_row_L22] at h
        cases h
      | succ n ih =>
        intro v4 μ5 h
        rw [f_L_row_L22] at h
        refine lr_iload hO 22 4 rfl dL_row_22 ?_
        refine lr_iload_n hO 24 3 rfl dL_row_24 ?_
        refine lr_icmp_ge hO 25 45 (by decide) dL_row_25 (fun hc => ?_) (fun hc => ?_)
        · have h := of_t hc h
          refine lr_sub [0, 1, 3] rfl ?_
          exact K6_T _ h
        · have h := of_f hc h
          refine lr_aload_n hO 28 2 rfl dL_row_28 ?_
          refine lr_iload hO 29 4 rfl dL_row_29 ?_
          refine lr_aload_n hO 31 0 rfl dL_row_31 ?_
          refine lr_iload_n hO 32 1 rfl dL_row_32 ?_
          refine lr_iload hO 33 4 rfl dL_row_33 ?_
          obtain ⟨v12, μa_μ13, μ13, hcall, e_μ13, h⟩ := of_bm h
          refine lr_callI hO 35 (na := 2) (As := [.int a1, .int v4]) (st := [.int v4, .ref aa]) (c_X7_at hX hcall) e_μ13 rfl wM_L_18 wI_X7_at wS_X7_at wN_X7 wC_X7_at (by decide +kernel) rfl (by decide) (by decide) (Nat.le_of_ble_eq_true rfl) (by decide) dL_row_35 ?_
          obtain ⟨hg, h⟩ := of_gd h
          obtain ⟨μ14, e_μ14, h⟩ := of_lt h
          refine lr_iast hO 38 (κ := ka) (a := aa) (ia := ia) e_μ14 ha hg dL_row_38 ?_
          obtain ⟨v15, e_v15, h⟩ := of_lt h
          refine lr_iinc hO 39 (q := 4) (v := v15) (lv' := [(4, .int v15), (0, .ref (X.1 18 0)), (1, .int a1), (2, .ref aa), (3, .int v2)]) hn rfl (by rw [e_v15]; rfl) (by decide) rfl dL_row_39 ?_
          refine lr_goto hO 42 22 (by decide) dL_row_42 ?_
          refine lr_sub [1, 2, 3, 4, 0] rfl ?_
          exact ih _ _ h
    refine lr_sub [2, 3, 4, 1, 0] rfl ?_
    exact L22_T _ _ _ h
  refine lr_if_ge hO 1 12 (by decide) dL_row_1 (fun hc => ?_) (fun hc => ?_)
  · have h := of_t hc h
    refine lr_aload_n hO 12 0 rfl dL_row_12 ?_
    refine lr_iload_n hO 13 1 rfl dL_row_13 ?_
    refine lr_iconst hO 14 (v := 1) (by decide) dL_row_14 ?_
    obtain ⟨v16, μa_μ17, μ17, hcall, e_μ17, h⟩ := of_bm h
    refine lr_callI hO 15 (na := 2) (As := [.int a1, .int 1]) (st := []) (c_X7_ofTrack hX hcall) e_μ17 rfl wM_L_14 wI_X7_ofTrack wS_X7_ofTrack wN_X7 wC_X7_ofTrack (by decide +kernel) rfl (by decide) (by decide) (Nat.le_of_ble_eq_true rfl) (by decide) dL_row_15 ?_
    exact J1_T _ _ h
  · have h := of_f hc h
    refine lr_aload_n hO 4 0 rfl dL_row_4 ?_
    refine lr_iconst hO 5 (v := 3) (by decide) dL_row_5 ?_
    obtain ⟨v18, μa_μ19, μ19, hcall, e_μ19, h⟩ := of_bm h
    refine lr_callI hO 6 (na := 1) (As := [.int 3]) (st := []) (c_X7_count hX hcall) e_μ19 rfl wM_L_8 wI_X7_count wS_X7_count wN_X7 wC_X7_count (by decide +kernel) rfl (by decide) (by decide) (Nat.le_of_ble_eq_true rfl) (by decide) dL_row_6 ?_
    refine lr_goto hO 9 18 (by decide) dL_row_9 ?_
    exact J1_T _ _ h
set_option maxHeartbeats 4000000 in
set_option maxRecDepth 100000 in
theorem c_L_lengths {X : xT} {Z : scT} (hX : xOK X) {as : aT} {ka aa ia : Nat} (ha : as[ia]? = some (ka, aa)) {a2 : Int32} {a3 : Int32} {μ μ' : mT} {r : Int32} (h : f_L_lengths ka a2 a3 μ = some (r, μ')) : CL X Z as yL_lengths cL_lengths 6 .int 4 92 0 [.ref (X.1 18 0), .ref aa, .int a2, .int a3] μ r μ' := by
  refine CL_of hX (by decide +kernel) (lv := [(0, .ref (X.1 18 0)), (1, .ref aa), (2, .int a2), (3, .int a3)]) (Nat.le_of_ble_eq_true rfl) rfl (fun Γ hO hn hQ => ?_)
  have hO : OkY X Z RL cL_lengths 4 92 0 Γ := hO
  unfold f_L_lengths at h
  refine lr_iconst hO 0 (v := 0) (by decide) dL_lengths_0 ?_
  refine lr_istore hO 1 (v := 0) rfl (lv' := [(4, .int 0), (0, .ref (X.1 18 0)), (1, .ref aa), (2, .int a2), (3, .int a3)]) hn (by decide) rfl dL_lengths_1 ?_
  refine lr_iload_n hO 3 3 rfl dL_lengths_3 ?_
  refine lr_istore hO 4 (v := a2) rfl (lv' := [(5, .int a2), (4, .int 0), (0, .ref (X.1 18 0)), (1, .ref aa), (2, .int a2), (3, .int a3)]) hn (by decide) rfl dL_lengths_4 ?_
  have L6_T : ∀ (n : Nat) (v1 : Int32) (v2 : Int32) (μ3 : mT), f_L_lengths_L6 ka a3 n v1 v2 μ3 = some (r, μ') → lj X as 0 Γ μ3 6 [(0, .ref (X.1 18 0)), (1, .ref aa), (3, .int a3), (4, .int v1), (5, .int v2)] [] := by
    intro n
    induction n with
    | zero =>
      intro v1 v2 μ3 h
      rw [f_L_lengths_L6] at h
      cases h
    | succ n ih =>
      intro v1 v2 μ3 h
      rw [f_L_lengths_L6] at h
      refine lr_iload hO 6 4 rfl dL_lengths_6 ?_
      refine lr_iload_n hO 8 2 rfl dL_lengths_8 ?_
      refine lr_icmp_ge hO 9 32 (by decide) dL_lengths_9 (fun hc => ?_) (fun hc => ?_)
      · have h := of_t hc h
        refine lr_iload hO 32 3 rfl dL_lengths_32 ?_
        cases h
        exact lr_iret hO 34 (fun _ h => h) (by decide) hQ rfl dL_lengths_34
      · have h := of_f hc h
        refine lr_iload hO 12 3 rfl dL_lengths_12 ?_
        refine lr_aload_n hO 14 0 rfl dL_lengths_14 ?_
        refine lr_aload_n hO 15 1 rfl dL_lengths_15 ?_
        refine lr_iload hO 16 4 rfl dL_lengths_16 ?_
        obtain ⟨hg, h⟩ := of_gd h
        refine lr_iald hO 18 (κ := ka) (a := aa) (ia := ia) ha hg dL_lengths_18 ?_
        refine lr_iconst hO 19 (v := 0) (by decide) dL_lengths_19 ?_
        obtain ⟨v4, μa_μ5, μ5, hcall, e_μ5, h⟩ := of_bm h
        refine lr_callI hO 20 (na := 2) (As := [.int (μ3 ka 0 v2.toNatClampNeg), .int 0]) (st := [.int v1]) (c_X7_ofWagon hX hcall) e_μ5 rfl wM_L_21 wI_X7_ofWagon wS_X7_ofWagon wN_X7 wC_X7_ofWagon (by decide +kernel) rfl (by decide) (by decide) (Nat.le_of_ble_eq_true rfl) (by decide) dL_lengths_20 ?_
        refine lr_iadd hO 23 dL_lengths_23 ?_
        obtain ⟨v6, e_v6, h⟩ := of_lt h
        refine lr_istore hO 24 (v := v6) e_v6 (lv' := [(4, .int v6), (0, .ref (X.1 18 0)), (1, .ref aa), (3, .int a3), (5, .int v2)]) hn (by decide) rfl dL_lengths_24 ?_
        obtain ⟨v7, e_v7, h⟩ := of_lt h
        refine lr_iinc hO 26 (q := 4) (v := v7) (lv' := [(5, .int v7), (4, .int v6), (0, .ref (X.1 18 0)), (1, .ref aa), (3, .int a3)]) hn rfl (by rw [e_v7]; rfl) (by decide) rfl dL_lengths_26 ?_
        refine lr_goto hO 29 6 (by decide) dL_lengths_29 ?_
        refine lr_sub [2, 3, 4, 1, 0] rfl ?_
        exact ih _ _ _ h
  refine lr_sub [2, 3, 5, 1, 0] rfl ?_
  exact L6_T _ _ _ _ h
set_option maxHeartbeats 4000000 in
set_option maxRecDepth 100000 in
theorem c_L_agree {X : xT} {Z : scT} (hX : xOK X)  {μ μ' : mT} {r : Int32} (h : f_L_agree μ = some (r, μ')) : CL X Z [] yL_agree cL_agree 7 .boolean 5 117 1 [.ref (X.1 18 0)] μ r μ' := by
  refine CL_of hX (by decide +kernel) (lv := [(0, .ref (X.1 18 0))]) (Nat.le_of_ble_eq_true rfl) rfl (fun Γ hO hn hQ => ?_)
  have hO : OkY X Z RL cL_agree 5 117 1 Γ := hO
  unfold f_L_agree at h
  refine lr_bipush hO 0 (v := 32) (by decide) dL_agree_0 ?_
  obtain ⟨μ1, e_μ1, h⟩ := of_lt h
  refine lr_new hO 2 (κ := 60) (asf := fun r2 => [(60, r2)]) e_μ1 (fun _ => rfl) (by decide) (by simp) (by decide) dL_agree_2 (fun r2 => ?_)
  refine lr_astore_n hO 4 rfl (lv' := [(1, .ref r2), (0, .ref (X.1 18 0))]) hn rfl (by decide) rfl dL_agree_4 ?_
  refine lr_iconst hO 5 (v := 0) (by decide) dL_agree_5 ?_
  refine lr_istore_n hO 6 (v := 0) rfl (lv' := [(2, .int 0), (1, .ref r2), (0, .ref (X.1 18 0))]) hn rfl (by decide) rfl dL_agree_6 ?_
  refine lr_aload_n hO 7 2 rfl dL_agree_7 ?_
  refine lr_bipush hO 8 (v := (-6)) (by decide) dL_agree_8 ?_
  refine lr_aload_n hO 10 1 rfl dL_agree_10 ?_
  obtain ⟨v3, μ4, hcall, h⟩ := of_bd h
  refine lr_callS hO 11 (na := 3) (mc := 0) (As := [.ref (X.1 18 0), .int ((-6)), .ref r2]) (st := []) (c_L_row hX (ia := 0) rfl hcall) rfl wM_L_24 wT_L_row wN_L wC_L_row (by decide +kernel) rfl (by decide) (by decide) (Nat.le_of_ble_eq_true rfl) (by decide) dL_agree_11 ?_
  refine lr_istore_n hO 14 (v := v3) rfl (lv' := [(3, .int v3), (2, .int 0), (1, .ref r2), (0, .ref (X.1 18 0))]) hn rfl (by decide) rfl dL_agree_14 ?_
  refine lr_iload_n hO 15 0 rfl dL_agree_15 ?_
  refine lr_aload_n hO 16 3 rfl dL_agree_16 ?_
  refine lr_iconst hO 17 (v := 3) (by decide) dL_agree_17 ?_
  obtain ⟨v5, μa_μ6, μ6, hcall, e_μ6, h⟩ := of_bm h
  refine lr_callI hO 18 (na := 1) (As := [.int 3]) (st := [.int v3]) (c_X7_count hX hcall) e_μ6 rfl wM_L_8 wI_X7_count wS_X7_count wN_X7 wC_X7_count (by decide +kernel) rfl (by decide) (by decide) (Nat.le_of_ble_eq_true rfl) (by decide) dL_agree_18 ?_
  refine lr_icmp_ne hO 21 39 (by decide) dL_agree_21 (fun hc => ?_) (fun hc => ?_)
  · have h := of_f hc h
    refine lr_iconst hO 39 (v := 0) (by decide) dL_agree_39 ?_
    cases h
    exact lr_iret hO 40 (by simp) (by decide) hQ (by decide) dL_agree_40
  · have h := of_t hc h
    refine lr_aload_n hO 24 3 rfl dL_agree_24 ?_
    refine lr_aload_n hO 25 2 rfl dL_agree_25 ?_
    refine lr_iconst hO 26 (v := 0) (by decide) dL_agree_26 ?_
    refine lr_iload_n hO 27 0 rfl dL_agree_27 ?_
    obtain ⟨v7, μ8, hcall, h⟩ := of_bd h
    refine lr_callS hO 28 (na := 4) (mc := 0) (As := [.ref (X.1 18 0), .ref r2, .int 0, .int v3]) (st := []) (c_L_lengths hX (ia := 0) rfl hcall) rfl wM_L_30 wT_L_lengths wN_L wC_L_lengths (by decide +kernel) rfl (by decide) (by decide) (Nat.le_of_ble_eq_true rfl) (by decide) dL_agree_28 ?_
    refine lr_aload_n hO 31 3 rfl dL_agree_31 ?_
    refine lr_iconst hO 32 (v := 4) (by decide) dL_agree_32 ?_
    obtain ⟨v9, μa_μ10, μ10, hcall, e_μ10, h⟩ := of_bm h
    refine lr_callI hO 33 (na := 1) (As := [.int 4]) (st := [.int v7]) (c_X7_count hX hcall) e_μ10 rfl wM_L_8 wI_X7_count wS_X7_count wN_X7 wC_X7_count (by decide +kernel) rfl (by decide) (by decide) (Nat.le_of_ble_eq_true rfl) (by decide) dL_agree_33 ?_
    refine lr_icmp_eq hO 36 41 (by decide) dL_agree_36 (fun hc => ?_) (fun hc => ?_)
    · have h := of_t hc h
      refine lr_iconst hO 41 (v := 0) (by decide) dL_agree_41 ?_
      refine lr_istore hO 42 (v := 0) rfl (lv' := [(4, .int 0), (3, .int v3), (2, .int 0), (1, .ref r2), (0, .ref (X.1 18 0))]) hn (by decide) rfl dL_agree_42 ?_
      obtain ⟨K14, e_K14, h⟩ := of_lt h
      have K14_T : ∀ (v15 : Int32) (μ16 : mT), K14 v15 μ16 = some (r, μ') → lj X [(60, r2)] 1 Γ μ16 123 [(0, .ref (X.1 18 0)), (1, .ref r2), (2, .int v15)] [] := by
        intro v15 μ16 h
        rw [e_K14] at h
        refine lr_iconst hO 123 (v := 0) (by decide) dL_agree_123 ?_
        refine lr_istore hO 124 (v := 0) rfl (lv' := [(4, .int 0), (0, .ref (X.1 18 0)), (1, .ref r2), (2, .int v15)]) hn (by decide) rfl dL_agree_124 ?_
        obtain ⟨K20, e_K20, h⟩ := of_lt h
        have K20_T : ∀ (v21 : Int32) (μ22 : mT), K20 v21 μ22 = some (r, μ') → lj X [(60, r2)] 1 Γ μ22 287 [(0, .ref (X.1 18 0)), (2, .int v21)] [] := by
          intro v21 μ22 h
          rw [e_K20] at h
          refine lr_iconst hO 287 (v := 0) (by decide) dL_agree_287 ?_
          refine lr_istore hO 288 (v := 0) rfl (lv' := [(4, .int 0), (0, .ref (X.1 18 0)), (2, .int v21)]) hn (by decide) rfl dL_agree_288 ?_
          refine lr_iconst hO 290 (v := 0) (by decide) dL_agree_290 ?_
          refine lr_istore hO 291 (v := 0) rfl (lv' := [(5, .int 0), (4, .int 0), (0, .ref (X.1 18 0)), (2, .int v21)]) hn (by decide) rfl dL_agree_291 ?_
          obtain ⟨K26, e_K26, h⟩ := of_lt h
          have K26_T : ∀ (v27 : Int32) (μ28 : mT), K26 v27 μ28 = some (r, μ') → lj X [(60, r2)] 1 Γ μ28 395 [(0, .ref (X.1 18 0)), (4, .int v27)] [] := by
            intro v27 μ28 h
            rw [e_K26] at h
            refine lr_iload hO 395 1 rfl dL_agree_395 ?_
            refine lr_aload_n hO 397 0 rfl dL_agree_397 ?_
            refine lr_iconst hO 398 (v := 5) (by decide) dL_agree_398 ?_
            obtain ⟨v29, μa_μ30, μ30, hcall, e_μ30, h⟩ := of_bm h
            refine lr_callI hO 399 (na := 1) (As := [.int 5]) (st := [.int v27]) (c_X7_count hX hcall) e_μ30 rfl wM_L_8 wI_X7_count wS_X7_count wN_X7 wC_X7_count (by decide +kernel) rfl (by decide) (by decide) (Nat.le_of_ble_eq_true rfl) (by decide) dL_agree_399 ?_
            refine lr_icmp_ne hO 402 409 (by decide) dL_agree_402 (fun hc => ?_) (fun hc => ?_)
            · have h := of_f hc h
              refine lr_iconst hO 409 (v := 0) (by decide) dL_agree_409 ?_
              cases h
              exact lr_iret hO 410 (by simp) (by decide) hQ (by decide) dL_agree_410
            · have h := of_t hc h
              refine lr_iconst hO 405 (v := 1) (by decide) dL_agree_405 ?_
              refine lr_goto hO 406 410 (by decide) dL_agree_406 ?_
              cases h
              exact lr_iret hO 410 (by simp) (by decide) hQ (by decide) dL_agree_410
          have L293_T : ∀ (n : Nat) (v23 : Int32) (v24 : Int32) (μ25 : mT), f_L_agree_L293 v21 K26 n v23 v24 μ25 = some (r, μ') → lj X [(60, r2)] 1 Γ μ25 293 [(0, .ref (X.1 18 0)), (2, .int v21), (4, .int v23), (5, .int v24)] [] := by
            intro n
            induction n with
            | zero =>
              intro v23 v24 μ25 h
              rw [f_L_agree_L293] at h
              cases h
            | succ n ih =>
              intro v23 v24 μ25 h
              rw [f_L_agree_L293] at h
              refine lr_iload hO 293 3 rfl dL_agree_293 ?_
              refine lr_aload_n hO 295 0 rfl dL_agree_295 ?_
              refine lr_iconst hO 296 (v := 2) (by decide) dL_agree_296 ?_
              obtain ⟨v31, μa_μ32, μ32, hcall, e_μ32, h⟩ := of_bm h
              refine lr_callI hO 297 (na := 1) (As := [.int 2]) (st := [.int v24]) (c_X7_count hX hcall) e_μ32 rfl wM_L_8 wI_X7_count wS_X7_count wN_X7 wC_X7_count (by decide +kernel) rfl (by decide) (by decide) (Nat.le_of_ble_eq_true rfl) (by decide) dL_agree_297 ?_
              refine lr_icmp_ge hO 300 395 (by decide) dL_agree_300 (fun hc => ?_) (fun hc => ?_)
              · have h := of_t hc h
                refine lr_sub [0, 2] rfl ?_
                exact K26_T _ _ h
              · have h := of_f hc h
                refine lr_aload_n hO 303 0 rfl dL_agree_303 ?_
                refine lr_iload hO 304 3 rfl dL_agree_304 ?_
                refine lr_iconst hO 306 (v := 4) (by decide) dL_agree_306 ?_
                obtain ⟨v33, μa_μ34, μ34, hcall, e_μ34, h⟩ := of_bm h
                refine lr_callI hO 307 (na := 2) (As := [.int v24, .int 4]) (st := []) (c_X7_ofWagon hX hcall) e_μ34 rfl wM_L_21 wI_X7_ofWagon wS_X7_ofWagon wN_X7 wC_X7_ofWagon (by decide +kernel) rfl (by decide) (by decide) (Nat.le_of_ble_eq_true rfl) (by decide) dL_agree_307 ?_
                obtain ⟨J35, e_J35, h⟩ := of_lt h
                have J35_T : ∀ (v36 : Int32) (μ37 : mT), J35 v36 μ37 = some (r, μ') → lj X [(60, r2)] 1 Γ μ37 318 [(0, .ref (X.1 18 0)), (2, .int v21), (4, .int v23), (5, .int v24)] [.int v36] := by
                  intro v36 μ37 h
                  rw [e_J35] at h
                  refine lr_istore hO 318 (v := v36) rfl (lv' := [(6, .int v36), (0, .ref (X.1 18 0)), (2, .int v21), (4, .int v23), (5, .int v24)]) hn (by decide) rfl dL_agree_318 ?_
                  refine lr_iload hO 320 3 rfl dL_agree_320 ?_
                  refine lr_iload hO 322 0 rfl dL_agree_322 ?_
                  obtain ⟨J38, e_J38, h⟩ := of_lt h
                  have J38_T : ∀ (v39 : Int32) (μ40 : mT), J38 v39 μ40 = some (r, μ') → lj X [(60, r2)] 1 Γ μ40 332 [(0, .ref (X.1 18 0)), (2, .int v21), (5, .int v24), (6, .int v36)] [.int v39, .int v23] := by
                    intro v39 μ40 h
                    rw [e_J38] at h
                    refine lr_iadd hO 332 dL_agree_332 ?_
                    obtain ⟨v41, e_v41, h⟩ := of_lt h
                    refine lr_istore hO 333 (v := v41) e_v41 (lv' := [(4, .int v41), (0, .ref (X.1 18 0)), (2, .int v21), (5, .int v24), (6, .int v36)]) hn (by decide) rfl dL_agree_333 ?_
                    refine lr_iload hO 335 4 rfl dL_agree_335 ?_
                    refine lr_iload_n hO 337 2 rfl dL_agree_337 ?_
                    refine lr_iload hO 338 3 rfl dL_agree_338 ?_
                    refine lr_ishr hO 340 dL_agree_340 ?_
                    refine lr_iconst hO 341 (v := 1) (by decide) dL_agree_341 ?_
                    refine lr_iand hO 342 dL_agree_342 ?_
                    refine lr_iconst hO 343 (v := 1) (by decide) dL_agree_343 ?_
                    obtain ⟨J42, e_J42, h⟩ := of_lt h
                    have J42_T : ∀ (v43 : Int32) (μ44 : mT), J42 v43 μ44 = some (r, μ') → lj X [(60, r2)] 1 Γ μ44 352 [(0, .ref (X.1 18 0)), (2, .int v21), (4, .int v41), (5, .int v24), (6, .int v36)] [.int v43, .int v36] := by
                      intro v43 μ44 h
                      rw [e_J42] at h
                      refine lr_icmp_eq hO 352 387 (by decide) dL_agree_352 (fun hc => ?_) (fun hc => ?_)
                      · have h := of_t hc h
                        refine lr_iconst hO 387 (v := 0) (by decide) dL_agree_387 ?_
                        cases h
                        exact lr_iret hO 388 (by simp) (by decide) hQ (by decide) dL_agree_388
                      · have h := of_f hc h
                        refine lr_iload hO 355 4 rfl dL_agree_355 ?_
                        obtain ⟨J45, e_J45, h⟩ := of_lt h
                        have J45_T : ∀ (μ46 : mT), J45 μ46 = some (r, μ') → lj X [(60, r2)] 1 Γ μ46 389 [(0, .ref (X.1 18 0)), (2, .int v21), (4, .int v41), (5, .int v24)] [] := by
                          intro μ46 h
                          rw [e_J45] at h
                          obtain ⟨v47, e_v47, h⟩ := of_lt h
                          refine lr_iinc hO 389 (q := 3) (v := v47) (lv' := [(5, .int v47), (0, .ref (X.1 18 0)), (2, .int v21), (4, .int v41)]) hn rfl (by rw [e_v47]; rfl) (by decide) rfl dL_agree_389 ?_
                          refine lr_goto hO 392 293 (by decide) dL_agree_392 ?_
                          refine lr_sub [1, 2, 3, 0] rfl ?_
                          exact ih _ _ _ h
                        refine lr_if_eq hO 357 389 (by decide) dL_agree_357 (fun hc => ?_) (fun hc => ?_)
                        · have h := of_t hc h
                          refine lr_sub [0, 1, 2, 3] rfl ?_
                          exact J45_T _ h
                        · have h := of_f hc h
                          refine lr_aload_n hO 360 0 rfl dL_agree_360 ?_
                          refine lr_iload hO 361 3 rfl dL_agree_361 ?_
                          refine lr_iconst hO 363 (v := 2) (by decide) dL_agree_363 ?_
                          obtain ⟨v48, μa_μ49, μ49, hcall, e_μ49, h⟩ := of_bm h
                          refine lr_callI hO 364 (na := 2) (As := [.int v24, .int 2]) (st := []) (c_X7_ofWagon hX hcall) e_μ49 rfl wM_L_21 wI_X7_ofWagon wS_X7_ofWagon wN_X7 wC_X7_ofWagon (by decide +kernel) rfl (by decide) (by decide) (Nat.le_of_ble_eq_true rfl) (by decide) dL_agree_364 ?_
                          refine lr_bipush hO 367 (v := (-6)) (by decide) dL_agree_367 ?_
                          refine lr_icmp_ne hO 369 387 (by decide) dL_agree_369 (fun hc => ?_) (fun hc => ?_)
                          · have h := of_f hc h
                            refine lr_iconst hO 387 (v := 0) (by decide) dL_agree_387 ?_
                            cases h
                            exact lr_iret hO 388 (by simp) (by decide) hQ (by decide) dL_agree_388
                          · have h := of_t hc h
                            refine lr_aload_n hO 372 0 rfl dL_agree_372 ?_
                            refine lr_iload hO 373 3 rfl dL_agree_373 ?_
                            refine lr_iconst hO 375 (v := 4) (by decide) dL_agree_375 ?_
                            obtain ⟨v50, μa_μ51, μ51, hcall, e_μ51, h⟩ := of_bm h
                            refine lr_callI hO 376 (na := 2) (As := [.int v24, .int 4]) (st := []) (c_X7_ofWagon hX hcall) e_μ51 rfl wM_L_21 wI_X7_ofWagon wS_X7_ofWagon wN_X7 wC_X7_ofWagon (by decide +kernel) rfl (by decide) (by decide) (Nat.le_of_ble_eq_true rfl) (by decide) dL_agree_376 ?_
                            refine lr_aload_n hO 379 0 rfl dL_agree_379 ?_
                            refine lr_iconst hO 380 (v := 0) (by decide) dL_agree_380 ?_
                            obtain ⟨v52, μa_μ53, μ53, hcall, e_μ53, h⟩ := of_bm h
                            refine lr_callI hO 381 (na := 1) (As := [.int 0]) (st := [.int v50]) (c_X7_count hX hcall) e_μ53 rfl wM_L_8 wI_X7_count wS_X7_count wN_X7 wC_X7_count (by decide +kernel) rfl (by decide) (by decide) (Nat.le_of_ble_eq_true rfl) (by decide) dL_agree_381 ?_
                            refine lr_icmp_le hO 384 389 (by decide) dL_agree_384 (fun hc => ?_) (fun hc => ?_)
                            · have h := of_t hc h
                              refine lr_sub [0, 1, 2, 3] rfl ?_
                              exact J45_T _ h
                            · have h := of_f hc h
                              refine lr_iconst hO 387 (v := 0) (by decide) dL_agree_387 ?_
                              cases h
                              exact lr_iret hO 388 (by simp) (by decide) hQ (by decide) dL_agree_388
                    refine lr_icmp_ne hO 344 351 (by decide) dL_agree_344 (fun hc => ?_) (fun hc => ?_)
                    · have h := of_f hc h
                      refine lr_iconst hO 351 (v := 0) (by decide) dL_agree_351 ?_
                      refine lr_sub [1, 2, 0, 3, 4] rfl ?_
                      exact J42_T _ _ h
                    · have h := of_t hc h
                      refine lr_iconst hO 347 (v := 1) (by decide) dL_agree_347 ?_
                      refine lr_goto hO 348 352 (by decide) dL_agree_348 ?_
                      refine lr_sub [1, 2, 0, 3, 4] rfl ?_
                      exact J42_T _ _ h
                  refine lr_if_eq hO 324 331 (by decide) dL_agree_324 (fun hc => ?_) (fun hc => ?_)
                  · have h := of_t hc h
                    refine lr_iconst hO 331 (v := 0) (by decide) dL_agree_331 ?_
                    refine lr_sub [1, 2, 4, 0] rfl ?_
                    exact J38_T _ _ h
                  · have h := of_f hc h
                    refine lr_iconst hO 327 (v := 1) (by decide) dL_agree_327 ?_
                    refine lr_goto hO 328 332 (by decide) dL_agree_328 ?_
                    refine lr_sub [1, 2, 4, 0] rfl ?_
                    exact J38_T _ _ h
                refine lr_if_lt hO 310 317 (by decide) dL_agree_310 (fun hc => ?_) (fun hc => ?_)
                · have h := of_t hc h
                  refine lr_iconst hO 317 (v := 0) (by decide) dL_agree_317 ?_
                  exact J35_T _ _ h
                · have h := of_f hc h
                  refine lr_iconst hO 313 (v := 1) (by decide) dL_agree_313 ?_
                  refine lr_goto hO 314 318 (by decide) dL_agree_314 ?_
                  exact J35_T _ _ h
          refine lr_sub [2, 3, 1, 0] rfl ?_
          exact L293_T _ _ _ _ h
        have L126_T : ∀ (n : Nat) (v17 : Int32) (v18 : Int32) (μ19 : mT), f_L_agree_L126 K20 n v17 v18 μ19 = some (r, μ') → lj X [(60, r2)] 1 Γ μ19 126 [(0, .ref (X.1 18 0)), (1, .ref r2), (2, .int v17), (4, .int v18)] [] := by
          intro n
          induction n with
          | zero =>
            intro v17 v18 μ19 h
            rw [f_L_agree_L126] at h
            cases h
          | succ n ih =>
            intro v17 v18 μ19 h
            rw [f_L_agree_L126] at h
            refine lr_iload hO 126 3 rfl dL_agree_126 ?_
            refine lr_aload_n hO 128 0 rfl dL_agree_128 ?_
            refine lr_iconst hO 129 (v := 1) (by decide) dL_agree_129 ?_
            obtain ⟨v54, μa_μ55, μ55, hcall, e_μ55, h⟩ := of_bm h
            refine lr_callI hO 130 (na := 1) (As := [.int 1]) (st := [.int v18]) (c_X7_count hX hcall) e_μ55 rfl wM_L_8 wI_X7_count wS_X7_count wN_X7 wC_X7_count (by decide +kernel) rfl (by decide) (by decide) (Nat.le_of_ble_eq_true rfl) (by decide) dL_agree_130 ?_
            refine lr_icmp_ge hO 133 287 (by decide) dL_agree_133 (fun hc => ?_) (fun hc => ?_)
            · have h := of_t hc h
              refine lr_sub [0, 2] rfl ?_
              exact K20_T _ _ h
            · have h := of_f hc h
              refine lr_aload_n hO 136 0 rfl dL_agree_136 ?_
              refine lr_iload hO 137 3 rfl dL_agree_137 ?_
              refine lr_aload_n hO 139 1 rfl dL_agree_139 ?_
              obtain ⟨v56, μ57, hcall, h⟩ := of_bd h
              refine lr_callS hO 140 (na := 3) (mc := 0) (As := [.ref (X.1 18 0), .int v18, .ref r2]) (st := []) (c_L_row hX (ia := 0) rfl hcall) rfl wM_L_24 wT_L_row wN_L wC_L_row (by decide +kernel) rfl (by decide) (by decide) (Nat.le_of_ble_eq_true rfl) (by decide) dL_agree_140 ?_
              refine lr_istore hO 143 (v := v56) rfl (lv' := [(5, .int v56), (0, .ref (X.1 18 0)), (1, .ref r2), (2, .int v17), (4, .int v18)]) hn (by decide) rfl dL_agree_143 ?_
              refine lr_iload hO 145 0 rfl dL_agree_145 ?_
              refine lr_if_lt hO 147 185 (by decide) dL_agree_147 (fun hc => ?_) (fun hc => ?_)
              · have h := of_t hc h
                refine lr_iconst hO 185 (v := 0) (by decide) dL_agree_185 ?_
                cases h
                exact lr_iret hO 186 (by simp) (by decide) hQ (by decide) dL_agree_186
              · have h := of_f hc h
                refine lr_aload_n hO 150 1 rfl dL_agree_150 ?_
                refine lr_aload_n hO 151 2 rfl dL_agree_151 ?_
                refine lr_iconst hO 152 (v := 0) (by decide) dL_agree_152 ?_
                refine lr_iload hO 153 0 rfl dL_agree_153 ?_
                obtain ⟨v58, μ59, hcall, h⟩ := of_bd h
                refine lr_callS hO 155 (na := 4) (mc := 0) (As := [.ref (X.1 18 0), .ref r2, .int 0, .int v56]) (st := []) (c_L_lengths hX (ia := 0) rfl hcall) rfl wM_L_30 wT_L_lengths wN_L wC_L_lengths (by decide +kernel) rfl (by decide) (by decide) (Nat.le_of_ble_eq_true rfl) (by decide) dL_agree_155 ?_
                refine lr_aload_n hO 158 1 rfl dL_agree_158 ?_
                refine lr_iload hO 159 4 rfl dL_agree_159 ?_
                refine lr_iconst hO 161 (v := 2) (by decide) dL_agree_161 ?_
                obtain ⟨v60, μa_μ61, μ61, hcall, e_μ61, h⟩ := of_bm h
                refine lr_callI hO 162 (na := 2) (As := [.int v18, .int 2]) (st := [.int v58]) (c_X7_ofTrack hX hcall) e_μ61 rfl wM_L_14 wI_X7_ofTrack wS_X7_ofTrack wN_X7 wC_X7_ofTrack (by decide +kernel) rfl (by decide) (by decide) (Nat.le_of_ble_eq_true rfl) (by decide) dL_agree_162 ?_
                refine lr_icmp_ne hO 165 185 (by decide) dL_agree_165 (fun hc => ?_) (fun hc => ?_)
                · have h := of_f hc h
                  refine lr_iconst hO 185 (v := 0) (by decide) dL_agree_185 ?_
                  cases h
                  exact lr_iret hO 186 (by simp) (by decide) hQ (by decide) dL_agree_186
                · have h := of_t hc h
                  refine lr_aload_n hO 168 1 rfl dL_agree_168 ?_
                  refine lr_iload hO 169 4 rfl dL_agree_169 ?_
                  refine lr_iconst hO 171 (v := 2) (by decide) dL_agree_171 ?_
                  obtain ⟨v62, μa_μ63, μ63, hcall, e_μ63, h⟩ := of_bm h
                  refine lr_callI hO 172 (na := 2) (As := [.int v18, .int 2]) (st := []) (c_X7_ofTrack hX hcall) e_μ63 rfl wM_L_14 wI_X7_ofTrack wS_X7_ofTrack wN_X7 wC_X7_ofTrack (by decide +kernel) rfl (by decide) (by decide) (Nat.le_of_ble_eq_true rfl) (by decide) dL_agree_172 ?_
                  refine lr_aload_n hO 175 1 rfl dL_agree_175 ?_
                  refine lr_iload hO 176 4 rfl dL_agree_176 ?_
                  refine lr_iconst hO 178 (v := 0) (by decide) dL_agree_178 ?_
                  obtain ⟨v64, μa_μ65, μ65, hcall, e_μ65, h⟩ := of_bm h
                  refine lr_callI hO 179 (na := 2) (As := [.int v18, .int 0]) (st := [.int v62]) (c_X7_ofTrack hX hcall) e_μ65 rfl wM_L_14 wI_X7_ofTrack wS_X7_ofTrack wN_X7 wC_X7_ofTrack (by decide +kernel) rfl (by decide) (by decide) (Nat.le_of_ble_eq_true rfl) (by decide) dL_agree_179 ?_
                  refine lr_icmp_le hO 182 187 (by decide) dL_agree_182 (fun hc => ?_) (fun hc => ?_)
                  · have h := of_t hc h
                    refine lr_iconst hO 187 (v := 0) (by decide) dL_agree_187 ?_
                    refine lr_istore hO 188 (v := 0) rfl (lv' := [(6, .int 0), (5, .int v56), (0, .ref (X.1 18 0)), (1, .ref r2), (2, .int v17), (4, .int v18)]) hn (by decide) rfl dL_agree_188 ?_
                    obtain ⟨K69, e_K69, h⟩ := of_lt h
                    have K69_T : ∀ (v70 : Int32) (μ71 : mT), K69 v70 μ71 = some (r, μ') → lj X [(60, r2)] 1 Γ μ71 281 [(0, .ref (X.1 18 0)), (1, .ref r2), (2, .int v70), (4, .int v18)] [] := by
                      intro v70 μ71 h
                      rw [e_K69] at h
                      obtain ⟨v72, e_v72, h⟩ := of_lt h
                      refine lr_iinc hO 281 (q := 3) (v := v72) (lv' := [(4, .int v72), (0, .ref (X.1 18 0)), (1, .ref r2), (2, .int v70)]) hn rfl (by rw [e_v72]; rfl) (by decide) rfl dL_agree_281 ?_
                      refine lr_goto hO 284 126 (by decide) dL_agree_284 ?_
                      refine lr_sub [1, 2, 3, 0] rfl ?_
                      exact ih _ _ _ h
                    have L190_T : ∀ (n : Nat) (v66 : Int32) (v67 : Int32) (μ68 : mT), f_L_agree_L190 v18 v56 K69 n v66 v67 μ68 = some (r, μ') → lj X [(60, r2)] 1 Γ μ68 190 [(0, .ref (X.1 18 0)), (1, .ref r2), (2, .int v66), (4, .int v18), (5, .int v56), (6, .int v67)] [] := by
                      intro n
                      induction n with
                      | zero =>
                        intro v66 v67 μ68 h
                        rw [f_L_agree_L190] at h
                        cases h
                      | succ n ih =>
                        intro v66 v67 μ68 h
                        rw [f_L_agree_L190] at h
                        refine lr_iload hO 190 5 rfl dL_agree_190 ?_
                        refine lr_iload hO 192 4 rfl dL_agree_192 ?_
                        refine lr_icmp_ge hO 194 281 (by decide) dL_agree_194 (fun hc => ?_) (fun hc => ?_)
                        · have h := of_t hc h
                          refine lr_sub [0, 1, 2, 3] rfl ?_
                          exact K69_T _ _ h
                        · have h := of_f hc h
                          refine lr_iload_n hO 197 2 rfl dL_agree_197 ?_
                          refine lr_aload_n hO 198 1 rfl dL_agree_198 ?_
                          refine lr_iload hO 199 5 rfl dL_agree_199 ?_
                          obtain ⟨hg, h⟩ := of_gd h
                          refine lr_iald hO 201 (κ := 60) (a := r2) (ia := 0) rfl hg dL_agree_201 ?_
                          refine lr_ishr hO 202 dL_agree_202 ?_
                          refine lr_iconst hO 203 (v := 1) (by decide) dL_agree_203 ?_
                          refine lr_iand hO 204 dL_agree_204 ?_
                          refine lr_iconst hO 205 (v := 1) (by decide) dL_agree_205 ?_
                          refine lr_icmp_eq hO 206 264 (by decide) dL_agree_206 (fun hc => ?_) (fun hc => ?_)
                          · have h := of_t hc h
                            refine lr_iconst hO 264 (v := 0) (by decide) dL_agree_264 ?_
                            cases h
                            exact lr_iret hO 265 (by simp) (by decide) hQ (by decide) dL_agree_265
                          · have h := of_f hc h
                            refine lr_aload_n hO 209 0 rfl dL_agree_209 ?_
                            refine lr_aload_n hO 210 1 rfl dL_agree_210 ?_
                            refine lr_iload hO 211 5 rfl dL_agree_211 ?_
                            obtain ⟨hg, h⟩ := of_gd h
                            refine lr_iald hO 213 (κ := 60) (a := r2) (ia := 0) rfl hg dL_agree_213 ?_
                            refine lr_iconst hO 214 (v := 1) (by decide) dL_agree_214 ?_
                            obtain ⟨v73, μa_μ74, μ74, hcall, e_μ74, h⟩ := of_bm h
                            refine lr_callI hO 215 (na := 2) (As := [.int (μ68 60 0 v67.toNatClampNeg), .int 1]) (st := []) (c_X7_ofWagon hX hcall) e_μ74 rfl wM_L_21 wI_X7_ofWagon wS_X7_ofWagon wN_X7 wC_X7_ofWagon (by decide +kernel) rfl (by decide) (by decide) (Nat.le_of_ble_eq_true rfl) (by decide) dL_agree_215 ?_
                            refine lr_iload hO 218 3 rfl dL_agree_218 ?_
                            refine lr_icmp_ne hO 220 264 (by decide) dL_agree_220 (fun hc => ?_) (fun hc => ?_)
                            · have h := of_f hc h
                              refine lr_iconst hO 264 (v := 0) (by decide) dL_agree_264 ?_
                              cases h
                              exact lr_iret hO 265 (by simp) (by decide) hQ (by decide) dL_agree_265
                            · have h := of_t hc h
                              refine lr_aload_n hO 223 0 rfl dL_agree_223 ?_
                              refine lr_aload_n hO 224 1 rfl dL_agree_224 ?_
                              refine lr_iload hO 225 5 rfl dL_agree_225 ?_
                              obtain ⟨hg, h⟩ := of_gd h
                              refine lr_iald hO 227 (κ := 60) (a := r2) (ia := 0) rfl hg dL_agree_227 ?_
                              refine lr_iconst hO 228 (v := 2) (by decide) dL_agree_228 ?_
                              obtain ⟨v75, μa_μ76, μ76, hcall, e_μ76, h⟩ := of_bm h
                              refine lr_callI hO 229 (na := 2) (As := [.int (μ74 60 0 v67.toNatClampNeg), .int 2]) (st := []) (c_X7_ofWagon hX hcall) e_μ76 rfl wM_L_21 wI_X7_ofWagon wS_X7_ofWagon wN_X7 wC_X7_ofWagon (by decide +kernel) rfl (by decide) (by decide) (Nat.le_of_ble_eq_true rfl) (by decide) dL_agree_229 ?_
                              refine lr_iload hO 232 5 rfl dL_agree_232 ?_
                              refine lr_icmp_ne hO 234 264 (by decide) dL_agree_234 (fun hc => ?_) (fun hc => ?_)
                              · have h := of_f hc h
                                refine lr_iconst hO 264 (v := 0) (by decide) dL_agree_264 ?_
                                cases h
                                exact lr_iret hO 265 (by simp) (by decide) hQ (by decide) dL_agree_265
                              · have h := of_t hc h
                                refine lr_aload_n hO 237 0 rfl dL_agree_237 ?_
                                refine lr_aload_n hO 238 1 rfl dL_agree_238 ?_
                                refine lr_iload hO 239 5 rfl dL_agree_239 ?_
                                obtain ⟨hg, h⟩ := of_gd h
                                refine lr_iald hO 241 (κ := 60) (a := r2) (ia := 0) rfl hg dL_agree_241 ?_
                                refine lr_iconst hO 242 (v := 3) (by decide) dL_agree_242 ?_
                                obtain ⟨v77, μa_μ78, μ78, hcall, e_μ78, h⟩ := of_bm h
                                refine lr_callI hO 243 (na := 2) (As := [.int (μ76 60 0 v67.toNatClampNeg), .int 3]) (st := []) (c_X7_ofWagon hX hcall) e_μ78 rfl wM_L_21 wI_X7_ofWagon wS_X7_ofWagon wN_X7 wC_X7_ofWagon (by decide +kernel) rfl (by decide) (by decide) (Nat.le_of_ble_eq_true rfl) (by decide) dL_agree_243 ?_
                                refine lr_if_ne hO 246 264 (by decide) dL_agree_246 (fun hc => ?_) (fun hc => ?_)
                                · have h := of_f hc h
                                  refine lr_iconst hO 264 (v := 0) (by decide) dL_agree_264 ?_
                                  cases h
                                  exact lr_iret hO 265 (by simp) (by decide) hQ (by decide) dL_agree_265
                                · have h := of_t hc h
                                  refine lr_aload_n hO 249 0 rfl dL_agree_249 ?_
                                  refine lr_aload_n hO 250 1 rfl dL_agree_250 ?_
                                  refine lr_iload hO 251 5 rfl dL_agree_251 ?_
                                  obtain ⟨hg, h⟩ := of_gd h
                                  refine lr_iald hO 253 (κ := 60) (a := r2) (ia := 0) rfl hg dL_agree_253 ?_
                                  refine lr_bipush hO 254 (v := 7) (by decide) dL_agree_254 ?_
                                  obtain ⟨v79, μa_μ80, μ80, hcall, e_μ80, h⟩ := of_bm h
                                  refine lr_callI hO 256 (na := 2) (As := [.int (μ78 60 0 v67.toNatClampNeg), .int 7]) (st := []) (c_X7_ofWagon hX hcall) e_μ80 rfl wM_L_21 wI_X7_ofWagon wS_X7_ofWagon wN_X7 wC_X7_ofWagon (by decide +kernel) rfl (by decide) (by decide) (Nat.le_of_ble_eq_true rfl) (by decide) dL_agree_256 ?_
                                  refine lr_iload hO 259 5 rfl dL_agree_259 ?_
                                  refine lr_icmp_eq hO 261 266 (by decide) dL_agree_261 (fun hc => ?_) (fun hc => ?_)
                                  · have h := of_t hc h
                                    refine lr_iload_n hO 266 2 rfl dL_agree_266 ?_
                                    refine lr_iconst hO 267 (v := 1) (by decide) dL_agree_267 ?_
                                    refine lr_aload_n hO 268 1 rfl dL_agree_268 ?_
                                    refine lr_iload hO 269 5 rfl dL_agree_269 ?_
                                    obtain ⟨hg, h⟩ := of_gd h
                                    refine lr_iald hO 271 (κ := 60) (a := r2) (ia := 0) rfl hg dL_agree_271 ?_
                                    refine lr_ishl hO 272 dL_agree_272 ?_
                                    refine lr_ior hO 273 dL_agree_273 ?_
                                    obtain ⟨v81, e_v81, h⟩ := of_lt h
                                    refine lr_istore_n hO 274 (v := v81) e_v81 (lv' := [(2, .int v81), (0, .ref (X.1 18 0)), (1, .ref r2), (4, .int v18), (5, .int v56), (6, .int v67)]) hn rfl (by decide) rfl dL_agree_274 ?_
                                    obtain ⟨v82, e_v82, h⟩ := of_lt h
                                    refine lr_iinc hO 275 (q := 5) (v := v82) (lv' := [(6, .int v82), (2, .int v81), (0, .ref (X.1 18 0)), (1, .ref r2), (4, .int v18), (5, .int v56)]) hn rfl (by rw [e_v82]; rfl) (by decide) rfl dL_agree_275 ?_
                                    refine lr_goto hO 278 190 (by decide) dL_agree_278 ?_
                                    refine lr_sub [2, 3, 1, 4, 5, 0] rfl ?_
                                    exact ih _ _ _ h
                                  · have h := of_f hc h
                                    refine lr_iconst hO 264 (v := 0) (by decide) dL_agree_264 ?_
                                    cases h
                                    exact lr_iret hO 265 (by simp) (by decide) hQ (by decide) dL_agree_265
                    refine lr_sub [2, 3, 4, 5, 1, 0] rfl ?_
                    exact L190_T _ _ _ _ h
                  · have h := of_f hc h
                    refine lr_iconst hO 185 (v := 0) (by decide) dL_agree_185 ?_
                    cases h
                    exact lr_iret hO 186 (by simp) (by decide) hQ (by decide) dL_agree_186
        refine lr_sub [1, 2, 3, 0] rfl ?_
        exact L126_T _ _ _ _ h
      have L44_T : ∀ (n : Nat) (v11 : Int32) (v12 : Int32) (μ13 : mT), f_L_agree_L44 v3 K14 n v11 v12 μ13 = some (r, μ') → lj X [(60, r2)] 1 Γ μ13 44 [(0, .ref (X.1 18 0)), (1, .ref r2), (2, .int v11), (3, .int v3), (4, .int v12)] [] := by
        intro n
        induction n with
        | zero =>
          intro v11 v12 μ13 h
          rw [f_L_agree_L44] at h
          cases h
        | succ n ih =>
          intro v11 v12 μ13 h
          rw [f_L_agree_L44] at h
          refine lr_iload hO 44 4 rfl dL_agree_44 ?_
          refine lr_iload_n hO 46 3 rfl dL_agree_46 ?_
          refine lr_icmp_ge hO 47 123 (by decide) dL_agree_47 (fun hc => ?_) (fun hc => ?_)
          · have h := of_t hc h
            refine lr_sub [0, 1, 2] rfl ?_
            exact K14_T _ _ h
          · have h := of_f hc h
            refine lr_iload_n hO 50 2 rfl dL_agree_50 ?_
            refine lr_iconst hO 51 (v := 1) (by decide) dL_agree_51 ?_
            refine lr_aload_n hO 52 1 rfl dL_agree_52 ?_
            refine lr_iload hO 53 4 rfl dL_agree_53 ?_
            obtain ⟨hg, h⟩ := of_gd h
            refine lr_iald hO 55 (κ := 60) (a := r2) (ia := 0) rfl hg dL_agree_55 ?_
            refine lr_ishl hO 56 dL_agree_56 ?_
            refine lr_ior hO 57 dL_agree_57 ?_
            obtain ⟨v83, e_v83, h⟩ := of_lt h
            refine lr_istore_n hO 58 (v := v83) e_v83 (lv' := [(2, .int v83), (0, .ref (X.1 18 0)), (1, .ref r2), (3, .int v3), (4, .int v12)]) hn rfl (by decide) rfl dL_agree_58 ?_
            refine lr_aload_n hO 59 1 rfl dL_agree_59 ?_
            refine lr_aload_n hO 60 2 rfl dL_agree_60 ?_
            refine lr_iload hO 61 4 rfl dL_agree_61 ?_
            obtain ⟨hg, h⟩ := of_gd h
            refine lr_iald hO 63 (κ := 60) (a := r2) (ia := 0) rfl hg dL_agree_63 ?_
            refine lr_iconst hO 64 (v := 1) (by decide) dL_agree_64 ?_
            obtain ⟨v84, μa_μ85, μ85, hcall, e_μ85, h⟩ := of_bm h
            refine lr_callI hO 65 (na := 2) (As := [.int (μ13 60 0 v12.toNatClampNeg), .int 1]) (st := []) (c_X7_ofWagon hX hcall) e_μ85 rfl wM_L_21 wI_X7_ofWagon wS_X7_ofWagon wN_X7 wC_X7_ofWagon (by decide +kernel) rfl (by decide) (by decide) (Nat.le_of_ble_eq_true rfl) (by decide) dL_agree_65 ?_
            refine lr_bipush hO 68 (v := (-6)) (by decide) dL_agree_68 ?_
            refine lr_icmp_ne hO 70 115 (by decide) dL_agree_70 (fun hc => ?_) (fun hc => ?_)
            · have h := of_f hc h
              refine lr_iconst hO 115 (v := 0) (by decide) dL_agree_115 ?_
              cases h
              exact lr_iret hO 116 (by simp) (by decide) hQ (by decide) dL_agree_116
            · have h := of_t hc h
              refine lr_aload_n hO 73 1 rfl dL_agree_73 ?_
              refine lr_aload_n hO 74 2 rfl dL_agree_74 ?_
              refine lr_iload hO 75 4 rfl dL_agree_75 ?_
              obtain ⟨hg, h⟩ := of_gd h
              refine lr_iald hO 77 (κ := 60) (a := r2) (ia := 0) rfl hg dL_agree_77 ?_
              refine lr_iconst hO 78 (v := 2) (by decide) dL_agree_78 ?_
              obtain ⟨v86, μa_μ87, μ87, hcall, e_μ87, h⟩ := of_bm h
              refine lr_callI hO 79 (na := 2) (As := [.int (μ85 60 0 v12.toNatClampNeg), .int 2]) (st := []) (c_X7_ofWagon hX hcall) e_μ87 rfl wM_L_21 wI_X7_ofWagon wS_X7_ofWagon wN_X7 wC_X7_ofWagon (by decide +kernel) rfl (by decide) (by decide) (Nat.le_of_ble_eq_true rfl) (by decide) dL_agree_79 ?_
              refine lr_iload hO 82 4 rfl dL_agree_82 ?_
              refine lr_icmp_ne hO 84 115 (by decide) dL_agree_84 (fun hc => ?_) (fun hc => ?_)
              · have h := of_f hc h
                refine lr_iconst hO 115 (v := 0) (by decide) dL_agree_115 ?_
                cases h
                exact lr_iret hO 116 (by simp) (by decide) hQ (by decide) dL_agree_116
              · have h := of_t hc h
                refine lr_aload_n hO 87 1 rfl dL_agree_87 ?_
                refine lr_aload_n hO 88 2 rfl dL_agree_88 ?_
                refine lr_iload hO 89 4 rfl dL_agree_89 ?_
                obtain ⟨hg, h⟩ := of_gd h
                refine lr_iald hO 91 (κ := 60) (a := r2) (ia := 0) rfl hg dL_agree_91 ?_
                refine lr_iconst hO 92 (v := 3) (by decide) dL_agree_92 ?_
                obtain ⟨v88, μa_μ89, μ89, hcall, e_μ89, h⟩ := of_bm h
                refine lr_callI hO 93 (na := 2) (As := [.int (μ87 60 0 v12.toNatClampNeg), .int 3]) (st := []) (c_X7_ofWagon hX hcall) e_μ89 rfl wM_L_21 wI_X7_ofWagon wS_X7_ofWagon wN_X7 wC_X7_ofWagon (by decide +kernel) rfl (by decide) (by decide) (Nat.le_of_ble_eq_true rfl) (by decide) dL_agree_93 ?_
                refine lr_iconst hO 96 (v := 1) (by decide) dL_agree_96 ?_
                refine lr_icmp_ne hO 97 115 (by decide) dL_agree_97 (fun hc => ?_) (fun hc => ?_)
                · have h := of_f hc h
                  refine lr_iconst hO 115 (v := 0) (by decide) dL_agree_115 ?_
                  cases h
                  exact lr_iret hO 116 (by simp) (by decide) hQ (by decide) dL_agree_116
                · have h := of_t hc h
                  refine lr_aload_n hO 100 1 rfl dL_agree_100 ?_
                  refine lr_aload_n hO 101 2 rfl dL_agree_101 ?_
                  refine lr_iload hO 102 4 rfl dL_agree_102 ?_
                  obtain ⟨hg, h⟩ := of_gd h
                  refine lr_iald hO 104 (κ := 60) (a := r2) (ia := 0) rfl hg dL_agree_104 ?_
                  refine lr_bipush hO 105 (v := 7) (by decide) dL_agree_105 ?_
                  obtain ⟨v90, μa_μ91, μ91, hcall, e_μ91, h⟩ := of_bm h
                  refine lr_callI hO 107 (na := 2) (As := [.int (μ89 60 0 v12.toNatClampNeg), .int 7]) (st := []) (c_X7_ofWagon hX hcall) e_μ91 rfl wM_L_21 wI_X7_ofWagon wS_X7_ofWagon wN_X7 wC_X7_ofWagon (by decide +kernel) rfl (by decide) (by decide) (Nat.le_of_ble_eq_true rfl) (by decide) dL_agree_107 ?_
                  refine lr_bipush hO 110 (v := (-6)) (by decide) dL_agree_110 ?_
                  refine lr_icmp_eq hO 112 117 (by decide) dL_agree_112 (fun hc => ?_) (fun hc => ?_)
                  · have h := of_t hc h
                    obtain ⟨v92, e_v92, h⟩ := of_lt h
                    refine lr_iinc hO 117 (q := 4) (v := v92) (lv' := [(4, .int v92), (2, .int v83), (0, .ref (X.1 18 0)), (1, .ref r2), (3, .int v3)]) hn rfl (by rw [e_v92]; rfl) (by decide) rfl dL_agree_117 ?_
                    refine lr_goto hO 120 44 (by decide) dL_agree_120 ?_
                    refine lr_sub [2, 3, 1, 4, 0] rfl ?_
                    exact ih _ _ _ h
                  · have h := of_f hc h
                    refine lr_iconst hO 115 (v := 0) (by decide) dL_agree_115 ?_
                    cases h
                    exact lr_iret hO 116 (by simp) (by decide) hQ (by decide) dL_agree_116
      refine lr_sub [4, 3, 2, 1, 0] rfl ?_
      exact L44_T _ _ _ _ h
    · have h := of_f hc h
      refine lr_iconst hO 39 (v := 0) (by decide) dL_agree_39 ?_
      cases h
      exact lr_iret hO 40 (by simp) (by decide) hQ (by decide) dL_agree_40
set_option maxHeartbeats 4000000 in
set_option maxRecDepth 100000 in
theorem c_L_isTimed {X : xT} {Z : scT} (hX : xOK X) {as : aT} {a1 : Int32} {a2 : Int32} {a3 : Int32} {a4 : Int32} {a5 : Int32} {a6 : Int32} {a7 : Int32} {μ μ' : mT} {r : Int32} (h : f_L_isTimed a1 a2 a3 a4 a5 a6 a7 μ = some (r, μ')) : CL X Z as yL_isTimed cL_isTimed 8 .boolean 3 65 0 [.ref (X.1 18 0), .int a1, .int a2, .int a3, .int a4, .int a5, .int a6, .int a7] μ r μ' := by
  refine CL_of hX (by decide +kernel) (lv := [(0, .ref (X.1 18 0)), (1, .int a1), (2, .int a2), (3, .int a3), (4, .int a4), (5, .int a5), (6, .int a6), (7, .int a7)]) (Nat.le_of_ble_eq_true rfl) rfl (fun Γ hO hn hQ => ?_)
  have hO : OkY X Z RL cL_isTimed 3 65 0 Γ := hO
  unfold f_L_isTimed at h
  refine lr_aload_n hO 0 0 rfl dL_isTimed_0 ?_
  refine lr_iconst hO 1 (v := 0) (by decide) dL_isTimed_1 ?_
  obtain ⟨v1, μa_μ2, μ2, hcall, e_μ2, h⟩ := of_bm h
  refine lr_callI hO 2 (na := 1) (As := [.int 0]) (st := []) (c_X7_count hX hcall) e_μ2 rfl wM_L_8 wI_X7_count wS_X7_count wN_X7 wC_X7_count (by decide +kernel) rfl (by decide) (by decide) (Nat.le_of_ble_eq_true rfl) (by decide) dL_isTimed_2 ?_
  refine lr_iload_n hO 5 2 rfl dL_isTimed_5 ?_
  refine lr_iload_n hO 6 3 rfl dL_isTimed_6 ?_
  refine lr_iadd hO 7 dL_isTimed_7 ?_
  refine lr_icmp_ne hO 8 57 (by decide) dL_isTimed_8 (fun hc => ?_) (fun hc => ?_)
  · have h := of_f hc h
    refine lr_iconst hO 57 (v := 0) (by decide) dL_isTimed_57 ?_
    cases h
    exact lr_iret hO 58 (fun _ h => h) (by decide) hQ (by decide) dL_isTimed_58
  · have h := of_t hc h
    refine lr_aload_n hO 11 0 rfl dL_isTimed_11 ?_
    refine lr_bipush hO 12 (v := 9) (by decide) dL_isTimed_12 ?_
    obtain ⟨v3, μa_μ4, μ4, hcall, e_μ4, h⟩ := of_bm h
    refine lr_callI hO 14 (na := 1) (As := [.int 9]) (st := []) (c_X7_count hX hcall) e_μ4 rfl wM_L_8 wI_X7_count wS_X7_count wN_X7 wC_X7_count (by decide +kernel) rfl (by decide) (by decide) (Nat.le_of_ble_eq_true rfl) (by decide) dL_isTimed_14 ?_
    refine lr_iload hO 17 5 rfl dL_isTimed_17 ?_
    refine lr_iload hO 19 4 rfl dL_isTimed_19 ?_
    refine lr_iadd hO 21 dL_isTimed_21 ?_
    refine lr_icmp_ne hO 22 57 (by decide) dL_isTimed_22 (fun hc => ?_) (fun hc => ?_)
    · have h := of_f hc h
      refine lr_iconst hO 57 (v := 0) (by decide) dL_isTimed_57 ?_
      cases h
      exact lr_iret hO 58 (fun _ h => h) (by decide) hQ (by decide) dL_isTimed_58
    · have h := of_t hc h
      refine lr_aload_n hO 25 0 rfl dL_isTimed_25 ?_
      refine lr_bipush hO 26 (v := 10) (by decide) dL_isTimed_26 ?_
      obtain ⟨v5, μa_μ6, μ6, hcall, e_μ6, h⟩ := of_bm h
      refine lr_callI hO 28 (na := 1) (As := [.int 10]) (st := []) (c_X7_count hX hcall) e_μ6 rfl wM_L_8 wI_X7_count wS_X7_count wN_X7 wC_X7_count (by decide +kernel) rfl (by decide) (by decide) (Nat.le_of_ble_eq_true rfl) (by decide) dL_isTimed_28 ?_
      refine lr_iload hO 31 6 rfl dL_isTimed_31 ?_
      refine lr_iconst hO 33 (v := 1) (by decide) dL_isTimed_33 ?_
      refine lr_iadd hO 34 dL_isTimed_34 ?_
      refine lr_icmp_ne hO 35 57 (by decide) dL_isTimed_35 (fun hc => ?_) (fun hc => ?_)
      · have h := of_f hc h
        refine lr_iconst hO 57 (v := 0) (by decide) dL_isTimed_57 ?_
        cases h
        exact lr_iret hO 58 (fun _ h => h) (by decide) hQ (by decide) dL_isTimed_58
      · have h := of_t hc h
        refine lr_aload_n hO 38 0 rfl dL_isTimed_38 ?_
        refine lr_bipush hO 39 (v := 11) (by decide) dL_isTimed_39 ?_
        obtain ⟨v7, μa_μ8, μ8, hcall, e_μ8, h⟩ := of_bm h
        refine lr_callI hO 41 (na := 1) (As := [.int 11]) (st := []) (c_X7_count hX hcall) e_μ8 rfl wM_L_8 wI_X7_count wS_X7_count wN_X7 wC_X7_count (by decide +kernel) rfl (by decide) (by decide) (Nat.le_of_ble_eq_true rfl) (by decide) dL_isTimed_41 ?_
        refine lr_iload hO 44 7 rfl dL_isTimed_44 ?_
        refine lr_iload_n hO 46 2 rfl dL_isTimed_46 ?_
        refine lr_iadd hO 47 dL_isTimed_47 ?_
        refine lr_iload_n hO 48 1 rfl dL_isTimed_48 ?_
        refine lr_isub hO 49 dL_isTimed_49 ?_
        refine lr_icmp_ne hO 50 57 (by decide) dL_isTimed_50 (fun hc => ?_) (fun hc => ?_)
        · have h := of_f hc h
          refine lr_iconst hO 57 (v := 0) (by decide) dL_isTimed_57 ?_
          cases h
          exact lr_iret hO 58 (fun _ h => h) (by decide) hQ (by decide) dL_isTimed_58
        · have h := of_t hc h
          refine lr_iconst hO 53 (v := 1) (by decide) dL_isTimed_53 ?_
          refine lr_goto hO 54 58 (by decide) dL_isTimed_54 ?_
          cases h
          exact lr_iret hO 58 (fun _ h => h) (by decide) hQ (by decide) dL_isTimed_58
set_option maxHeartbeats 4000000 in
set_option maxRecDepth 100000 in
theorem c_L_isPulled {X : xT} {Z : scT} (hX : xOK X) {a1 : Int32} {a2 : Int32} {μ μ' : mT} {r : Int32} (h : f_L_isPulled a1 a2 μ = some (r, μ')) : CL X Z [] yL_isPulled cL_isPulled 19 .boolean 6 134 2 [.ref (X.1 18 0), .int a1, .int a2] μ r μ' := by
  refine CL_of hX (by decide +kernel) (lv := [(0, .ref (X.1 18 0)), (1, .int a1), (2, .int a2)]) (Nat.le_of_ble_eq_true rfl) rfl (fun Γ hO hn hQ => ?_)
  have hO : OkY X Z RL cL_isPulled 6 134 2 Γ := hO
  unfold f_L_isPulled at h
  refine lr_iload_n hO 0 1 rfl dL_isPulled_0 ?_
  refine lr_aload_n hO 1 0 rfl dL_isPulled_1 ?_
  refine lr_iconst hO 2 (v := 1) (by decide) dL_isPulled_2 ?_
  obtain ⟨v1, μa_μ2, μ2, hcall, e_μ2, h⟩ := of_bm h
  refine lr_callI hO 3 (na := 1) (As := [.int 1]) (st := [.int a1]) (c_X7_count hX hcall) e_μ2 rfl wM_L_8 wI_X7_count wS_X7_count wN_X7 wC_X7_count (by decide +kernel) rfl (by decide) (by decide) (Nat.le_of_ble_eq_true rfl) (by decide) dL_isPulled_3 ?_
  refine lr_icmp_lt hO 6 25 (by decide) dL_isPulled_6 (fun hc => ?_) (fun hc => ?_)
  · have h := of_t hc h
    refine lr_bipush hO 25 (v := 32) (by decide) dL_isPulled_25 ?_
    obtain ⟨μ3, e_μ3, h⟩ := of_lt h
    refine lr_new hO 27 (κ := 60) (asf := fun r4 => [(60, r4)]) e_μ3 (fun _ => rfl) (by decide) (by simp) (by decide) dL_isPulled_27 (fun r4 => ?_)
    refine lr_astore_n hO 29 rfl (lv' := [(3, .ref r4), (0, .ref (X.1 18 0)), (1, .int a1), (2, .int a2)]) hn rfl (by decide) rfl dL_isPulled_29 ?_
    refine lr_bipush hO 30 (v := 32) (by decide) dL_isPulled_30 ?_
    obtain ⟨μ5, e_μ5, h⟩ := of_lt h
    refine lr_new hO 32 (κ := 61) (asf := fun r6 => [(60, r4), (61, r6)]) e_μ5 (fun _ => rfl) (by decide) (by simp) (by decide) dL_isPulled_32 (fun r6 => ?_)
    refine lr_astore hO 34 rfl (lv' := [(4, .ref r6), (3, .ref r4), (0, .ref (X.1 18 0)), (1, .int a1), (2, .int a2)]) hn (by decide) rfl dL_isPulled_34 ?_
    refine lr_aload_n hO 36 2 rfl dL_isPulled_36 ?_
    refine lr_bipush hO 37 (v := (-6)) (by decide) dL_isPulled_37 ?_
    refine lr_aload_n hO 39 1 rfl dL_isPulled_39 ?_
    obtain ⟨v7, μ8, hcall, h⟩ := of_bd h
    refine lr_callS hO 40 (na := 3) (mc := 0) (As := [.ref (X.1 18 0), .int ((-6)), .ref r4]) (st := []) (c_L_row hX (ia := 0) rfl hcall) rfl wM_L_24 wT_L_row wN_L wC_L_row (by decide +kernel) rfl (by decide) (by decide) (Nat.le_of_ble_eq_true rfl) (by decide) dL_isPulled_40 ?_
    refine lr_istore hO 43 (v := v7) rfl (lv' := [(5, .int v7), (4, .ref r6), (3, .ref r4), (0, .ref (X.1 18 0)), (1, .int a1), (2, .int a2)]) hn (by decide) rfl dL_isPulled_43 ?_
    refine lr_aload_n hO 45 3 rfl dL_isPulled_45 ?_
    refine lr_iload_n hO 46 4 rfl dL_isPulled_46 ?_
    refine lr_aload hO 47 1 rfl dL_isPulled_47 ?_
    obtain ⟨v9, μ10, hcall, h⟩ := of_bd h
    refine lr_callS hO 49 (na := 3) (mc := 0) (As := [.ref (X.1 18 0), .int a1, .ref r6]) (st := []) (c_L_row hX (ia := 1) rfl hcall) rfl wM_L_24 wT_L_row wN_L wC_L_row (by decide +kernel) rfl (by decide) (by decide) (Nat.le_of_ble_eq_true rfl) (by decide) dL_isPulled_49 ?_
    refine lr_istore hO 52 (v := v9) rfl (lv' := [(6, .int v9), (5, .int v7), (4, .ref r6), (3, .ref r4), (0, .ref (X.1 18 0)), (1, .int a1), (2, .int a2)]) hn (by decide) rfl dL_isPulled_52 ?_
    refine lr_iload_n hO 54 6 rfl dL_isPulled_54 ?_
    refine lr_iload hO 55 0 rfl dL_isPulled_55 ?_
    obtain ⟨J11, e_J11, h⟩ := of_lt h
    have J11_T : ∀ (v12 : Int32) (μ13 : mT), J11 v12 μ13 = some (r, μ') → lj X [(60, r4), (61, r6)] 2 Γ μ13 99 [(0, .ref (X.1 18 0)), (1, .int a1), (2, .int a2), (3, .ref r4), (4, .ref r6), (5, .int v7), (6, .int v9)] [.int v12] := by
      intro v12 μ13 h
      rw [e_J11] at h
      refine lr_istore hO 99 (v := v12) rfl (lv' := [(7, .int v12), (0, .ref (X.1 18 0)), (1, .int a1), (2, .int a2), (3, .ref r4), (4, .ref r6), (5, .int v7), (6, .int v9)]) hn (by decide) rfl dL_isPulled_99 ?_
      refine lr_iload hO 101 7 rfl dL_isPulled_101 ?_
      refine lr_iload_n hO 103 3 rfl dL_isPulled_103 ?_
      obtain ⟨J14, e_J14, h⟩ := of_lt h
      have J14_T : ∀ (v15 : Int32) (μ16 : mT), J14 v15 μ16 = some (r, μ') → lj X [(60, r4), (61, r6)] 2 Γ μ16 112 [(0, .ref (X.1 18 0)), (1, .int a1), (2, .int a2), (3, .ref r4), (4, .ref r6), (5, .int v7), (6, .int v9), (7, .int v12)] [.int v15] := by
        intro v15 μ16 h
        rw [e_J14] at h
        refine lr_istore hO 112 (v := v15) rfl (lv' := [(8, .int v15), (0, .ref (X.1 18 0)), (1, .int a1), (2, .int a2), (3, .ref r4), (4, .ref r6), (5, .int v7), (6, .int v9), (7, .int v12)]) hn (by decide) rfl dL_isPulled_112 ?_
        refine lr_aload_n hO 114 1 rfl dL_isPulled_114 ?_
        refine lr_bipush hO 115 (v := 17) (by decide) dL_isPulled_115 ?_
        obtain ⟨v17, μa_μ18, μ18, hcall, e_μ18, h⟩ := of_bm h
        refine lr_callI hO 117 (na := 1) (As := [.int 17]) (st := []) (c_X7_count hX hcall) e_μ18 rfl wM_L_8 wI_X7_count wS_X7_count wN_X7 wC_X7_count (by decide +kernel) rfl (by decide) (by decide) (Nat.le_of_ble_eq_true rfl) (by decide) dL_isPulled_117 ?_
        refine lr_iload hO 120 0 rfl dL_isPulled_120 ?_
        refine lr_aload_n hO 122 1 rfl dL_isPulled_122 ?_
        refine lr_bipush hO 123 (v := 18) (by decide) dL_isPulled_123 ?_
        obtain ⟨v19, μa_μ20, μ20, hcall, e_μ20, h⟩ := of_bm h
        refine lr_callI hO 125 (na := 1) (As := [.int 18]) (st := [.int v15, .int v17]) (c_X7_count hX hcall) e_μ20 rfl wM_L_8 wI_X7_count wS_X7_count wN_X7 wC_X7_count (by decide +kernel) rfl (by decide) (by decide) (Nat.le_of_ble_eq_true rfl) (by decide) dL_isPulled_125 ?_
        refine lr_imul hO 128 dL_isPulled_128 ?_
        refine lr_iadd hO 129 dL_isPulled_129 ?_
        obtain ⟨v21, e_v21, h⟩ := of_lt h
        refine lr_istore hO 130 (v := v21) e_v21 (lv' := [(9, .int v21), (8, .int v15), (0, .ref (X.1 18 0)), (1, .int a1), (2, .int a2), (3, .ref r4), (4, .ref r6), (5, .int v7), (6, .int v9), (7, .int v12)]) hn (by decide) rfl dL_isPulled_130 ?_
        refine lr_aload_n hO 132 2 rfl dL_isPulled_132 ?_
        refine lr_iconst hO 133 (v := 0) (by decide) dL_isPulled_133 ?_
        obtain ⟨v22, μa_μ23, μ23, hcall, e_μ23, h⟩ := of_bm h
        refine lr_callI hO 134 (na := 1) (As := [.int 0]) (st := []) (c_X7_count hX hcall) e_μ23 rfl wM_L_8 wI_X7_count wS_X7_count wN_X7 wC_X7_count (by decide +kernel) rfl (by decide) (by decide) (Nat.le_of_ble_eq_true rfl) (by decide) dL_isPulled_134 ?_
        refine lr_istore hO 137 (v := v22) rfl (lv' := [(10, .int v22), (9, .int v21), (8, .int v15), (0, .ref (X.1 18 0)), (1, .int a1), (2, .int a2), (3, .ref r4), (4, .ref r6), (5, .int v7), (6, .int v9), (7, .int v12)]) hn (by decide) rfl dL_isPulled_137 ?_
        refine lr_aload_n hO 139 3 rfl dL_isPulled_139 ?_
        refine lr_iload hO 140 1 rfl dL_isPulled_140 ?_
        obtain ⟨v24, μa_μ25, μ25, hcall, e_μ25, h⟩ := of_bm h
        refine lr_callI hO 142 (na := 1) (As := [.int v21]) (st := []) (c_X7_freeFrom hX hcall) e_μ25 rfl wM_L_37 wI_X7_freeFrom wS_X7_freeFrom wN_X7 wC_X7_freeFrom (by decide +kernel) rfl (by decide) (by decide) (Nat.le_of_ble_eq_true rfl) (by decide) dL_isPulled_142 ?_
        refine lr_istore hO 145 (v := v24) rfl (lv' := [(11, .int v24), (10, .int v22), (9, .int v21), (8, .int v15), (0, .ref (X.1 18 0)), (1, .int a1), (2, .int a2), (3, .ref r4), (4, .ref r6), (5, .int v7), (6, .int v9), (7, .int v12)]) hn (by decide) rfl dL_isPulled_145 ?_
        refine lr_aload_n hO 147 4 rfl dL_isPulled_147 ?_
        refine lr_bipush hO 148 (v := 9) (by decide) dL_isPulled_148 ?_
        obtain ⟨v26, μa_μ27, μ27, hcall, e_μ27, h⟩ := of_bm h
        refine lr_callI hO 150 (na := 1) (As := [.int 9]) (st := []) (c_X7_count hX hcall) e_μ27 rfl wM_L_8 wI_X7_count wS_X7_count wN_X7 wC_X7_count (by decide +kernel) rfl (by decide) (by decide) (Nat.le_of_ble_eq_true rfl) (by decide) dL_isPulled_150 ?_
        refine lr_istore hO 153 (v := v26) rfl (lv' := [(12, .int v26), (11, .int v24), (10, .int v22), (9, .int v21), (8, .int v15), (0, .ref (X.1 18 0)), (1, .int a1), (2, .int a2), (3, .ref r4), (4, .ref r6), (5, .int v7), (6, .int v9), (7, .int v12)]) hn (by decide) rfl dL_isPulled_153 ?_
        refine lr_aload_n hO 155 5 rfl dL_isPulled_155 ?_
        refine lr_bipush hO 156 (v := 10) (by decide) dL_isPulled_156 ?_
        obtain ⟨v28, μa_μ29, μ29, hcall, e_μ29, h⟩ := of_bm h
        refine lr_callI hO 158 (na := 1) (As := [.int 10]) (st := []) (c_X7_count hX hcall) e_μ29 rfl wM_L_8 wI_X7_count wS_X7_count wN_X7 wC_X7_count (by decide +kernel) rfl (by decide) (by decide) (Nat.le_of_ble_eq_true rfl) (by decide) dL_isPulled_158 ?_
        refine lr_istore hO 161 (v := v28) rfl (lv' := [(13, .int v28), (12, .int v26), (11, .int v24), (10, .int v22), (9, .int v21), (8, .int v15), (0, .ref (X.1 18 0)), (1, .int a1), (2, .int a2), (3, .ref r4), (4, .ref r6), (5, .int v7), (6, .int v9), (7, .int v12)]) hn (by decide) rfl dL_isPulled_161 ?_
        refine lr_aload_n hO 163 6 rfl dL_isPulled_163 ?_
        refine lr_bipush hO 164 (v := 11) (by decide) dL_isPulled_164 ?_
        obtain ⟨v30, μa_μ31, μ31, hcall, e_μ31, h⟩ := of_bm h
        refine lr_callI hO 166 (na := 1) (As := [.int 11]) (st := []) (c_X7_count hX hcall) e_μ31 rfl wM_L_8 wI_X7_count wS_X7_count wN_X7 wC_X7_count (by decide +kernel) rfl (by decide) (by decide) (Nat.le_of_ble_eq_true rfl) (by decide) dL_isPulled_166 ?_
        refine lr_istore hO 169 (v := v30) rfl (lv' := [(14, .int v30), (13, .int v28), (12, .int v26), (11, .int v24), (10, .int v22), (9, .int v21), (8, .int v15), (0, .ref (X.1 18 0)), (1, .int a1), (2, .int a2), (3, .ref r4), (4, .ref r6), (5, .int v7), (6, .int v9), (7, .int v12)]) hn (by decide) rfl dL_isPulled_169 ?_
        refine lr_aload_n hO 171 7 rfl dL_isPulled_171 ?_
        refine lr_iload_n hO 172 8 rfl dL_isPulled_172 ?_
        refine lr_iconst hO 173 (v := 3) (by decide) dL_isPulled_173 ?_
        obtain ⟨v32, μa_μ33, μ33, hcall, e_μ33, h⟩ := of_bm h
        refine lr_callI hO 174 (na := 2) (As := [.int a1, .int 3]) (st := []) (c_X7_ofTrack hX hcall) e_μ33 rfl wM_L_14 wI_X7_ofTrack wS_X7_ofTrack wN_X7 wC_X7_ofTrack (by decide +kernel) rfl (by decide) (by decide) (Nat.le_of_ble_eq_true rfl) (by decide) dL_isPulled_174 ?_
        refine lr_istore hO 177 (v := v32) rfl (lv' := [(15, .int v32), (14, .int v30), (13, .int v28), (12, .int v26), (11, .int v24), (10, .int v22), (9, .int v21), (8, .int v15), (0, .ref (X.1 18 0)), (1, .int a1), (2, .int a2), (3, .ref r4), (4, .ref r6), (5, .int v7), (6, .int v9), (7, .int v12)]) hn (by decide) rfl dL_isPulled_177 ?_
        refine lr_iload hO 179 14 rfl dL_isPulled_179 ?_
        obtain ⟨J34, e_J34, h⟩ := of_lt h
        have J34_T : ∀ (v35 : Int32) (μ36 : mT), J34 v35 μ36 = some (r, μ') → lj X [(60, r4), (61, r6)] 2 Γ μ36 197 [(0, .ref (X.1 18 0)), (1, .int a1), (2, .int a2), (3, .ref r4), (4, .ref r6), (5, .int v7), (6, .int v9), (7, .int v12), (8, .int v15), (9, .int v21), (10, .int v22), (11, .int v24), (12, .int v26), (13, .int v28), (14, .int v30), (15, .int v32)] [.int v35] := by
          intro v35 μ36 h
          rw [e_J34] at h
          refine lr_istore hO 197 (v := v35) rfl (lv' := [(16, .int v35), (0, .ref (X.1 18 0)), (1, .int a1), (2, .int a2), (3, .ref r4), (4, .ref r6), (5, .int v7), (6, .int v9), (7, .int v12), (8, .int v15), (9, .int v21), (10, .int v22), (11, .int v24), (12, .int v26), (13, .int v28), (14, .int v30), (15, .int v32)]) hn (by decide) rfl dL_isPulled_197 ?_
          refine lr_aload_n hO 199 1 rfl dL_isPulled_199 ?_
          refine lr_iload_n hO 200 2 rfl dL_isPulled_200 ?_
          refine lr_iload_n hO 201 3 rfl dL_isPulled_201 ?_
          obtain ⟨v37, μa_μ38, μ38, hcall, e_μ38, h⟩ := of_bm h
          refine lr_callI hO 202 (na := 2) (As := [.int a1, .int a2]) (st := []) (c_X7_pull hX hcall) e_μ38 rfl wM_L_34 wI_X7_pull wS_X7_pull wN_X7 wC_X7_pull (by decide +kernel) rfl (by decide) (by decide) (Nat.le_of_ble_eq_true rfl) (by decide) dL_isPulled_202 ?_
          refine lr_istore hO 205 (v := v37) rfl (lv' := [(17, .int v37), (16, .int v35), (0, .ref (X.1 18 0)), (1, .int a1), (2, .int a2), (3, .ref r4), (4, .ref r6), (5, .int v7), (6, .int v9), (7, .int v12), (8, .int v15), (9, .int v21), (10, .int v22), (11, .int v24), (12, .int v26), (13, .int v28), (14, .int v30), (15, .int v32)]) hn (by decide) rfl dL_isPulled_205 ?_
          refine lr_iload hO 207 9 rfl dL_isPulled_207 ?_
          refine lr_if_ne hO 209 256 (by decide) dL_isPulled_209 (fun hc => ?_) (fun hc => ?_)
          · have h := of_f hc h
            refine lr_iload hO 256 0 rfl dL_isPulled_256 ?_
            refine lr_iload hO 258 7 rfl dL_isPulled_258 ?_
            refine lr_iload_n hO 260 4 rfl dL_isPulled_260 ?_
            refine lr_iadd hO 261 dL_isPulled_261 ?_
            refine lr_icmp_ne hO 262 307 (by decide) dL_isPulled_262 (fun hc => ?_) (fun hc => ?_)
            · have h := of_f hc h
              refine lr_iconst hO 307 (v := 0) (by decide) dL_isPulled_307 ?_
              cases h
              exact lr_iret hO 308 (by simp) (by decide) hQ (by decide) dL_isPulled_308
            · have h := of_t hc h
              refine lr_aload_n hO 265 2 rfl dL_isPulled_265 ?_
              refine lr_iload_n hO 266 3 rfl dL_isPulled_266 ?_
              refine lr_iconst hO 267 (v := 1) (by decide) dL_isPulled_267 ?_
              obtain ⟨v39, μa_μ40, μ40, hcall, e_μ40, h⟩ := of_bm h
              refine lr_callI hO 268 (na := 2) (As := [.int a1, .int 1]) (st := []) (c_X7_ofTrack hX hcall) e_μ40 rfl wM_L_14 wI_X7_ofTrack wS_X7_ofTrack wN_X7 wC_X7_ofTrack (by decide +kernel) rfl (by decide) (by decide) (Nat.le_of_ble_eq_true rfl) (by decide) dL_isPulled_268 ?_
              refine lr_iload hO 271 8 rfl dL_isPulled_271 ?_
              refine lr_iload_n hO 273 4 rfl dL_isPulled_273 ?_
              refine lr_isub hO 274 dL_isPulled_274 ?_
              refine lr_icmp_ne hO 275 307 (by decide) dL_isPulled_275 (fun hc => ?_) (fun hc => ?_)
              · have h := of_f hc h
                refine lr_iconst hO 307 (v := 0) (by decide) dL_isPulled_307 ?_
                cases h
                exact lr_iret hO 308 (by simp) (by decide) hQ (by decide) dL_isPulled_308
              · have h := of_t hc h
                refine lr_aload_n hO 278 2 rfl dL_isPulled_278 ?_
                refine lr_iload_n hO 279 3 rfl dL_isPulled_279 ?_
                refine lr_iconst hO 280 (v := 3) (by decide) dL_isPulled_280 ?_
                obtain ⟨v41, μa_μ42, μ42, hcall, e_μ42, h⟩ := of_bm h
                refine lr_callI hO 281 (na := 2) (As := [.int a1, .int 3]) (st := []) (c_X7_ofTrack hX hcall) e_μ42 rfl wM_L_14 wI_X7_ofTrack wS_X7_ofTrack wN_X7 wC_X7_ofTrack (by decide +kernel) rfl (by decide) (by decide) (Nat.le_of_ble_eq_true rfl) (by decide) dL_isPulled_281 ?_
                refine lr_iload hO 284 17 rfl dL_isPulled_284 ?_
                refine lr_iload_n hO 286 4 rfl dL_isPulled_286 ?_
                refine lr_iadd hO 287 dL_isPulled_287 ?_
                refine lr_icmp_ne hO 288 307 (by decide) dL_isPulled_288 (fun hc => ?_) (fun hc => ?_)
                · have h := of_f hc h
                  refine lr_iconst hO 307 (v := 0) (by decide) dL_isPulled_307 ?_
                  cases h
                  exact lr_iret hO 308 (by simp) (by decide) hQ (by decide) dL_isPulled_308
                · have h := of_t hc h
                  refine lr_aload_n hO 291 2 rfl dL_isPulled_291 ?_
                  refine lr_aload hO 292 6 rfl dL_isPulled_292 ?_
                  refine lr_iconst hO 294 (v := 0) (by decide) dL_isPulled_294 ?_
                  refine lr_iald hO 295 (κ := 61) (a := r6) (ia := 1) rfl (by decide) dL_isPulled_295 ?_
                  refine lr_iconst hO 296 (v := 5) (by decide) dL_isPulled_296 ?_
                  obtain ⟨v43, μa_μ44, μ44, hcall, e_μ44, h⟩ := of_bm h
                  refine lr_callI hO 297 (na := 2) (As := [.int (μ42 61 0 (0 : Int32).toNatClampNeg), .int 5]) (st := []) (c_X7_ofWagon hX hcall) e_μ44 rfl wM_L_21 wI_X7_ofWagon wS_X7_ofWagon wN_X7 wC_X7_ofWagon (by decide +kernel) rfl (by decide) (by decide) (Nat.le_of_ble_eq_true rfl) (by decide) dL_isPulled_297 ?_
                  refine lr_iload hO 300 1 rfl dL_isPulled_300 ?_
                  refine lr_iconst hO 302 (v := 1) (by decide) dL_isPulled_302 ?_
                  refine lr_iadd hO 303 dL_isPulled_303 ?_
                  refine lr_icmp_eq hO 304 309 (by decide) dL_isPulled_304 (fun hc => ?_) (fun hc => ?_)
                  · have h := of_t hc h
                    refine lr_iconst hO 309 (v := 0) (by decide) dL_isPulled_309 ?_
                    refine lr_istore hO 310 (v := 0) rfl (lv' := [(18, .int 0), (17, .int v37), (16, .int v35), (0, .ref (X.1 18 0)), (1, .int a1), (2, .int a2), (3, .ref r4), (4, .ref r6), (5, .int v7), (6, .int v9), (7, .int v12), (8, .int v15), (9, .int v21), (10, .int v22), (11, .int v24), (12, .int v26), (13, .int v28), (14, .int v30), (15, .int v32)]) hn (by decide) rfl dL_isPulled_310 ?_
                    obtain ⟨K47, e_K47, h⟩ := of_lt h
                    have K47_T : ∀ (μ48 : mT), K47 μ48 = some (r, μ') → lj X [(60, r4), (61, r6)] 2 Γ μ48 362 [(0, .ref (X.1 18 0)), (1, .int a1), (2, .int a2), (4, .ref r6), (6, .int v9), (8, .int v15), (9, .int v21), (10, .int v22), (11, .int v24), (12, .int v26), (13, .int v28), (14, .int v30)] [] := by
                      intro μ48 h
                      rw [e_K47] at h
                      refine lr_iload_n hO 362 2 rfl dL_isPulled_362 ?_
                      refine lr_istore hO 363 (v := a2) rfl (lv' := [(18, .int a2), (0, .ref (X.1 18 0)), (1, .int a1), (2, .int a2), (4, .ref r6), (6, .int v9), (8, .int v15), (9, .int v21), (10, .int v22), (11, .int v24), (12, .int v26), (13, .int v28), (14, .int v30)]) hn (by decide) rfl dL_isPulled_363 ?_
                      obtain ⟨K51, e_K51, h⟩ := of_lt h
                      have K51_T : ∀ (μ52 : mT), K51 μ52 = some (r, μ') → lj X [(60, r4), (61, r6)] 2 Γ μ52 397 [(0, .ref (X.1 18 0)), (8, .int v15), (9, .int v21), (10, .int v22), (11, .int v24), (12, .int v26), (13, .int v28), (14, .int v30)] [] := by
                        intro μ52 h
                        rw [e_K51] at h
                        refine lr_aload_n hO 397 0 rfl dL_isPulled_397 ?_
                        refine lr_iload hO 398 3 rfl dL_isPulled_398 ?_
                        refine lr_iload hO 400 4 rfl dL_isPulled_400 ?_
                        refine lr_iload hO 402 2 rfl dL_isPulled_402 ?_
                        refine lr_iload hO 404 1 rfl dL_isPulled_404 ?_
                        refine lr_iload hO 406 5 rfl dL_isPulled_406 ?_
                        refine lr_iload hO 408 6 rfl dL_isPulled_408 ?_
                        refine lr_iload hO 410 7 rfl dL_isPulled_410 ?_
                        obtain ⟨v53, μ54, hcall, h⟩ := of_bd h
                        refine lr_callS hO 412 (na := 8) (mc := 0) (As := [.ref (X.1 18 0), .int v22, .int v24, .int v21, .int v15, .int v26, .int v28, .int v30]) (st := []) (c_L_isTimed hX hcall) rfl wM_L_40 wT_L_isTimed wN_L wC_L_isTimed (by decide +kernel) rfl (by decide) (by decide) (Nat.le_of_ble_eq_true rfl) (by decide) dL_isPulled_412 ?_
                        obtain ⟨hg, h⟩ := of_gd h
                        cases h
                        exact lr_iret hO 415 (by simp) (by decide) hQ (isB_n hg) dL_isPulled_415
                      have L365_T : ∀ (n : Nat) (v49 : Int32) (μ50 : mT), f_L_isPulled_L365 a1 a2 v9 v15 v21 v22 v24 v26 v28 v30 K51 n v49 μ50 = some (r, μ') → lj X [(60, r4), (61, r6)] 2 Γ μ50 365 [(0, .ref (X.1 18 0)), (1, .int a1), (2, .int a2), (4, .ref r6), (6, .int v9), (8, .int v15), (9, .int v21), (10, .int v22), (11, .int v24), (12, .int v26), (13, .int v28), (14, .int v30), (18, .int v49)] [] := by
                        intro n
                        induction n with
                        | zero =>
                          intro v49 μ50 h
                          rw [f_L_isPulled_L365] at h
                          cases h
                        | succ n ih =>
                          intro v49 μ50 h
                          rw [f_L_isPulled_L365] at h
                          refine lr_iload hO 365 12 rfl dL_isPulled_365 ?_
                          refine lr_iload hO 367 4 rfl dL_isPulled_367 ?_
                          refine lr_icmp_ge hO 369 397 (by decide) dL_isPulled_369 (fun hc => ?_) (fun hc => ?_)
                          · have h := of_t hc h
                            refine lr_sub [0, 5, 6, 7, 8, 9, 10, 11] rfl ?_
                            exact K51_T _ h
                          · have h := of_f hc h
                            refine lr_aload_n hO 372 0 rfl dL_isPulled_372 ?_
                            refine lr_iload_n hO 373 1 rfl dL_isPulled_373 ?_
                            refine lr_iload hO 374 12 rfl dL_isPulled_374 ?_
                            refine lr_iload_n hO 376 2 rfl dL_isPulled_376 ?_
                            refine lr_isub hO 377 dL_isPulled_377 ?_
                            obtain ⟨v55, μa_μ56, μ56, hcall, e_μ56, h⟩ := of_bm h
                            refine lr_callI hO 378 (na := 2) (As := [.int a1, .int (v49 - a2)]) (st := []) (c_X7_at hX hcall) e_μ56 rfl wM_L_18 wI_X7_at wS_X7_at wN_X7 wC_X7_at (by decide +kernel) rfl (by decide) (by decide) (Nat.le_of_ble_eq_true rfl) (by decide) dL_isPulled_378 ?_
                            refine lr_aload hO 381 3 rfl dL_isPulled_381 ?_
                            refine lr_iload hO 383 12 rfl dL_isPulled_383 ?_
                            obtain ⟨hg, h⟩ := of_gd h
                            refine lr_iald hO 385 (κ := 61) (a := r6) (ia := 1) rfl hg dL_isPulled_385 ?_
                            refine lr_icmp_eq hO 386 391 (by decide) dL_isPulled_386 (fun hc => ?_) (fun hc => ?_)
                            · have h := of_t hc h
                              obtain ⟨v57, e_v57, h⟩ := of_lt h
                              refine lr_iinc hO 391 (q := 12) (v := v57) (lv' := [(18, .int v57), (0, .ref (X.1 18 0)), (1, .int a1), (2, .int a2), (4, .ref r6), (6, .int v9), (8, .int v15), (9, .int v21), (10, .int v22), (11, .int v24), (12, .int v26), (13, .int v28), (14, .int v30)]) hn rfl (by rw [e_v57]; rfl) (by decide) rfl dL_isPulled_391 ?_
                              refine lr_goto hO 394 365 (by decide) dL_isPulled_394 ?_
                              refine lr_sub [1, 2, 3, 4, 5, 6, 7, 8, 9, 10, 11, 12, 0] rfl ?_
                              exact ih _ _ h
                            · have h := of_f hc h
                              refine lr_iconst hO 389 (v := 0) (by decide) dL_isPulled_389 ?_
                              cases h
                              exact lr_iret hO 390 (by simp) (by decide) hQ (by decide) dL_isPulled_390
                      refine lr_sub [1, 2, 3, 4, 5, 6, 7, 8, 9, 10, 11, 12, 0] rfl ?_
                      exact L365_T _ _ _ h
                    have L312_T : ∀ (n : Nat) (v45 : Int32) (μ46 : mT), f_L_isPulled_L312 a1 a2 v7 v9 v15 v21 v22 v24 v26 v28 v30 K47 n v45 μ46 = some (r, μ') → lj X [(60, r4), (61, r6)] 2 Γ μ46 312 [(0, .ref (X.1 18 0)), (1, .int a1), (2, .int a2), (3, .ref r4), (4, .ref r6), (5, .int v7), (6, .int v9), (8, .int v15), (9, .int v21), (10, .int v22), (11, .int v24), (12, .int v26), (13, .int v28), (14, .int v30), (18, .int v45)] [] := by
                      intro n
                      induction n with
                      | zero =>
                        intro v45 μ46 h
                        rw [f_L_isPulled_L312] at h
                        cases h
                      | succ n ih =>
                        intro v45 μ46 h
                        rw [f_L_isPulled_L312] at h
                        refine lr_iload hO 312 14 rfl dL_isPulled_312 ?_
                        refine lr_iload hO 314 5 rfl dL_isPulled_314 ?_
                        refine lr_iload_n hO 316 2 rfl dL_isPulled_316 ?_
                        refine lr_iadd hO 317 dL_isPulled_317 ?_
                        refine lr_icmp_ge hO 318 362 (by decide) dL_isPulled_318 (fun hc => ?_) (fun hc => ?_)
                        · have h := of_t hc h
                          refine lr_sub [0, 1, 2, 4, 6, 7, 8, 9, 10, 11, 12, 13] rfl ?_
                          exact K47_T _ h
                        · have h := of_f hc h
                          refine lr_aload_n hO 321 0 rfl dL_isPulled_321 ?_
                          refine lr_bipush hO 322 (v := (-6)) (by decide) dL_isPulled_322 ?_
                          refine lr_iload hO 324 14 rfl dL_isPulled_324 ?_
                          obtain ⟨v58, μa_μ59, μ59, hcall, e_μ59, h⟩ := of_bm h
                          refine lr_callI hO 326 (na := 2) (As := [.int ((-6)), .int v45]) (st := []) (c_X7_at hX hcall) e_μ59 rfl wM_L_18 wI_X7_at wS_X7_at wN_X7 wC_X7_at (by decide +kernel) rfl (by decide) (by decide) (Nat.le_of_ble_eq_true rfl) (by decide) dL_isPulled_326 ?_
                          refine lr_iload hO 329 14 rfl dL_isPulled_329 ?_
                          refine lr_iload hO 331 5 rfl dL_isPulled_331 ?_
                          obtain ⟨J60, e_J60, h⟩ := of_lt h
                          have J60_T : ∀ (v61 : Int32) (μ62 : mT), J60 v61 μ62 = some (r, μ') → lj X [(60, r4), (61, r6)] 2 Γ μ62 351 [(0, .ref (X.1 18 0)), (1, .int a1), (2, .int a2), (3, .ref r4), (4, .ref r6), (5, .int v7), (6, .int v9), (8, .int v15), (9, .int v21), (10, .int v22), (11, .int v24), (12, .int v26), (13, .int v28), (14, .int v30), (18, .int v45)] [.int v61, .int v58] := by
                            intro v61 μ62 h
                            rw [e_J60] at h
                            refine lr_icmp_eq hO 351 356 (by decide) dL_isPulled_351 (fun hc => ?_) (fun hc => ?_)
                            · have h := of_t hc h
                              obtain ⟨v63, e_v63, h⟩ := of_lt h
                              refine lr_iinc hO 356 (q := 14) (v := v63) (lv' := [(18, .int v63), (0, .ref (X.1 18 0)), (1, .int a1), (2, .int a2), (3, .ref r4), (4, .ref r6), (5, .int v7), (6, .int v9), (8, .int v15), (9, .int v21), (10, .int v22), (11, .int v24), (12, .int v26), (13, .int v28), (14, .int v30)]) hn rfl (by rw [e_v63]; rfl) (by decide) rfl dL_isPulled_356 ?_
                              refine lr_goto hO 359 312 (by decide) dL_isPulled_359 ?_
                              refine lr_sub [1, 2, 3, 4, 5, 6, 7, 8, 9, 10, 11, 12, 13, 14, 0] rfl ?_
                              exact ih _ _ h
                            · have h := of_f hc h
                              refine lr_iconst hO 354 (v := 0) (by decide) dL_isPulled_354 ?_
                              cases h
                              exact lr_iret hO 355 (by simp) (by decide) hQ (by decide) dL_isPulled_355
                          refine lr_icmp_ge hO 333 343 (by decide) dL_isPulled_333 (fun hc => ?_) (fun hc => ?_)
                          · have h := of_t hc h
                            refine lr_aload hO 343 4 rfl dL_isPulled_343 ?_
                            refine lr_iload hO 345 14 rfl dL_isPulled_345 ?_
                            refine lr_iload hO 347 5 rfl dL_isPulled_347 ?_
                            refine lr_isub hO 349 dL_isPulled_349 ?_
                            obtain ⟨hg, h⟩ := of_gd h
                            refine lr_iald hO 350 (κ := 61) (a := r6) (ia := 1) rfl hg dL_isPulled_350 ?_
                            exact J60_T _ _ h
                          · have h := of_f hc h
                            refine lr_aload_n hO 336 3 rfl dL_isPulled_336 ?_
                            refine lr_iload hO 337 14 rfl dL_isPulled_337 ?_
                            obtain ⟨hg, h⟩ := of_gd h
                            refine lr_iald hO 339 (κ := 60) (a := r4) (ia := 0) rfl hg dL_isPulled_339 ?_
                            refine lr_goto hO 340 351 (by decide) dL_isPulled_340 ?_
                            exact J60_T _ _ h
                    refine lr_sub [3, 4, 5, 6, 7, 8, 9, 11, 12, 13, 14, 15, 16, 17, 0] rfl ?_
                    exact L312_T _ _ _ h
                  · have h := of_f hc h
                    refine lr_iconst hO 307 (v := 0) (by decide) dL_isPulled_307 ?_
                    cases h
                    exact lr_iret hO 308 (by simp) (by decide) hQ (by decide) dL_isPulled_308
          · have h := of_t hc h
            refine lr_iload hO 212 0 rfl dL_isPulled_212 ?_
            refine lr_bipush hO 214 (v := (-5)) (by decide) dL_isPulled_214 ?_
            refine lr_icmp_ne hO 216 254 (by decide) dL_isPulled_216 (fun hc => ?_) (fun hc => ?_)
            · have h := of_f hc h
              refine lr_iconst hO 254 (v := 0) (by decide) dL_isPulled_254 ?_
              cases h
              exact lr_iret hO 255 (by simp) (by decide) hQ (by decide) dL_isPulled_255
            · have h := of_t hc h
              refine lr_aload_n hO 219 2 rfl dL_isPulled_219 ?_
              refine lr_iconst hO 220 (v := 3) (by decide) dL_isPulled_220 ?_
              obtain ⟨v64, μa_μ65, μ65, hcall, e_μ65, h⟩ := of_bm h
              refine lr_callI hO 221 (na := 1) (As := [.int 3]) (st := []) (c_X7_count hX hcall) e_μ65 rfl wM_L_8 wI_X7_count wS_X7_count wN_X7 wC_X7_count (by decide +kernel) rfl (by decide) (by decide) (Nat.le_of_ble_eq_true rfl) (by decide) dL_isPulled_221 ?_
              refine lr_iload hO 224 7 rfl dL_isPulled_224 ?_
              refine lr_icmp_ne hO 226 254 (by decide) dL_isPulled_226 (fun hc => ?_) (fun hc => ?_)
              · have h := of_f hc h
                refine lr_iconst hO 254 (v := 0) (by decide) dL_isPulled_254 ?_
                cases h
                exact lr_iret hO 255 (by simp) (by decide) hQ (by decide) dL_isPulled_255
              · have h := of_t hc h
                refine lr_aload_n hO 229 2 rfl dL_isPulled_229 ?_
                refine lr_iload_n hO 230 3 rfl dL_isPulled_230 ?_
                refine lr_iconst hO 231 (v := 1) (by decide) dL_isPulled_231 ?_
                obtain ⟨v66, μa_μ67, μ67, hcall, e_μ67, h⟩ := of_bm h
                refine lr_callI hO 232 (na := 2) (As := [.int a1, .int 1]) (st := []) (c_X7_ofTrack hX hcall) e_μ67 rfl wM_L_14 wI_X7_ofTrack wS_X7_ofTrack wN_X7 wC_X7_ofTrack (by decide +kernel) rfl (by decide) (by decide) (Nat.le_of_ble_eq_true rfl) (by decide) dL_isPulled_232 ?_
                refine lr_iload hO 235 8 rfl dL_isPulled_235 ?_
                refine lr_icmp_ne hO 237 254 (by decide) dL_isPulled_237 (fun hc => ?_) (fun hc => ?_)
                · have h := of_f hc h
                  refine lr_iconst hO 254 (v := 0) (by decide) dL_isPulled_254 ?_
                  cases h
                  exact lr_iret hO 255 (by simp) (by decide) hQ (by decide) dL_isPulled_255
                · have h := of_t hc h
                  refine lr_aload_n hO 240 2 rfl dL_isPulled_240 ?_
                  refine lr_iconst hO 241 (v := 0) (by decide) dL_isPulled_241 ?_
                  obtain ⟨v68, μa_μ69, μ69, hcall, e_μ69, h⟩ := of_bm h
                  refine lr_callI hO 242 (na := 1) (As := [.int 0]) (st := []) (c_X7_count hX hcall) e_μ69 rfl wM_L_8 wI_X7_count wS_X7_count wN_X7 wC_X7_count (by decide +kernel) rfl (by decide) (by decide) (Nat.le_of_ble_eq_true rfl) (by decide) dL_isPulled_242 ?_
                  refine lr_iload hO 245 12 rfl dL_isPulled_245 ?_
                  refine lr_icmp_ne hO 247 254 (by decide) dL_isPulled_247 (fun hc => ?_) (fun hc => ?_)
                  · have h := of_f hc h
                    refine lr_iconst hO 254 (v := 0) (by decide) dL_isPulled_254 ?_
                    cases h
                    exact lr_iret hO 255 (by simp) (by decide) hQ (by decide) dL_isPulled_255
                  · have h := of_t hc h
                    refine lr_iconst hO 250 (v := 1) (by decide) dL_isPulled_250 ?_
                    refine lr_goto hO 251 255 (by decide) dL_isPulled_251 ?_
                    cases h
                    exact lr_iret hO 255 (by simp) (by decide) hQ (by decide) dL_isPulled_255
        refine lr_if_le hO 181 196 (by decide) dL_isPulled_181 (fun hc => ?_) (fun hc => ?_)
        · have h := of_t hc h
          refine lr_iconst hO 196 (v := 0) (by decide) dL_isPulled_196 ?_
          refine lr_sub [8, 9, 10, 11, 12, 13, 14, 15, 7, 6, 5, 4, 3, 2, 1, 0] rfl ?_
          exact J34_T _ _ h
        · have h := of_f hc h
          refine lr_aload_n hO 184 8 rfl dL_isPulled_184 ?_
          refine lr_aload hO 185 12 rfl dL_isPulled_185 ?_
          refine lr_iconst hO 187 (v := 0) (by decide) dL_isPulled_187 ?_
          refine lr_iald hO 188 (κ := 61) (a := r6) (ia := 1) rfl (by decide) dL_isPulled_188 ?_
          refine lr_iconst hO 189 (v := 5) (by decide) dL_isPulled_189 ?_
          obtain ⟨v70, μa_μ71, μ71, hcall, e_μ71, h⟩ := of_bm h
          refine lr_callI hO 190 (na := 2) (As := [.int (μ33 61 0 (0 : Int32).toNatClampNeg), .int 5]) (st := []) (c_X7_ofWagon hX hcall) e_μ71 rfl wM_L_21 wI_X7_ofWagon wS_X7_ofWagon wN_X7 wC_X7_ofWagon (by decide +kernel) rfl (by decide) (by decide) (Nat.le_of_ble_eq_true rfl) (by decide) dL_isPulled_190 ?_
          refine lr_goto hO 193 197 (by decide) dL_isPulled_193 ?_
          refine lr_sub [8, 9, 10, 11, 12, 13, 14, 15, 7, 6, 5, 4, 3, 2, 1, 0] rfl ?_
          exact J34_T _ _ h
      refine lr_icmp_le hO 104 111 (by decide) dL_isPulled_104 (fun hc => ?_) (fun hc => ?_)
      · have h := of_t hc h
        refine lr_iconst hO 111 (v := 1) (by decide) dL_isPulled_111 ?_
        refine lr_sub [1, 2, 3, 4, 5, 6, 7, 0] rfl ?_
        exact J14_T _ _ h
      · have h := of_f hc h
        refine lr_iconst hO 107 (v := 2) (by decide) dL_isPulled_107 ?_
        refine lr_goto hO 108 112 (by decide) dL_isPulled_108 ?_
        refine lr_sub [1, 2, 3, 4, 5, 6, 7, 0] rfl ?_
        exact J14_T _ _ h
    obtain ⟨J72, e_J72, h⟩ := of_lt h
    have J72_T : ∀ (μ73 : mT), J72 μ73 = some (r, μ') → lj X [(60, r4), (61, r6)] 2 Γ μ73 98 [(0, .ref (X.1 18 0)), (1, .int a1), (2, .int a2), (3, .ref r4), (4, .ref r6), (5, .int v7), (6, .int v9)] [] := by
      intro μ73 h
      rw [e_J72] at h
      refine lr_iconst hO 98 (v := 0) (by decide) dL_isPulled_98 ?_
      exact J11_T _ _ h
    refine lr_icmp_gt hO 57 98 (by decide) dL_isPulled_57 (fun hc => ?_) (fun hc => ?_)
    · have h := of_t hc h
      refine lr_sub [4, 5, 6, 3, 2, 1, 0] rfl ?_
      exact J72_T _ h
    · have h := of_f hc h
      refine lr_aload_n hO 60 4 rfl dL_isPulled_60 ?_
      refine lr_iconst hO 61 (v := 4) (by decide) dL_isPulled_61 ?_
      obtain ⟨v74, μa_μ75, μ75, hcall, e_μ75, h⟩ := of_bm h
      refine lr_callI hO 62 (na := 1) (As := [.int 4]) (st := []) (c_X7_count hX hcall) e_μ75 rfl wM_L_8 wI_X7_count wS_X7_count wN_X7 wC_X7_count (by decide +kernel) rfl (by decide) (by decide) (Nat.le_of_ble_eq_true rfl) (by decide) dL_isPulled_62 ?_
      refine lr_aload_n hO 65 4 rfl dL_isPulled_65 ?_
      refine lr_aload hO 66 2 rfl dL_isPulled_66 ?_
      refine lr_iconst hO 68 (v := 0) (by decide) dL_isPulled_68 ?_
      refine lr_iload_n hO 69 6 rfl dL_isPulled_69 ?_
      refine lr_iload hO 70 0 rfl dL_isPulled_70 ?_
      obtain ⟨J76, e_J76, h⟩ := of_lt h
      have J76_T : ∀ (v77 : Int32) (μ78 : mT), J76 v77 μ78 = some (r, μ') → lj X [(60, r4), (61, r6)] 2 Γ μ78 81 [(0, .ref (X.1 18 0)), (1, .int a1), (2, .int a2), (3, .ref r4), (4, .ref r6), (5, .int v7), (6, .int v9)] [.int v77, .int 0, .ref r6, .ref (X.1 18 0), .int v74] := by
        intro v77 μ78 h
        rw [e_J76] at h
        obtain ⟨v79, μ80, hcall, h⟩ := of_bd h
        refine lr_callS hO 81 (na := 4) (mc := 0) (As := [.ref (X.1 18 0), .ref r6, .int 0, .int v77]) (st := [.int v74]) (c_L_lengths hX (ia := 1) rfl hcall) rfl wM_L_30 wT_L_lengths wN_L wC_L_lengths (by decide +kernel) rfl (by decide) (by decide) (Nat.le_of_ble_eq_true rfl) (by decide) dL_isPulled_81 ?_
        refine lr_iadd hO 84 dL_isPulled_84 ?_
        refine lr_aload_n hO 85 0 rfl dL_isPulled_85 ?_
        refine lr_bipush hO 86 (v := 15) (by decide) dL_isPulled_86 ?_
        obtain ⟨v81, μa_μ82, μ82, hcall, e_μ82, h⟩ := of_bm h
        refine lr_callI hO 88 (na := 1) (As := [.int 15]) (st := [.int (v74 + v79)]) (c_X7_count hX hcall) e_μ82 rfl wM_L_8 wI_X7_count wS_X7_count wN_X7 wC_X7_count (by decide +kernel) rfl (by decide) (by decide) (Nat.le_of_ble_eq_true rfl) (by decide) dL_isPulled_88 ?_
        refine lr_icmp_gt hO 91 98 (by decide) dL_isPulled_91 (fun hc => ?_) (fun hc => ?_)
        · have h := of_t hc h
          exact J72_T _ h
        · have h := of_f hc h
          refine lr_iconst hO 94 (v := 1) (by decide) dL_isPulled_94 ?_
          refine lr_goto hO 95 99 (by decide) dL_isPulled_95 ?_
          exact J11_T _ _ h
      refine lr_icmp_ge hO 72 79 (by decide) dL_isPulled_72 (fun hc => ?_) (fun hc => ?_)
      · have h := of_t hc h
        refine lr_iload hO 79 0 rfl dL_isPulled_79 ?_
        refine lr_sub [4, 5, 6, 3, 2, 1, 0] rfl ?_
        exact J76_T _ _ h
      · have h := of_f hc h
        refine lr_iload_n hO 75 6 rfl dL_isPulled_75 ?_
        refine lr_goto hO 76 81 (by decide) dL_isPulled_76 ?_
        refine lr_sub [4, 5, 6, 3, 2, 1, 0] rfl ?_
        exact J76_T _ _ h
  · have h := of_f hc h
    refine lr_aload_n hO 9 0 rfl dL_isPulled_9 ?_
    refine lr_iload_n hO 10 1 rfl dL_isPulled_10 ?_
    refine lr_iload_n hO 11 2 rfl dL_isPulled_11 ?_
    obtain ⟨v83, μa_μ84, μ84, hcall, e_μ84, h⟩ := of_bm h
    refine lr_callI hO 12 (na := 2) (As := [.int a1, .int a2]) (st := []) (c_X7_pull hX hcall) e_μ84 rfl wM_L_34 wI_X7_pull wS_X7_pull wN_X7 wC_X7_pull (by decide +kernel) rfl (by decide) (by decide) (Nat.le_of_ble_eq_true rfl) (by decide) dL_isPulled_12 ?_
    refine lr_iconst hO 15 (v := (-1)) (by decide) dL_isPulled_15 ?_
    refine lr_icmp_ne hO 16 23 (by decide) dL_isPulled_16 (fun hc => ?_) (fun hc => ?_)
    · have h := of_f hc h
      refine lr_iconst hO 23 (v := 0) (by decide) dL_isPulled_23 ?_
      cases h
      exact lr_iret hO 24 (fun _ h => h) (by decide) hQ (by decide) dL_isPulled_24
    · have h := of_t hc h
      refine lr_iconst hO 19 (v := 1) (by decide) dL_isPulled_19 ?_
      refine lr_goto hO 20 24 (by decide) dL_isPulled_20 ?_
      cases h
      exact lr_iret hO 24 (fun _ h => h) (by decide) hQ (by decide) dL_isPulled_24
set_option maxHeartbeats 4000000 in
set_option maxRecDepth 100000 in
theorem c_L_isPushed {X : xT} {Z : scT} (hX : xOK X) {a1 : Int32} {a2 : Int32} {μ μ' : mT} {r : Int32} (h : f_L_isPushed a1 a2 μ = some (r, μ')) : CL X Z [] yL_isPushed cL_isPushed 19 .boolean 5 117 2 [.ref (X.1 18 0), .int a1, .int a2] μ r μ' := by
  refine CL_of hX (by decide +kernel) (lv := [(0, .ref (X.1 18 0)), (1, .int a1), (2, .int a2)]) (Nat.le_of_ble_eq_true rfl) rfl (fun Γ hO hn hQ => ?_)
  have hO : OkY X Z RL cL_isPushed 5 117 2 Γ := hO
  unfold f_L_isPushed at h
  refine lr_iload_n hO 0 1 rfl dL_isPushed_0 ?_
  refine lr_aload_n hO 1 0 rfl dL_isPushed_1 ?_
  refine lr_iconst hO 2 (v := 1) (by decide) dL_isPushed_2 ?_
  obtain ⟨v1, μa_μ2, μ2, hcall, e_μ2, h⟩ := of_bm h
  refine lr_callI hO 3 (na := 1) (As := [.int 1]) (st := [.int a1]) (c_X7_count hX hcall) e_μ2 rfl wM_L_8 wI_X7_count wS_X7_count wN_X7 wC_X7_count (by decide +kernel) rfl (by decide) (by decide) (Nat.le_of_ble_eq_true rfl) (by decide) dL_isPushed_3 ?_
  refine lr_icmp_lt hO 6 25 (by decide) dL_isPushed_6 (fun hc => ?_) (fun hc => ?_)
  · have h := of_t hc h
    refine lr_bipush hO 25 (v := 32) (by decide) dL_isPushed_25 ?_
    obtain ⟨μ3, e_μ3, h⟩ := of_lt h
    refine lr_new hO 27 (κ := 60) (asf := fun r4 => [(60, r4)]) e_μ3 (fun _ => rfl) (by decide) (by simp) (by decide) dL_isPushed_27 (fun r4 => ?_)
    refine lr_astore_n hO 29 rfl (lv' := [(3, .ref r4), (0, .ref (X.1 18 0)), (1, .int a1), (2, .int a2)]) hn rfl (by decide) rfl dL_isPushed_29 ?_
    refine lr_bipush hO 30 (v := 32) (by decide) dL_isPushed_30 ?_
    obtain ⟨μ5, e_μ5, h⟩ := of_lt h
    refine lr_new hO 32 (κ := 61) (asf := fun r6 => [(60, r4), (61, r6)]) e_μ5 (fun _ => rfl) (by decide) (by simp) (by decide) dL_isPushed_32 (fun r6 => ?_)
    refine lr_astore hO 34 rfl (lv' := [(4, .ref r6), (3, .ref r4), (0, .ref (X.1 18 0)), (1, .int a1), (2, .int a2)]) hn (by decide) rfl dL_isPushed_34 ?_
    refine lr_aload_n hO 36 2 rfl dL_isPushed_36 ?_
    refine lr_bipush hO 37 (v := (-6)) (by decide) dL_isPushed_37 ?_
    refine lr_aload_n hO 39 1 rfl dL_isPushed_39 ?_
    obtain ⟨v7, μ8, hcall, h⟩ := of_bd h
    refine lr_callS hO 40 (na := 3) (mc := 0) (As := [.ref (X.1 18 0), .int ((-6)), .ref r4]) (st := []) (c_L_row hX (ia := 0) rfl hcall) rfl wM_L_24 wT_L_row wN_L wC_L_row (by decide +kernel) rfl (by decide) (by decide) (Nat.le_of_ble_eq_true rfl) (by decide) dL_isPushed_40 ?_
    refine lr_istore hO 43 (v := v7) rfl (lv' := [(5, .int v7), (4, .ref r6), (3, .ref r4), (0, .ref (X.1 18 0)), (1, .int a1), (2, .int a2)]) hn (by decide) rfl dL_isPushed_43 ?_
    refine lr_aload_n hO 45 3 rfl dL_isPushed_45 ?_
    refine lr_iload_n hO 46 4 rfl dL_isPushed_46 ?_
    refine lr_aload hO 47 1 rfl dL_isPushed_47 ?_
    obtain ⟨v9, μ10, hcall, h⟩ := of_bd h
    refine lr_callS hO 49 (na := 3) (mc := 0) (As := [.ref (X.1 18 0), .int a1, .ref r6]) (st := []) (c_L_row hX (ia := 1) rfl hcall) rfl wM_L_24 wT_L_row wN_L wC_L_row (by decide +kernel) rfl (by decide) (by decide) (Nat.le_of_ble_eq_true rfl) (by decide) dL_isPushed_49 ?_
    refine lr_istore hO 52 (v := v9) rfl (lv' := [(6, .int v9), (5, .int v7), (4, .ref r6), (3, .ref r4), (0, .ref (X.1 18 0)), (1, .int a1), (2, .int a2)]) hn (by decide) rfl dL_isPushed_52 ?_
    refine lr_iload_n hO 54 6 rfl dL_isPushed_54 ?_
    refine lr_iload hO 55 1 rfl dL_isPushed_55 ?_
    obtain ⟨J11, e_J11, h⟩ := of_lt h
    have J11_T : ∀ (v12 : Int32) (μ13 : mT), J11 v12 μ13 = some (r, μ') → lj X [(60, r4), (61, r6)] 2 Γ μ13 102 [(0, .ref (X.1 18 0)), (1, .int a1), (2, .int a2), (3, .ref r4), (4, .ref r6), (5, .int v7), (6, .int v9)] [.int v12] := by
      intro v12 μ13 h
      rw [e_J11] at h
      refine lr_istore hO 102 (v := v12) rfl (lv' := [(7, .int v12), (0, .ref (X.1 18 0)), (1, .int a1), (2, .int a2), (3, .ref r4), (4, .ref r6), (5, .int v7), (6, .int v9)]) hn (by decide) rfl dL_isPushed_102 ?_
      refine lr_aload_n hO 104 1 rfl dL_isPushed_104 ?_
      obtain ⟨v14, μa_μ15, μ15, hcall, e_μ15, h⟩ := of_bm h
      refine lr_callI hO 105 (na := 0) (As := []) (st := []) (c_X7_roomFor hX hcall) e_μ15 rfl wM_L_47 wI_X7_roomFor wS_X7_roomFor wN_X7 wC_X7_roomFor (by decide +kernel) rfl (by decide) (by decide) (Nat.le_of_ble_eq_true rfl) (by decide) dL_isPushed_105 ?_
      refine lr_iload_n hO 108 2 rfl dL_isPushed_108 ?_
      refine lr_ishr hO 109 dL_isPushed_109 ?_
      refine lr_iconst hO 110 (v := 1) (by decide) dL_isPushed_110 ?_
      refine lr_iand hO 111 dL_isPushed_111 ?_
      refine lr_iconst hO 112 (v := 1) (by decide) dL_isPushed_112 ?_
      obtain ⟨J16, e_J16, h⟩ := of_lt h
      have J16_T : ∀ (v17 : Int32) (μ18 : mT), J16 v17 μ18 = some (r, μ') → lj X [(60, r4), (61, r6)] 2 Γ μ18 121 [(0, .ref (X.1 18 0)), (1, .int a1), (2, .int a2), (3, .ref r4), (4, .ref r6), (5, .int v7), (6, .int v9), (7, .int v12)] [.int v17] := by
        intro v17 μ18 h
        rw [e_J16] at h
        refine lr_istore hO 121 (v := v17) rfl (lv' := [(8, .int v17), (0, .ref (X.1 18 0)), (1, .int a1), (2, .int a2), (3, .ref r4), (4, .ref r6), (5, .int v7), (6, .int v9), (7, .int v12)]) hn (by decide) rfl dL_isPushed_121 ?_
        refine lr_iload_n hO 123 3 rfl dL_isPushed_123 ?_
        refine lr_iload hO 124 6 rfl dL_isPushed_124 ?_
        obtain ⟨J19, e_J19, h⟩ := of_lt h
        have J19_T : ∀ (μ20 : mT), J19 μ20 = some (r, μ') → lj X [(60, r4), (61, r6)] 2 Γ μ20 138 [(0, .ref (X.1 18 0)), (1, .int a1), (2, .int a2), (3, .ref r4), (4, .ref r6), (5, .int v7), (6, .int v9), (7, .int v12)] [] := by
          intro μ20 h
          rw [e_J19] at h
          refine lr_iload hO 138 6 rfl dL_isPushed_138 ?_
          obtain ⟨J21, e_J21, h⟩ := of_lt h
          have J21_T : ∀ (v22 : Int32) (μ23 : mT), J21 v22 μ23 = some (r, μ') → lj X [(60, r4), (61, r6)] 2 Γ μ23 148 [(0, .ref (X.1 18 0)), (1, .int a1), (2, .int a2), (3, .ref r4), (4, .ref r6), (5, .int v7), (6, .int v9), (7, .int v12)] [.int v22] := by
            intro v22 μ23 h
            rw [e_J21] at h
            refine lr_istore hO 148 (v := v22) rfl (lv' := [(9, .int v22), (0, .ref (X.1 18 0)), (1, .int a1), (2, .int a2), (3, .ref r4), (4, .ref r6), (5, .int v7), (6, .int v9), (7, .int v12)]) hn (by decide) rfl dL_isPushed_148 ?_
            refine lr_aload_n hO 150 1 rfl dL_isPushed_150 ?_
            refine lr_bipush hO 151 (v := 17) (by decide) dL_isPushed_151 ?_
            obtain ⟨v24, μa_μ25, μ25, hcall, e_μ25, h⟩ := of_bm h
            refine lr_callI hO 153 (na := 1) (As := [.int 17]) (st := []) (c_X7_count hX hcall) e_μ25 rfl wM_L_8 wI_X7_count wS_X7_count wN_X7 wC_X7_count (by decide +kernel) rfl (by decide) (by decide) (Nat.le_of_ble_eq_true rfl) (by decide) dL_isPushed_153 ?_
            refine lr_iload hO 156 0 rfl dL_isPushed_156 ?_
            refine lr_aload_n hO 158 1 rfl dL_isPushed_158 ?_
            refine lr_bipush hO 159 (v := 18) (by decide) dL_isPushed_159 ?_
            obtain ⟨v26, μa_μ27, μ27, hcall, e_μ27, h⟩ := of_bm h
            refine lr_callI hO 161 (na := 1) (As := [.int 18]) (st := [.int v22, .int v24]) (c_X7_count hX hcall) e_μ27 rfl wM_L_8 wI_X7_count wS_X7_count wN_X7 wC_X7_count (by decide +kernel) rfl (by decide) (by decide) (Nat.le_of_ble_eq_true rfl) (by decide) dL_isPushed_161 ?_
            refine lr_imul hO 164 dL_isPushed_164 ?_
            refine lr_iadd hO 165 dL_isPushed_165 ?_
            obtain ⟨v28, e_v28, h⟩ := of_lt h
            refine lr_istore hO 166 (v := v28) e_v28 (lv' := [(10, .int v28), (9, .int v22), (0, .ref (X.1 18 0)), (1, .int a1), (2, .int a2), (3, .ref r4), (4, .ref r6), (5, .int v7), (6, .int v9), (7, .int v12)]) hn (by decide) rfl dL_isPushed_166 ?_
            refine lr_aload_n hO 168 2 rfl dL_isPushed_168 ?_
            refine lr_iconst hO 169 (v := 0) (by decide) dL_isPushed_169 ?_
            obtain ⟨v29, μa_μ30, μ30, hcall, e_μ30, h⟩ := of_bm h
            refine lr_callI hO 170 (na := 1) (As := [.int 0]) (st := []) (c_X7_count hX hcall) e_μ30 rfl wM_L_8 wI_X7_count wS_X7_count wN_X7 wC_X7_count (by decide +kernel) rfl (by decide) (by decide) (Nat.le_of_ble_eq_true rfl) (by decide) dL_isPushed_170 ?_
            refine lr_istore hO 173 (v := v29) rfl (lv' := [(11, .int v29), (10, .int v28), (9, .int v22), (0, .ref (X.1 18 0)), (1, .int a1), (2, .int a2), (3, .ref r4), (4, .ref r6), (5, .int v7), (6, .int v9), (7, .int v12)]) hn (by decide) rfl dL_isPushed_173 ?_
            refine lr_aload_n hO 175 3 rfl dL_isPushed_175 ?_
            refine lr_iload hO 176 1 rfl dL_isPushed_176 ?_
            obtain ⟨v31, μa_μ32, μ32, hcall, e_μ32, h⟩ := of_bm h
            refine lr_callI hO 178 (na := 1) (As := [.int v28]) (st := []) (c_X7_freeFrom hX hcall) e_μ32 rfl wM_L_37 wI_X7_freeFrom wS_X7_freeFrom wN_X7 wC_X7_freeFrom (by decide +kernel) rfl (by decide) (by decide) (Nat.le_of_ble_eq_true rfl) (by decide) dL_isPushed_178 ?_
            refine lr_istore hO 181 (v := v31) rfl (lv' := [(12, .int v31), (11, .int v29), (10, .int v28), (9, .int v22), (0, .ref (X.1 18 0)), (1, .int a1), (2, .int a2), (3, .ref r4), (4, .ref r6), (5, .int v7), (6, .int v9), (7, .int v12)]) hn (by decide) rfl dL_isPushed_181 ?_
            refine lr_aload_n hO 183 4 rfl dL_isPushed_183 ?_
            refine lr_bipush hO 184 (v := 9) (by decide) dL_isPushed_184 ?_
            obtain ⟨v33, μa_μ34, μ34, hcall, e_μ34, h⟩ := of_bm h
            refine lr_callI hO 186 (na := 1) (As := [.int 9]) (st := []) (c_X7_count hX hcall) e_μ34 rfl wM_L_8 wI_X7_count wS_X7_count wN_X7 wC_X7_count (by decide +kernel) rfl (by decide) (by decide) (Nat.le_of_ble_eq_true rfl) (by decide) dL_isPushed_186 ?_
            refine lr_istore hO 189 (v := v33) rfl (lv' := [(13, .int v33), (12, .int v31), (11, .int v29), (10, .int v28), (9, .int v22), (0, .ref (X.1 18 0)), (1, .int a1), (2, .int a2), (3, .ref r4), (4, .ref r6), (5, .int v7), (6, .int v9), (7, .int v12)]) hn (by decide) rfl dL_isPushed_189 ?_
            refine lr_aload_n hO 191 5 rfl dL_isPushed_191 ?_
            refine lr_bipush hO 192 (v := 10) (by decide) dL_isPushed_192 ?_
            obtain ⟨v35, μa_μ36, μ36, hcall, e_μ36, h⟩ := of_bm h
            refine lr_callI hO 194 (na := 1) (As := [.int 10]) (st := []) (c_X7_count hX hcall) e_μ36 rfl wM_L_8 wI_X7_count wS_X7_count wN_X7 wC_X7_count (by decide +kernel) rfl (by decide) (by decide) (Nat.le_of_ble_eq_true rfl) (by decide) dL_isPushed_194 ?_
            refine lr_istore hO 197 (v := v35) rfl (lv' := [(14, .int v35), (13, .int v33), (12, .int v31), (11, .int v29), (10, .int v28), (9, .int v22), (0, .ref (X.1 18 0)), (1, .int a1), (2, .int a2), (3, .ref r4), (4, .ref r6), (5, .int v7), (6, .int v9), (7, .int v12)]) hn (by decide) rfl dL_isPushed_197 ?_
            refine lr_aload_n hO 199 6 rfl dL_isPushed_199 ?_
            refine lr_bipush hO 200 (v := 11) (by decide) dL_isPushed_200 ?_
            obtain ⟨v37, μa_μ38, μ38, hcall, e_μ38, h⟩ := of_bm h
            refine lr_callI hO 202 (na := 1) (As := [.int 11]) (st := []) (c_X7_count hX hcall) e_μ38 rfl wM_L_8 wI_X7_count wS_X7_count wN_X7 wC_X7_count (by decide +kernel) rfl (by decide) (by decide) (Nat.le_of_ble_eq_true rfl) (by decide) dL_isPushed_202 ?_
            refine lr_istore hO 205 (v := v37) rfl (lv' := [(15, .int v37), (14, .int v35), (13, .int v33), (12, .int v31), (11, .int v29), (10, .int v28), (9, .int v22), (0, .ref (X.1 18 0)), (1, .int a1), (2, .int a2), (3, .ref r4), (4, .ref r6), (5, .int v7), (6, .int v9), (7, .int v12)]) hn (by decide) rfl dL_isPushed_205 ?_
            refine lr_aload_n hO 207 7 rfl dL_isPushed_207 ?_
            refine lr_iload_n hO 208 8 rfl dL_isPushed_208 ?_
            refine lr_iconst hO 209 (v := 4) (by decide) dL_isPushed_209 ?_
            obtain ⟨v39, μa_μ40, μ40, hcall, e_μ40, h⟩ := of_bm h
            refine lr_callI hO 210 (na := 2) (As := [.int a1, .int 4]) (st := []) (c_X7_ofTrack hX hcall) e_μ40 rfl wM_L_14 wI_X7_ofTrack wS_X7_ofTrack wN_X7 wC_X7_ofTrack (by decide +kernel) rfl (by decide) (by decide) (Nat.le_of_ble_eq_true rfl) (by decide) dL_isPushed_210 ?_
            refine lr_istore hO 213 (v := v39) rfl (lv' := [(16, .int v39), (15, .int v37), (14, .int v35), (13, .int v33), (12, .int v31), (11, .int v29), (10, .int v28), (9, .int v22), (0, .ref (X.1 18 0)), (1, .int a1), (2, .int a2), (3, .ref r4), (4, .ref r6), (5, .int v7), (6, .int v9), (7, .int v12)]) hn (by decide) rfl dL_isPushed_213 ?_
            refine lr_aload_n hO 215 8 rfl dL_isPushed_215 ?_
            refine lr_iload_n hO 216 9 rfl dL_isPushed_216 ?_
            refine lr_iload_n hO 217 10 rfl dL_isPushed_217 ?_
            obtain ⟨v41, μa_μ42, μ42, hcall, e_μ42, h⟩ := of_bm h
            refine lr_callI hO 218 (na := 2) (As := [.int a1, .int a2]) (st := []) (c_X7_push hX hcall) e_μ42 rfl wM_L_44 wI_X7_push wS_X7_push wN_X7 wC_X7_push (by decide +kernel) rfl (by decide) (by decide) (Nat.le_of_ble_eq_true rfl) (by decide) dL_isPushed_218 ?_
            refine lr_istore hO 221 (v := v41) rfl (lv' := [(17, .int v41), (16, .int v39), (15, .int v37), (14, .int v35), (13, .int v33), (12, .int v31), (11, .int v29), (10, .int v28), (9, .int v22), (0, .ref (X.1 18 0)), (1, .int a1), (2, .int a2), (3, .ref r4), (4, .ref r6), (5, .int v7), (6, .int v9), (7, .int v12)]) hn (by decide) rfl dL_isPushed_221 ?_
            refine lr_iload hO 223 16 rfl dL_isPushed_223 ?_
            refine lr_if_ne hO 225 272 (by decide) dL_isPushed_225 (fun hc => ?_) (fun hc => ?_)
            · have h := of_f hc h
              refine lr_iload hO 272 0 rfl dL_isPushed_272 ?_
              refine lr_iload hO 274 14 rfl dL_isPushed_274 ?_
              refine lr_iload_n hO 276 11 rfl dL_isPushed_276 ?_
              refine lr_isub hO 277 dL_isPushed_277 ?_
              refine lr_icmp_ne hO 278 307 (by decide) dL_isPushed_278 (fun hc => ?_) (fun hc => ?_)
              · have h := of_f hc h
                refine lr_iconst hO 307 (v := 0) (by decide) dL_isPushed_307 ?_
                cases h
                exact lr_iret hO 308 (by simp) (by decide) hQ (by decide) dL_isPushed_308
              · have h := of_t hc h
                refine lr_aload_n hO 281 9 rfl dL_isPushed_281 ?_
                refine lr_iload_n hO 282 10 rfl dL_isPushed_282 ?_
                refine lr_iconst hO 283 (v := 1) (by decide) dL_isPushed_283 ?_
                obtain ⟨v43, μa_μ44, μ44, hcall, e_μ44, h⟩ := of_bm h
                refine lr_callI hO 284 (na := 2) (As := [.int a1, .int 1]) (st := []) (c_X7_ofTrack hX hcall) e_μ44 rfl wM_L_14 wI_X7_ofTrack wS_X7_ofTrack wN_X7 wC_X7_ofTrack (by decide +kernel) rfl (by decide) (by decide) (Nat.le_of_ble_eq_true rfl) (by decide) dL_isPushed_284 ?_
                refine lr_iload hO 287 15 rfl dL_isPushed_287 ?_
                refine lr_iload_n hO 289 11 rfl dL_isPushed_289 ?_
                refine lr_iadd hO 290 dL_isPushed_290 ?_
                refine lr_icmp_ne hO 291 307 (by decide) dL_isPushed_291 (fun hc => ?_) (fun hc => ?_)
                · have h := of_f hc h
                  refine lr_iconst hO 307 (v := 0) (by decide) dL_isPushed_307 ?_
                  cases h
                  exact lr_iret hO 308 (by simp) (by decide) hQ (by decide) dL_isPushed_308
                · have h := of_t hc h
                  refine lr_aload_n hO 294 9 rfl dL_isPushed_294 ?_
                  refine lr_iload_n hO 295 10 rfl dL_isPushed_295 ?_
                  refine lr_iconst hO 296 (v := 4) (by decide) dL_isPushed_296 ?_
                  obtain ⟨v45, μa_μ46, μ46, hcall, e_μ46, h⟩ := of_bm h
                  refine lr_callI hO 297 (na := 2) (As := [.int a1, .int 4]) (st := []) (c_X7_ofTrack hX hcall) e_μ46 rfl wM_L_14 wI_X7_ofTrack wS_X7_ofTrack wN_X7 wC_X7_ofTrack (by decide +kernel) rfl (by decide) (by decide) (Nat.le_of_ble_eq_true rfl) (by decide) dL_isPushed_297 ?_
                  refine lr_iload hO 300 1 rfl dL_isPushed_300 ?_
                  refine lr_iload_n hO 302 11 rfl dL_isPushed_302 ?_
                  refine lr_iadd hO 303 dL_isPushed_303 ?_
                  refine lr_icmp_eq hO 304 309 (by decide) dL_isPushed_304 (fun hc => ?_) (fun hc => ?_)
                  · have h := of_t hc h
                    refine lr_iconst hO 309 (v := 0) (by decide) dL_isPushed_309 ?_
                    refine lr_istore hO 310 (v := 0) rfl (lv' := [(18, .int 0), (17, .int v41), (16, .int v39), (15, .int v37), (14, .int v35), (13, .int v33), (12, .int v31), (11, .int v29), (10, .int v28), (9, .int v22), (0, .ref (X.1 18 0)), (1, .int a1), (2, .int a2), (3, .ref r4), (4, .ref r6), (5, .int v7), (6, .int v9), (7, .int v12)]) hn (by decide) rfl dL_isPushed_310 ?_
                    obtain ⟨K49, e_K49, h⟩ := of_lt h
                    have K49_T : ∀ (μ50 : mT), K49 μ50 = some (r, μ') → lj X [(60, r4), (61, r6)] 2 Γ μ50 364 [(0, .ref (X.1 18 0)), (2, .int a2), (3, .ref r4), (5, .int v7), (9, .int v22), (10, .int v28), (11, .int v29), (12, .int v31), (13, .int v33), (14, .int v35), (15, .int v37)] [] := by
                      intro μ50 h
                      rw [e_K49] at h
                      refine lr_iconst hO 364 (v := 0) (by decide) dL_isPushed_364 ?_
                      refine lr_istore hO 365 (v := 0) rfl (lv' := [(18, .int 0), (0, .ref (X.1 18 0)), (2, .int a2), (3, .ref r4), (5, .int v7), (9, .int v22), (10, .int v28), (11, .int v29), (12, .int v31), (13, .int v33), (14, .int v35), (15, .int v37)]) hn (by decide) rfl dL_isPushed_365 ?_
                      obtain ⟨K53, e_K53, h⟩ := of_lt h
                      have K53_T : ∀ (μ54 : mT), K53 μ54 = some (r, μ') → lj X [(60, r4), (61, r6)] 2 Γ μ54 399 [(0, .ref (X.1 18 0)), (9, .int v22), (10, .int v28), (11, .int v29), (12, .int v31), (13, .int v33), (14, .int v35), (15, .int v37)] [] := by
                        intro μ54 h
                        rw [e_K53] at h
                        refine lr_aload_n hO 399 0 rfl dL_isPushed_399 ?_
                        refine lr_iload hO 400 3 rfl dL_isPushed_400 ?_
                        refine lr_iload hO 402 4 rfl dL_isPushed_402 ?_
                        refine lr_iload hO 404 2 rfl dL_isPushed_404 ?_
                        refine lr_iload hO 406 1 rfl dL_isPushed_406 ?_
                        refine lr_iload hO 408 5 rfl dL_isPushed_408 ?_
                        refine lr_iload hO 410 6 rfl dL_isPushed_410 ?_
                        refine lr_iload hO 412 7 rfl dL_isPushed_412 ?_
                        obtain ⟨v55, μ56, hcall, h⟩ := of_bd h
                        refine lr_callS hO 414 (na := 8) (mc := 0) (As := [.ref (X.1 18 0), .int v29, .int v31, .int v28, .int v22, .int v33, .int v35, .int v37]) (st := []) (c_L_isTimed hX hcall) rfl wM_L_40 wT_L_isTimed wN_L wC_L_isTimed (by decide +kernel) rfl (by decide) (by decide) (Nat.le_of_ble_eq_true rfl) (by decide) dL_isPushed_414 ?_
                        obtain ⟨hg, h⟩ := of_gd h
                        cases h
                        exact lr_iret hO 417 (by simp) (by decide) hQ (isB_n hg) dL_isPushed_417
                      have L367_T : ∀ (n : Nat) (v51 : Int32) (μ52 : mT), f_L_isPushed_L367 a2 v7 v22 v28 v29 v31 v33 v35 v37 K53 n v51 μ52 = some (r, μ') → lj X [(60, r4), (61, r6)] 2 Γ μ52 367 [(0, .ref (X.1 18 0)), (2, .int a2), (3, .ref r4), (5, .int v7), (9, .int v22), (10, .int v28), (11, .int v29), (12, .int v31), (13, .int v33), (14, .int v35), (15, .int v37), (18, .int v51)] [] := by
                        intro n
                        induction n with
                        | zero =>
                          intro v51 μ52 h
                          rw [f_L_isPushed_L367] at h
                          cases h
                        | succ n ih =>
                          intro v51 μ52 h
                          rw [f_L_isPushed_L367] at h
                          refine lr_iload hO 367 11 rfl dL_isPushed_367 ?_
                          refine lr_iload hO 369 3 rfl dL_isPushed_369 ?_
                          refine lr_iload_n hO 371 1 rfl dL_isPushed_371 ?_
                          refine lr_isub hO 372 dL_isPushed_372 ?_
                          refine lr_icmp_ge hO 373 399 (by decide) dL_isPushed_373 (fun hc => ?_) (fun hc => ?_)
                          · have h := of_t hc h
                            refine lr_sub [0, 4, 5, 6, 7, 8, 9, 10] rfl ?_
                            exact K53_T _ h
                          · have h := of_f hc h
                            refine lr_aload_n hO 376 0 rfl dL_isPushed_376 ?_
                            refine lr_bipush hO 377 (v := (-6)) (by decide) dL_isPushed_377 ?_
                            refine lr_iload hO 379 11 rfl dL_isPushed_379 ?_
                            obtain ⟨v57, μa_μ58, μ58, hcall, e_μ58, h⟩ := of_bm h
                            refine lr_callI hO 381 (na := 2) (As := [.int ((-6)), .int v51]) (st := []) (c_X7_at hX hcall) e_μ58 rfl wM_L_18 wI_X7_at wS_X7_at wN_X7 wC_X7_at (by decide +kernel) rfl (by decide) (by decide) (Nat.le_of_ble_eq_true rfl) (by decide) dL_isPushed_381 ?_
                            refine lr_aload_n hO 384 2 rfl dL_isPushed_384 ?_
                            refine lr_iload hO 385 11 rfl dL_isPushed_385 ?_
                            obtain ⟨hg, h⟩ := of_gd h
                            refine lr_iald hO 387 (κ := 60) (a := r4) (ia := 0) rfl hg dL_isPushed_387 ?_
                            refine lr_icmp_eq hO 388 393 (by decide) dL_isPushed_388 (fun hc => ?_) (fun hc => ?_)
                            · have h := of_t hc h
                              obtain ⟨v59, e_v59, h⟩ := of_lt h
                              refine lr_iinc hO 393 (q := 11) (v := v59) (lv' := [(18, .int v59), (0, .ref (X.1 18 0)), (2, .int a2), (3, .ref r4), (5, .int v7), (9, .int v22), (10, .int v28), (11, .int v29), (12, .int v31), (13, .int v33), (14, .int v35), (15, .int v37)]) hn rfl (by rw [e_v59]; rfl) (by decide) rfl dL_isPushed_393 ?_
                              refine lr_goto hO 396 367 (by decide) dL_isPushed_396 ?_
                              refine lr_sub [1, 2, 3, 4, 5, 6, 7, 8, 9, 10, 11, 0] rfl ?_
                              exact ih _ _ h
                            · have h := of_f hc h
                              refine lr_iconst hO 391 (v := 0) (by decide) dL_isPushed_391 ?_
                              cases h
                              exact lr_iret hO 392 (by simp) (by decide) hQ (by decide) dL_isPushed_392
                      refine lr_sub [1, 2, 3, 4, 5, 6, 7, 8, 9, 10, 11, 0] rfl ?_
                      exact L367_T _ _ _ h
                    have L312_T : ∀ (n : Nat) (v47 : Int32) (μ48 : mT), f_L_isPushed_L312 a1 a2 v7 v9 v22 v28 v29 v31 v33 v35 v37 K49 n v47 μ48 = some (r, μ') → lj X [(60, r4), (61, r6)] 2 Γ μ48 312 [(0, .ref (X.1 18 0)), (1, .int a1), (2, .int a2), (3, .ref r4), (4, .ref r6), (5, .int v7), (6, .int v9), (9, .int v22), (10, .int v28), (11, .int v29), (12, .int v31), (13, .int v33), (14, .int v35), (15, .int v37), (18, .int v47)] [] := by
                      intro n
                      induction n with
                      | zero =>
                        intro v47 μ48 h
                        rw [f_L_isPushed_L312] at h
                        cases h
                      | succ n ih =>
                        intro v47 μ48 h
                        rw [f_L_isPushed_L312] at h
                        refine lr_iload hO 312 14 rfl dL_isPushed_312 ?_
                        refine lr_iload hO 314 6 rfl dL_isPushed_314 ?_
                        refine lr_iload_n hO 316 2 rfl dL_isPushed_316 ?_
                        refine lr_iadd hO 317 dL_isPushed_317 ?_
                        refine lr_icmp_ge hO 318 364 (by decide) dL_isPushed_318 (fun hc => ?_) (fun hc => ?_)
                        · have h := of_t hc h
                          refine lr_sub [0, 2, 3, 5, 7, 8, 9, 10, 11, 12, 13] rfl ?_
                          exact K49_T _ h
                        · have h := of_f hc h
                          refine lr_aload_n hO 321 0 rfl dL_isPushed_321 ?_
                          refine lr_iload_n hO 322 1 rfl dL_isPushed_322 ?_
                          refine lr_iload hO 323 14 rfl dL_isPushed_323 ?_
                          obtain ⟨v60, μa_μ61, μ61, hcall, e_μ61, h⟩ := of_bm h
                          refine lr_callI hO 325 (na := 2) (As := [.int a1, .int v47]) (st := []) (c_X7_at hX hcall) e_μ61 rfl wM_L_18 wI_X7_at wS_X7_at wN_X7 wC_X7_at (by decide +kernel) rfl (by decide) (by decide) (Nat.le_of_ble_eq_true rfl) (by decide) dL_isPushed_325 ?_
                          refine lr_iload hO 328 14 rfl dL_isPushed_328 ?_
                          refine lr_iload_n hO 330 2 rfl dL_isPushed_330 ?_
                          obtain ⟨J62, e_J62, h⟩ := of_lt h
                          have J62_T : ∀ (v63 : Int32) (μ64 : mT), J62 v63 μ64 = some (r, μ') → lj X [(60, r4), (61, r6)] 2 Γ μ64 353 [(0, .ref (X.1 18 0)), (1, .int a1), (2, .int a2), (3, .ref r4), (4, .ref r6), (5, .int v7), (6, .int v9), (9, .int v22), (10, .int v28), (11, .int v29), (12, .int v31), (13, .int v33), (14, .int v35), (15, .int v37), (18, .int v47)] [.int v63, .int v60] := by
                            intro v63 μ64 h
                            rw [e_J62] at h
                            refine lr_icmp_eq hO 353 358 (by decide) dL_isPushed_353 (fun hc => ?_) (fun hc => ?_)
                            · have h := of_t hc h
                              obtain ⟨v65, e_v65, h⟩ := of_lt h
                              refine lr_iinc hO 358 (q := 14) (v := v65) (lv' := [(18, .int v65), (0, .ref (X.1 18 0)), (1, .int a1), (2, .int a2), (3, .ref r4), (4, .ref r6), (5, .int v7), (6, .int v9), (9, .int v22), (10, .int v28), (11, .int v29), (12, .int v31), (13, .int v33), (14, .int v35), (15, .int v37)]) hn rfl (by rw [e_v65]; rfl) (by decide) rfl dL_isPushed_358 ?_
                              refine lr_goto hO 361 312 (by decide) dL_isPushed_361 ?_
                              refine lr_sub [1, 2, 3, 4, 5, 6, 7, 8, 9, 10, 11, 12, 13, 14, 0] rfl ?_
                              exact ih _ _ h
                            · have h := of_f hc h
                              refine lr_iconst hO 356 (v := 0) (by decide) dL_isPushed_356 ?_
                              cases h
                              exact lr_iret hO 357 (by simp) (by decide) hQ (by decide) dL_isPushed_357
                          refine lr_icmp_ge hO 331 346 (by decide) dL_isPushed_331 (fun hc => ?_) (fun hc => ?_)
                          · have h := of_t hc h
                            refine lr_aload hO 346 4 rfl dL_isPushed_346 ?_
                            refine lr_iload hO 348 14 rfl dL_isPushed_348 ?_
                            refine lr_iload_n hO 350 2 rfl dL_isPushed_350 ?_
                            refine lr_isub hO 351 dL_isPushed_351 ?_
                            obtain ⟨hg, h⟩ := of_gd h
                            refine lr_iald hO 352 (κ := 61) (a := r6) (ia := 1) rfl hg dL_isPushed_352 ?_
                            exact J62_T _ _ h
                          · have h := of_f hc h
                            refine lr_aload_n hO 334 3 rfl dL_isPushed_334 ?_
                            refine lr_iload hO 335 5 rfl dL_isPushed_335 ?_
                            refine lr_iload_n hO 337 2 rfl dL_isPushed_337 ?_
                            refine lr_isub hO 338 dL_isPushed_338 ?_
                            refine lr_iload hO 339 14 rfl dL_isPushed_339 ?_
                            refine lr_iadd hO 341 dL_isPushed_341 ?_
                            obtain ⟨hg, h⟩ := of_gd h
                            refine lr_iald hO 342 (κ := 60) (a := r4) (ia := 0) rfl hg dL_isPushed_342 ?_
                            refine lr_goto hO 343 353 (by decide) dL_isPushed_343 ?_
                            exact J62_T _ _ h
                    refine lr_sub [10, 11, 12, 13, 14, 15, 16, 9, 8, 7, 6, 5, 4, 3, 0] rfl ?_
                    exact L312_T _ _ _ h
                  · have h := of_f hc h
                    refine lr_iconst hO 307 (v := 0) (by decide) dL_isPushed_307 ?_
                    cases h
                    exact lr_iret hO 308 (by simp) (by decide) hQ (by decide) dL_isPushed_308
            · have h := of_t hc h
              refine lr_iload hO 228 0 rfl dL_isPushed_228 ?_
              refine lr_bipush hO 230 (v := (-5)) (by decide) dL_isPushed_230 ?_
              refine lr_icmp_ne hO 232 270 (by decide) dL_isPushed_232 (fun hc => ?_) (fun hc => ?_)
              · have h := of_f hc h
                refine lr_iconst hO 270 (v := 0) (by decide) dL_isPushed_270 ?_
                cases h
                exact lr_iret hO 271 (by simp) (by decide) hQ (by decide) dL_isPushed_271
              · have h := of_t hc h
                refine lr_aload_n hO 235 9 rfl dL_isPushed_235 ?_
                refine lr_iconst hO 236 (v := 3) (by decide) dL_isPushed_236 ?_
                obtain ⟨v66, μa_μ67, μ67, hcall, e_μ67, h⟩ := of_bm h
                refine lr_callI hO 237 (na := 1) (As := [.int 3]) (st := []) (c_X7_count hX hcall) e_μ67 rfl wM_L_8 wI_X7_count wS_X7_count wN_X7 wC_X7_count (by decide +kernel) rfl (by decide) (by decide) (Nat.le_of_ble_eq_true rfl) (by decide) dL_isPushed_237 ?_
                refine lr_iload hO 240 14 rfl dL_isPushed_240 ?_
                refine lr_icmp_ne hO 242 270 (by decide) dL_isPushed_242 (fun hc => ?_) (fun hc => ?_)
                · have h := of_f hc h
                  refine lr_iconst hO 270 (v := 0) (by decide) dL_isPushed_270 ?_
                  cases h
                  exact lr_iret hO 271 (by simp) (by decide) hQ (by decide) dL_isPushed_271
                · have h := of_t hc h
                  refine lr_aload_n hO 245 9 rfl dL_isPushed_245 ?_
                  refine lr_iload_n hO 246 10 rfl dL_isPushed_246 ?_
                  refine lr_iconst hO 247 (v := 1) (by decide) dL_isPushed_247 ?_
                  obtain ⟨v68, μa_μ69, μ69, hcall, e_μ69, h⟩ := of_bm h
                  refine lr_callI hO 248 (na := 2) (As := [.int a1, .int 1]) (st := []) (c_X7_ofTrack hX hcall) e_μ69 rfl wM_L_14 wI_X7_ofTrack wS_X7_ofTrack wN_X7 wC_X7_ofTrack (by decide +kernel) rfl (by decide) (by decide) (Nat.le_of_ble_eq_true rfl) (by decide) dL_isPushed_248 ?_
                  refine lr_iload hO 251 15 rfl dL_isPushed_251 ?_
                  refine lr_icmp_ne hO 253 270 (by decide) dL_isPushed_253 (fun hc => ?_) (fun hc => ?_)
                  · have h := of_f hc h
                    refine lr_iconst hO 270 (v := 0) (by decide) dL_isPushed_270 ?_
                    cases h
                    exact lr_iret hO 271 (by simp) (by decide) hQ (by decide) dL_isPushed_271
                  · have h := of_t hc h
                    refine lr_aload_n hO 256 9 rfl dL_isPushed_256 ?_
                    refine lr_iconst hO 257 (v := 0) (by decide) dL_isPushed_257 ?_
                    obtain ⟨v70, μa_μ71, μ71, hcall, e_μ71, h⟩ := of_bm h
                    refine lr_callI hO 258 (na := 1) (As := [.int 0]) (st := []) (c_X7_count hX hcall) e_μ71 rfl wM_L_8 wI_X7_count wS_X7_count wN_X7 wC_X7_count (by decide +kernel) rfl (by decide) (by decide) (Nat.le_of_ble_eq_true rfl) (by decide) dL_isPushed_258 ?_
                    refine lr_iload hO 261 6 rfl dL_isPushed_261 ?_
                    refine lr_icmp_ne hO 263 270 (by decide) dL_isPushed_263 (fun hc => ?_) (fun hc => ?_)
                    · have h := of_f hc h
                      refine lr_iconst hO 270 (v := 0) (by decide) dL_isPushed_270 ?_
                      cases h
                      exact lr_iret hO 271 (by simp) (by decide) hQ (by decide) dL_isPushed_271
                    · have h := of_t hc h
                      refine lr_iconst hO 266 (v := 1) (by decide) dL_isPushed_266 ?_
                      refine lr_goto hO 267 271 (by decide) dL_isPushed_267 ?_
                      cases h
                      exact lr_iret hO 271 (by simp) (by decide) hQ (by decide) dL_isPushed_271
          refine lr_if_le hO 140 147 (by decide) dL_isPushed_140 (fun hc => ?_) (fun hc => ?_)
          · have h := of_t hc h
            refine lr_iconst hO 147 (v := 1) (by decide) dL_isPushed_147 ?_
            exact J21_T _ _ h
          · have h := of_f hc h
            refine lr_iconst hO 143 (v := 2) (by decide) dL_isPushed_143 ?_
            refine lr_goto hO 144 148 (by decide) dL_isPushed_144 ?_
            exact J21_T _ _ h
        refine lr_icmp_ne hO 126 138 (by decide) dL_isPushed_126 (fun hc => ?_) (fun hc => ?_)
        · have h := of_f hc h
          refine lr_sub [1, 2, 3, 4, 5, 6, 7, 8] rfl ?_
          exact J19_T _ h
        · have h := of_t hc h
          refine lr_iload hO 129 8 rfl dL_isPushed_129 ?_
          refine lr_iload hO 131 0 rfl dL_isPushed_131 ?_
          refine lr_icmp_eq hO 133 138 (by decide) dL_isPushed_133 (fun hc => ?_) (fun hc => ?_)
          · have h := of_t hc h
            refine lr_sub [1, 2, 3, 4, 5, 6, 7, 8] rfl ?_
            exact J19_T _ h
          · have h := of_f hc h
            refine lr_iconst hO 136 (v := 0) (by decide) dL_isPushed_136 ?_
            cases h
            exact lr_iret hO 137 (by simp) (by decide) hQ (by decide) dL_isPushed_137
      refine lr_icmp_ne hO 113 120 (by decide) dL_isPushed_113 (fun hc => ?_) (fun hc => ?_)
      · have h := of_f hc h
        refine lr_iconst hO 120 (v := 0) (by decide) dL_isPushed_120 ?_
        refine lr_sub [1, 2, 3, 4, 5, 6, 7, 0] rfl ?_
        exact J16_T _ _ h
      · have h := of_t hc h
        refine lr_iconst hO 116 (v := 1) (by decide) dL_isPushed_116 ?_
        refine lr_goto hO 117 121 (by decide) dL_isPushed_117 ?_
        refine lr_sub [1, 2, 3, 4, 5, 6, 7, 0] rfl ?_
        exact J16_T _ _ h
    obtain ⟨J72, e_J72, h⟩ := of_lt h
    have J72_T : ∀ (μ73 : mT), J72 μ73 = some (r, μ') → lj X [(60, r4), (61, r6)] 2 Γ μ73 101 [(0, .ref (X.1 18 0)), (1, .int a1), (2, .int a2), (3, .ref r4), (4, .ref r6), (5, .int v7), (6, .int v9)] [] := by
      intro μ73 h
      rw [e_J72] at h
      refine lr_iconst hO 101 (v := 0) (by decide) dL_isPushed_101 ?_
      exact J11_T _ _ h
    refine lr_icmp_gt hO 57 101 (by decide) dL_isPushed_57 (fun hc => ?_) (fun hc => ?_)
    · have h := of_t hc h
      refine lr_sub [4, 5, 6, 3, 2, 1, 0] rfl ?_
      exact J72_T _ h
    · have h := of_f hc h
      refine lr_aload_n hO 60 4 rfl dL_isPushed_60 ?_
      refine lr_iload_n hO 61 5 rfl dL_isPushed_61 ?_
      refine lr_iconst hO 62 (v := 2) (by decide) dL_isPushed_62 ?_
      obtain ⟨v74, μa_μ75, μ75, hcall, e_μ75, h⟩ := of_bm h
      refine lr_callI hO 63 (na := 2) (As := [.int a1, .int 2]) (st := []) (c_X7_ofTrack hX hcall) e_μ75 rfl wM_L_14 wI_X7_ofTrack wS_X7_ofTrack wN_X7 wC_X7_ofTrack (by decide +kernel) rfl (by decide) (by decide) (Nat.le_of_ble_eq_true rfl) (by decide) dL_isPushed_63 ?_
      refine lr_aload_n hO 66 4 rfl dL_isPushed_66 ?_
      refine lr_aload_n hO 67 3 rfl dL_isPushed_67 ?_
      refine lr_iload_n hO 68 6 rfl dL_isPushed_68 ?_
      refine lr_iload hO 69 1 rfl dL_isPushed_69 ?_
      obtain ⟨J76, e_J76, h⟩ := of_lt h
      have J76_T : ∀ (v77 : Int32) (μ78 : mT), J76 v77 μ78 = some (r, μ') → lj X [(60, r4), (61, r6)] 2 Γ μ78 82 [(0, .ref (X.1 18 0)), (1, .int a1), (2, .int a2), (3, .ref r4), (4, .ref r6), (5, .int v7), (6, .int v9)] [.int v77, .ref r4, .ref (X.1 18 0), .int v74] := by
        intro v77 μ78 h
        rw [e_J76] at h
        refine lr_iload hO 82 5 rfl dL_isPushed_82 ?_
        obtain ⟨v79, μ80, hcall, h⟩ := of_bd h
        refine lr_callS hO 84 (na := 4) (mc := 0) (As := [.ref (X.1 18 0), .ref r4, .int v77, .int v7]) (st := [.int v74]) (c_L_lengths hX (ia := 0) rfl hcall) rfl wM_L_30 wT_L_lengths wN_L wC_L_lengths (by decide +kernel) rfl (by decide) (by decide) (Nat.le_of_ble_eq_true rfl) (by decide) dL_isPushed_84 ?_
        refine lr_iadd hO 87 dL_isPushed_87 ?_
        refine lr_aload_n hO 88 0 rfl dL_isPushed_88 ?_
        refine lr_iload_n hO 89 1 rfl dL_isPushed_89 ?_
        refine lr_iconst hO 90 (v := 0) (by decide) dL_isPushed_90 ?_
        obtain ⟨v81, μa_μ82, μ82, hcall, e_μ82, h⟩ := of_bm h
        refine lr_callI hO 91 (na := 2) (As := [.int a1, .int 0]) (st := [.int (v74 + v79)]) (c_X7_ofTrack hX hcall) e_μ82 rfl wM_L_14 wI_X7_ofTrack wS_X7_ofTrack wN_X7 wC_X7_ofTrack (by decide +kernel) rfl (by decide) (by decide) (Nat.le_of_ble_eq_true rfl) (by decide) dL_isPushed_91 ?_
        refine lr_icmp_gt hO 94 101 (by decide) dL_isPushed_94 (fun hc => ?_) (fun hc => ?_)
        · have h := of_t hc h
          exact J72_T _ h
        · have h := of_f hc h
          refine lr_iconst hO 97 (v := 1) (by decide) dL_isPushed_97 ?_
          refine lr_goto hO 98 102 (by decide) dL_isPushed_98 ?_
          exact J11_T _ _ h
      refine lr_icmp_ge hO 71 81 (by decide) dL_isPushed_71 (fun hc => ?_) (fun hc => ?_)
      · have h := of_t hc h
        refine lr_iconst hO 81 (v := 0) (by decide) dL_isPushed_81 ?_
        refine lr_sub [4, 5, 6, 3, 2, 1, 0] rfl ?_
        exact J76_T _ _ h
      · have h := of_f hc h
        refine lr_iload hO 74 1 rfl dL_isPushed_74 ?_
        refine lr_iload_n hO 76 6 rfl dL_isPushed_76 ?_
        refine lr_isub hO 77 dL_isPushed_77 ?_
        refine lr_goto hO 78 82 (by decide) dL_isPushed_78 ?_
        refine lr_sub [4, 5, 6, 3, 2, 1, 0] rfl ?_
        exact J76_T _ _ h
  · have h := of_f hc h
    refine lr_aload_n hO 9 0 rfl dL_isPushed_9 ?_
    refine lr_iload_n hO 10 1 rfl dL_isPushed_10 ?_
    refine lr_iload_n hO 11 2 rfl dL_isPushed_11 ?_
    obtain ⟨v83, μa_μ84, μ84, hcall, e_μ84, h⟩ := of_bm h
    refine lr_callI hO 12 (na := 2) (As := [.int a1, .int a2]) (st := []) (c_X7_push hX hcall) e_μ84 rfl wM_L_44 wI_X7_push wS_X7_push wN_X7 wC_X7_push (by decide +kernel) rfl (by decide) (by decide) (Nat.le_of_ble_eq_true rfl) (by decide) dL_isPushed_12 ?_
    refine lr_iconst hO 15 (v := (-1)) (by decide) dL_isPushed_15 ?_
    refine lr_icmp_ne hO 16 23 (by decide) dL_isPushed_16 (fun hc => ?_) (fun hc => ?_)
    · have h := of_f hc h
      refine lr_iconst hO 23 (v := 0) (by decide) dL_isPushed_23 ?_
      cases h
      exact lr_iret hO 24 (fun _ h => h) (by decide) hQ (by decide) dL_isPushed_24
    · have h := of_t hc h
      refine lr_iconst hO 19 (v := 1) (by decide) dL_isPushed_19 ?_
      refine lr_goto hO 20 24 (by decide) dL_isPushed_20 ?_
      cases h
      exact lr_iret hO 24 (fun _ h => h) (by decide) hQ (by decide) dL_isPushed_24
set_option maxHeartbeats 4000000 in
set_option maxRecDepth 100000 in
theorem c_L_isRound {X : xT} {Z : scT} (hX : xOK X)  {μ μ' : mT} {r : Int32} (h : f_L_isRound μ = some (r, μ')) : CL X Z [] yL_isRound cL_isRound 12 .boolean 5 109 1 [.ref (X.1 18 0)] μ r μ' := by
  refine CL_of hX (by decide +kernel) (lv := [(0, .ref (X.1 18 0))]) (Nat.le_of_ble_eq_true rfl) rfl (fun Γ hO hn hQ => ?_)
  have hO : OkY X Z RL cL_isRound 5 109 1 Γ := hO
  unfold f_L_isRound at h
  refine lr_bipush hO 0 (v := 32) (by decide) dL_isRound_0 ?_
  obtain ⟨μ1, e_μ1, h⟩ := of_lt h
  refine lr_new hO 2 (κ := 60) (asf := fun r2 => [(60, r2)]) e_μ1 (fun _ => rfl) (by decide) (by simp) (by decide) dL_isRound_2 (fun r2 => ?_)
  refine lr_astore_n hO 4 rfl (lv' := [(1, .ref r2), (0, .ref (X.1 18 0))]) hn rfl (by decide) rfl dL_isRound_4 ?_
  refine lr_aload_n hO 5 1 rfl dL_isRound_5 ?_
  refine lr_bipush hO 6 (v := (-6)) (by decide) dL_isRound_6 ?_
  refine lr_aload_n hO 8 0 rfl dL_isRound_8 ?_
  obtain ⟨v3, μ4, hcall, h⟩ := of_bd h
  refine lr_callS hO 9 (na := 3) (mc := 0) (As := [.ref (X.1 18 0), .int ((-6)), .ref r2]) (st := []) (c_L_row hX (ia := 0) rfl hcall) rfl wM_L_24 wT_L_row wN_L wC_L_row (by decide +kernel) rfl (by decide) (by decide) (Nat.le_of_ble_eq_true rfl) (by decide) dL_isRound_9 ?_
  refine lr_istore_n hO 12 (v := v3) rfl (lv' := [(2, .int v3), (1, .ref r2), (0, .ref (X.1 18 0))]) hn rfl (by decide) rfl dL_isRound_12 ?_
  refine lr_iload_n hO 13 0 rfl dL_isRound_13 ?_
  obtain ⟨J5, e_J5, h⟩ := of_lt h
  have J5_T : ∀ (v6 : Int32) (μ7 : mT), J5 v6 μ7 = some (r, μ') → lj X [(60, r2)] 1 Γ μ7 36 [(0, .ref (X.1 18 0)), (1, .ref r2), (2, .int v3)] [.int v6] := by
    intro v6 μ7 h
    rw [e_J5] at h
    refine lr_istore_n hO 36 (v := v6) rfl (lv' := [(3, .int v6), (0, .ref (X.1 18 0)), (1, .ref r2), (2, .int v3)]) hn rfl (by decide) rfl dL_isRound_36 ?_
    refine lr_aload_n hO 37 1 rfl dL_isRound_37 ?_
    refine lr_bipush hO 38 (v := 19) (by decide) dL_isRound_38 ?_
    obtain ⟨v8, μa_μ9, μ9, hcall, e_μ9, h⟩ := of_bm h
    refine lr_callI hO 40 (na := 1) (As := [.int 19]) (st := []) (c_X7_count hX hcall) e_μ9 rfl wM_L_8 wI_X7_count wS_X7_count wN_X7 wC_X7_count (by decide +kernel) rfl (by decide) (by decide) (Nat.le_of_ble_eq_true rfl) (by decide) dL_isRound_40 ?_
    refine lr_iconst hO 43 (v := 2) (by decide) dL_isRound_43 ?_
    refine lr_aload_n hO 44 1 rfl dL_isRound_44 ?_
    refine lr_bipush hO 45 (v := 18) (by decide) dL_isRound_45 ?_
    obtain ⟨v10, μa_μ11, μ11, hcall, e_μ11, h⟩ := of_bm h
    refine lr_callI hO 47 (na := 1) (As := [.int 18]) (st := [.int 2, .int v8]) (c_X7_count hX hcall) e_μ11 rfl wM_L_8 wI_X7_count wS_X7_count wN_X7 wC_X7_count (by decide +kernel) rfl (by decide) (by decide) (Nat.le_of_ble_eq_true rfl) (by decide) dL_isRound_47 ?_
    refine lr_imul hO 50 dL_isRound_50 ?_
    refine lr_iadd hO 51 dL_isRound_51 ?_
    obtain ⟨v12, e_v12, h⟩ := of_lt h
    refine lr_istore hO 52 (v := v12) e_v12 (lv' := [(4, .int v12), (3, .int v6), (0, .ref (X.1 18 0)), (1, .ref r2), (2, .int v3)]) hn (by decide) rfl dL_isRound_52 ?_
    refine lr_aload_n hO 54 2 rfl dL_isRound_54 ?_
    refine lr_iconst hO 55 (v := 0) (by decide) dL_isRound_55 ?_
    obtain ⟨v13, μa_μ14, μ14, hcall, e_μ14, h⟩ := of_bm h
    refine lr_callI hO 56 (na := 1) (As := [.int 0]) (st := []) (c_X7_count hX hcall) e_μ14 rfl wM_L_8 wI_X7_count wS_X7_count wN_X7 wC_X7_count (by decide +kernel) rfl (by decide) (by decide) (Nat.le_of_ble_eq_true rfl) (by decide) dL_isRound_56 ?_
    refine lr_istore hO 59 (v := v13) rfl (lv' := [(5, .int v13), (4, .int v12), (3, .int v6), (0, .ref (X.1 18 0)), (1, .ref r2), (2, .int v3)]) hn (by decide) rfl dL_isRound_59 ?_
    refine lr_aload_n hO 61 3 rfl dL_isRound_61 ?_
    refine lr_iload hO 62 1 rfl dL_isRound_62 ?_
    obtain ⟨v15, μa_μ16, μ16, hcall, e_μ16, h⟩ := of_bm h
    refine lr_callI hO 64 (na := 1) (As := [.int v12]) (st := []) (c_X7_freeFrom hX hcall) e_μ16 rfl wM_L_37 wI_X7_freeFrom wS_X7_freeFrom wN_X7 wC_X7_freeFrom (by decide +kernel) rfl (by decide) (by decide) (Nat.le_of_ble_eq_true rfl) (by decide) dL_isRound_64 ?_
    refine lr_istore hO 67 (v := v15) rfl (lv' := [(6, .int v15), (5, .int v13), (4, .int v12), (3, .int v6), (0, .ref (X.1 18 0)), (1, .ref r2), (2, .int v3)]) hn (by decide) rfl dL_isRound_67 ?_
    refine lr_aload_n hO 69 4 rfl dL_isRound_69 ?_
    refine lr_bipush hO 70 (v := 9) (by decide) dL_isRound_70 ?_
    obtain ⟨v17, μa_μ18, μ18, hcall, e_μ18, h⟩ := of_bm h
    refine lr_callI hO 72 (na := 1) (As := [.int 9]) (st := []) (c_X7_count hX hcall) e_μ18 rfl wM_L_8 wI_X7_count wS_X7_count wN_X7 wC_X7_count (by decide +kernel) rfl (by decide) (by decide) (Nat.le_of_ble_eq_true rfl) (by decide) dL_isRound_72 ?_
    refine lr_istore hO 75 (v := v17) rfl (lv' := [(7, .int v17), (6, .int v15), (5, .int v13), (4, .int v12), (3, .int v6), (0, .ref (X.1 18 0)), (1, .ref r2), (2, .int v3)]) hn (by decide) rfl dL_isRound_75 ?_
    refine lr_aload_n hO 77 5 rfl dL_isRound_77 ?_
    refine lr_bipush hO 78 (v := 10) (by decide) dL_isRound_78 ?_
    obtain ⟨v19, μa_μ20, μ20, hcall, e_μ20, h⟩ := of_bm h
    refine lr_callI hO 80 (na := 1) (As := [.int 10]) (st := []) (c_X7_count hX hcall) e_μ20 rfl wM_L_8 wI_X7_count wS_X7_count wN_X7 wC_X7_count (by decide +kernel) rfl (by decide) (by decide) (Nat.le_of_ble_eq_true rfl) (by decide) dL_isRound_80 ?_
    refine lr_istore hO 83 (v := v19) rfl (lv' := [(8, .int v19), (7, .int v17), (6, .int v15), (5, .int v13), (4, .int v12), (3, .int v6), (0, .ref (X.1 18 0)), (1, .ref r2), (2, .int v3)]) hn (by decide) rfl dL_isRound_83 ?_
    refine lr_aload_n hO 85 6 rfl dL_isRound_85 ?_
    refine lr_bipush hO 86 (v := 11) (by decide) dL_isRound_86 ?_
    obtain ⟨v21, μa_μ22, μ22, hcall, e_μ22, h⟩ := of_bm h
    refine lr_callI hO 88 (na := 1) (As := [.int 11]) (st := []) (c_X7_count hX hcall) e_μ22 rfl wM_L_8 wI_X7_count wS_X7_count wN_X7 wC_X7_count (by decide +kernel) rfl (by decide) (by decide) (Nat.le_of_ble_eq_true rfl) (by decide) dL_isRound_88 ?_
    refine lr_istore hO 91 (v := v21) rfl (lv' := [(9, .int v21), (8, .int v19), (7, .int v17), (6, .int v15), (5, .int v13), (4, .int v12), (3, .int v6), (0, .ref (X.1 18 0)), (1, .ref r2), (2, .int v3)]) hn (by decide) rfl dL_isRound_91 ?_
    refine lr_aload_n hO 93 7 rfl dL_isRound_93 ?_
    obtain ⟨v23, μa_μ24, μ24, hcall, e_μ24, h⟩ := of_bm h
    refine lr_callI hO 94 (na := 0) (As := []) (st := []) (c_X7_round hX hcall) e_μ24 rfl wM_L_51 wI_X7_round wS_X7_round wN_X7 wC_X7_round (by decide +kernel) rfl (by decide) (by decide) (Nat.le_of_ble_eq_true rfl) (by decide) dL_isRound_94 ?_
    refine lr_istore hO 97 (v := v23) rfl (lv' := [(10, .int v23), (9, .int v21), (8, .int v19), (7, .int v17), (6, .int v15), (5, .int v13), (4, .int v12), (3, .int v6), (0, .ref (X.1 18 0)), (1, .ref r2), (2, .int v3)]) hn (by decide) rfl dL_isRound_97 ?_
    refine lr_iload_n hO 99 7 rfl dL_isRound_99 ?_
    refine lr_if_ne hO 100 126 (by decide) dL_isRound_100 (fun hc => ?_) (fun hc => ?_)
    · have h := of_f hc h
      refine lr_iconst hO 126 (v := 0) (by decide) dL_isRound_126 ?_
      refine lr_istore hO 127 (v := 0) rfl (lv' := [(11, .int 0), (10, .int v23), (9, .int v21), (8, .int v19), (7, .int v17), (6, .int v15), (5, .int v13), (4, .int v12), (3, .int v6), (0, .ref (X.1 18 0)), (1, .ref r2), (2, .int v3)]) hn (by decide) rfl dL_isRound_127 ?_
      obtain ⟨K27, e_K27, h⟩ := of_lt h
      have K27_T : ∀ (μ28 : mT), K27 μ28 = some (r, μ') → lj X [(60, r2)] 1 Γ μ28 162 [(0, .ref (X.1 18 0)), (2, .int v3), (4, .int v12), (5, .int v13), (6, .int v15), (7, .int v17), (8, .int v19), (9, .int v21), (10, .int v23)] [] := by
        intro μ28 h
        rw [e_K27] at h
        refine lr_iload hO 162 8 rfl dL_isRound_162 ?_
        refine lr_aload_n hO 164 0 rfl dL_isRound_164 ?_
        refine lr_iconst hO 165 (v := 0) (by decide) dL_isRound_165 ?_
        obtain ⟨v29, μa_μ30, μ30, hcall, e_μ30, h⟩ := of_bm h
        refine lr_callI hO 166 (na := 1) (As := [.int 0]) (st := [.int v23]) (c_X7_count hX hcall) e_μ30 rfl wM_L_8 wI_X7_count wS_X7_count wN_X7 wC_X7_count (by decide +kernel) rfl (by decide) (by decide) (Nat.le_of_ble_eq_true rfl) (by decide) dL_isRound_166 ?_
        refine lr_icmp_ne hO 169 205 (by decide) dL_isRound_169 (fun hc => ?_) (fun hc => ?_)
        · have h := of_f hc h
          refine lr_iconst hO 205 (v := 0) (by decide) dL_isRound_205 ?_
          cases h
          exact lr_iret hO 206 (by simp) (by decide) hQ (by decide) dL_isRound_206
        · have h := of_t hc h
          refine lr_aload_n hO 172 0 rfl dL_isRound_172 ?_
          refine lr_iconst hO 173 (v := 3) (by decide) dL_isRound_173 ?_
          obtain ⟨v31, μa_μ32, μ32, hcall, e_μ32, h⟩ := of_bm h
          refine lr_callI hO 174 (na := 1) (As := [.int 3]) (st := []) (c_X7_count hX hcall) e_μ32 rfl wM_L_8 wI_X7_count wS_X7_count wN_X7 wC_X7_count (by decide +kernel) rfl (by decide) (by decide) (Nat.le_of_ble_eq_true rfl) (by decide) dL_isRound_174 ?_
          refine lr_iload_n hO 177 1 rfl dL_isRound_177 ?_
          refine lr_icmp_ne hO 178 205 (by decide) dL_isRound_178 (fun hc => ?_) (fun hc => ?_)
          · have h := of_f hc h
            refine lr_iconst hO 205 (v := 0) (by decide) dL_isRound_205 ?_
            cases h
            exact lr_iret hO 206 (by simp) (by decide) hQ (by decide) dL_isRound_206
          · have h := of_t hc h
            refine lr_aload_n hO 181 0 rfl dL_isRound_181 ?_
            refine lr_iload hO 182 3 rfl dL_isRound_182 ?_
            refine lr_iload hO 184 4 rfl dL_isRound_184 ?_
            refine lr_iload hO 186 2 rfl dL_isRound_186 ?_
            refine lr_iconst hO 188 (v := 2) (by decide) dL_isRound_188 ?_
            refine lr_iload hO 189 5 rfl dL_isRound_189 ?_
            refine lr_iload hO 191 6 rfl dL_isRound_191 ?_
            refine lr_iload hO 193 7 rfl dL_isRound_193 ?_
            obtain ⟨v33, μ34, hcall, h⟩ := of_bd h
            refine lr_callS hO 195 (na := 8) (mc := 0) (As := [.ref (X.1 18 0), .int v13, .int v15, .int v12, .int 2, .int v17, .int v19, .int v21]) (st := []) (c_L_isTimed hX hcall) rfl wM_L_40 wT_L_isTimed wN_L wC_L_isTimed (by decide +kernel) rfl (by decide) (by decide) (Nat.le_of_ble_eq_true rfl) (by decide) dL_isRound_195 ?_
            refine lr_if_eq hO 198 205 (by decide) dL_isRound_198 (fun hc => ?_) (fun hc => ?_)
            · have h := of_t hc h
              refine lr_iconst hO 205 (v := 0) (by decide) dL_isRound_205 ?_
              cases h
              exact lr_iret hO 206 (by simp) (by decide) hQ (by decide) dL_isRound_206
            · have h := of_f hc h
              refine lr_iconst hO 201 (v := 1) (by decide) dL_isRound_201 ?_
              refine lr_goto hO 202 206 (by decide) dL_isRound_202 ?_
              cases h
              exact lr_iret hO 206 (by simp) (by decide) hQ (by decide) dL_isRound_206
      have L129_T : ∀ (n : Nat) (v25 : Int32) (μ26 : mT), f_L_isRound_L129 v3 v12 v13 v15 v17 v19 v21 v23 K27 n v25 μ26 = some (r, μ') → lj X [(60, r2)] 1 Γ μ26 129 [(0, .ref (X.1 18 0)), (1, .ref r2), (2, .int v3), (4, .int v12), (5, .int v13), (6, .int v15), (7, .int v17), (8, .int v19), (9, .int v21), (10, .int v23), (11, .int v25)] [] := by
        intro n
        induction n with
        | zero =>
          intro v25 μ26 h
          rw [f_L_isRound_L129] at h
          cases h
        | succ n ih =>
          intro v25 μ26 h
          rw [f_L_isRound_L129] at h
          refine lr_iload hO 129 10 rfl dL_isRound_129 ?_
          refine lr_iload_n hO 131 2 rfl dL_isRound_131 ?_
          refine lr_icmp_ge hO 132 162 (by decide) dL_isRound_132 (fun hc => ?_) (fun hc => ?_)
          · have h := of_t hc h
            refine lr_sub [0, 2, 3, 4, 5, 6, 7, 8, 9] rfl ?_
            exact K27_T _ h
          · have h := of_f hc h
            refine lr_aload_n hO 135 0 rfl dL_isRound_135 ?_
            refine lr_bipush hO 136 (v := (-6)) (by decide) dL_isRound_136 ?_
            refine lr_iload hO 138 10 rfl dL_isRound_138 ?_
            obtain ⟨v35, μa_μ36, μ36, hcall, e_μ36, h⟩ := of_bm h
            refine lr_callI hO 140 (na := 2) (As := [.int ((-6)), .int v25]) (st := []) (c_X7_at hX hcall) e_μ36 rfl wM_L_18 wI_X7_at wS_X7_at wN_X7 wC_X7_at (by decide +kernel) rfl (by decide) (by decide) (Nat.le_of_ble_eq_true rfl) (by decide) dL_isRound_140 ?_
            refine lr_aload_n hO 143 1 rfl dL_isRound_143 ?_
            refine lr_iload_n hO 144 2 rfl dL_isRound_144 ?_
            refine lr_iconst hO 145 (v := 1) (by decide) dL_isRound_145 ?_
            refine lr_isub hO 146 dL_isRound_146 ?_
            refine lr_iload hO 147 10 rfl dL_isRound_147 ?_
            refine lr_isub hO 149 dL_isRound_149 ?_
            obtain ⟨hg, h⟩ := of_gd h
            refine lr_iald hO 150 (κ := 60) (a := r2) (ia := 0) rfl hg dL_isRound_150 ?_
            refine lr_icmp_eq hO 151 156 (by decide) dL_isRound_151 (fun hc => ?_) (fun hc => ?_)
            · have h := of_t hc h
              obtain ⟨v37, e_v37, h⟩ := of_lt h
              refine lr_iinc hO 156 (q := 10) (v := v37) (lv' := [(11, .int v37), (0, .ref (X.1 18 0)), (1, .ref r2), (2, .int v3), (4, .int v12), (5, .int v13), (6, .int v15), (7, .int v17), (8, .int v19), (9, .int v21), (10, .int v23)]) hn rfl (by rw [e_v37]; rfl) (by decide) rfl dL_isRound_156 ?_
              refine lr_goto hO 159 129 (by decide) dL_isRound_159 ?_
              refine lr_sub [1, 2, 3, 4, 5, 6, 7, 8, 9, 10, 0] rfl ?_
              exact ih _ _ h
            · have h := of_f hc h
              refine lr_iconst hO 154 (v := 0) (by decide) dL_isRound_154 ?_
              cases h
              exact lr_iret hO 155 (by simp) (by decide) hQ (by decide) dL_isRound_155
      refine lr_sub [9, 10, 11, 7, 6, 5, 4, 3, 2, 1, 0] rfl ?_
      exact L129_T _ _ _ h
    · have h := of_t hc h
      refine lr_iload hO 103 0 rfl dL_isRound_103 ?_
      refine lr_bipush hO 105 (v := (-5)) (by decide) dL_isRound_105 ?_
      refine lr_icmp_ne hO 107 124 (by decide) dL_isRound_107 (fun hc => ?_) (fun hc => ?_)
      · have h := of_f hc h
        refine lr_iconst hO 124 (v := 0) (by decide) dL_isRound_124 ?_
        cases h
        exact lr_iret hO 125 (by simp) (by decide) hQ (by decide) dL_isRound_125
      · have h := of_t hc h
        refine lr_aload_n hO 110 8 rfl dL_isRound_110 ?_
        refine lr_iconst hO 111 (v := 0) (by decide) dL_isRound_111 ?_
        obtain ⟨v38, μa_μ39, μ39, hcall, e_μ39, h⟩ := of_bm h
        refine lr_callI hO 112 (na := 1) (As := [.int 0]) (st := []) (c_X7_count hX hcall) e_μ39 rfl wM_L_8 wI_X7_count wS_X7_count wN_X7 wC_X7_count (by decide +kernel) rfl (by decide) (by decide) (Nat.le_of_ble_eq_true rfl) (by decide) dL_isRound_112 ?_
        refine lr_iload hO 115 5 rfl dL_isRound_115 ?_
        refine lr_icmp_ne hO 117 124 (by decide) dL_isRound_117 (fun hc => ?_) (fun hc => ?_)
        · have h := of_f hc h
          refine lr_iconst hO 124 (v := 0) (by decide) dL_isRound_124 ?_
          cases h
          exact lr_iret hO 125 (by simp) (by decide) hQ (by decide) dL_isRound_125
        · have h := of_t hc h
          refine lr_iconst hO 120 (v := 1) (by decide) dL_isRound_120 ?_
          refine lr_goto hO 121 125 (by decide) dL_isRound_121 ?_
          cases h
          exact lr_iret hO 125 (by simp) (by decide) hQ (by decide) dL_isRound_125
  obtain ⟨J40, e_J40, h⟩ := of_lt h
  have J40_T : ∀ (μ41 : mT), J40 μ41 = some (r, μ') → lj X [(60, r2)] 1 Γ μ41 35 [(0, .ref (X.1 18 0)), (1, .ref r2), (2, .int v3)] [] := by
    intro μ41 h
    rw [e_J40] at h
    refine lr_iconst hO 35 (v := 0) (by decide) dL_isRound_35 ?_
    exact J5_T _ _ h
  refine lr_if_le hO 14 35 (by decide) dL_isRound_14 (fun hc => ?_) (fun hc => ?_)
  · have h := of_t hc h
    refine lr_sub [2, 1, 0] rfl ?_
    exact J40_T _ h
  · have h := of_f hc h
    refine lr_aload_n hO 17 2 rfl dL_isRound_17 ?_
    refine lr_iconst hO 18 (v := 4) (by decide) dL_isRound_18 ?_
    obtain ⟨v42, μa_μ43, μ43, hcall, e_μ43, h⟩ := of_bm h
    refine lr_callI hO 19 (na := 1) (As := [.int 4]) (st := []) (c_X7_count hX hcall) e_μ43 rfl wM_L_8 wI_X7_count wS_X7_count wN_X7 wC_X7_count (by decide +kernel) rfl (by decide) (by decide) (Nat.le_of_ble_eq_true rfl) (by decide) dL_isRound_19 ?_
    refine lr_aload_n hO 22 2 rfl dL_isRound_22 ?_
    refine lr_bipush hO 23 (v := 16) (by decide) dL_isRound_23 ?_
    obtain ⟨v44, μa_μ45, μ45, hcall, e_μ45, h⟩ := of_bm h
    refine lr_callI hO 25 (na := 1) (As := [.int 16]) (st := [.int v42]) (c_X7_count hX hcall) e_μ45 rfl wM_L_8 wI_X7_count wS_X7_count wN_X7 wC_X7_count (by decide +kernel) rfl (by decide) (by decide) (Nat.le_of_ble_eq_true rfl) (by decide) dL_isRound_25 ?_
    refine lr_icmp_gt hO 28 35 (by decide) dL_isRound_28 (fun hc => ?_) (fun hc => ?_)
    · have h := of_t hc h
      refine lr_sub [2, 1, 0] rfl ?_
      exact J40_T _ h
    · have h := of_f hc h
      refine lr_iconst hO 31 (v := 1) (by decide) dL_isRound_31 ?_
      refine lr_goto hO 32 36 (by decide) dL_isRound_32 ?_
      refine lr_sub [2, 1, 0] rfl ?_
      exact J5_T _ _ h
set_option maxHeartbeats 4000000 in
set_option maxRecDepth 100000 in
theorem c_L_isWagon {X : xT} {Z : scT} (hX : xOK X) {a1 : Int32} {a2 : Int32} {μ μ' : mT} {r : Int32} (h : f_L_isWagon a1 a2 μ = some (r, μ')) : CL X Z [] yL_isWagon cL_isWagon 7 .boolean 5 111 0 [.ref (X.1 18 0), .int a1, .int a2] μ r μ' := by
  refine CL_of hX (by decide +kernel) (lv := [(0, .ref (X.1 18 0)), (1, .int a1), (2, .int a2)]) (Nat.le_of_ble_eq_true rfl) rfl (fun Γ hO hn hQ => ?_)
  have hO : OkY X Z RL cL_isWagon 5 111 0 Γ := hO
  unfold f_L_isWagon at h
  refine lr_aload_n hO 0 0 rfl dL_isWagon_0 ?_
  refine lr_iconst hO 1 (v := 2) (by decide) dL_isWagon_1 ?_
  obtain ⟨v1, μa_μ2, μ2, hcall, e_μ2, h⟩ := of_bm h
  refine lr_callI hO 2 (na := 1) (As := [.int 2]) (st := []) (c_X7_count hX hcall) e_μ2 rfl wM_L_8 wI_X7_count wS_X7_count wN_X7 wC_X7_count (by decide +kernel) rfl (by decide) (by decide) (Nat.le_of_ble_eq_true rfl) (by decide) dL_isWagon_2 ?_
  refine lr_istore_n hO 5 (v := v1) rfl (lv' := [(3, .int v1), (0, .ref (X.1 18 0)), (1, .int a1), (2, .int a2)]) hn rfl (by decide) rfl dL_isWagon_5 ?_
  refine lr_aload_n hO 6 1 rfl dL_isWagon_6 ?_
  refine lr_iload_n hO 7 2 rfl dL_isWagon_7 ?_
  refine lr_iconst hO 8 (v := 1) (by decide) dL_isWagon_8 ?_
  obtain ⟨v3, μa_μ4, μ4, hcall, e_μ4, h⟩ := of_bm h
  refine lr_callI hO 9 (na := 2) (As := [.int a1, .int 1]) (st := []) (c_X7_ofTrack hX hcall) e_μ4 rfl wM_L_14 wI_X7_ofTrack wS_X7_ofTrack wN_X7 wC_X7_ofTrack (by decide +kernel) rfl (by decide) (by decide) (Nat.le_of_ble_eq_true rfl) (by decide) dL_isWagon_9 ?_
  refine lr_istore hO 12 (v := v3) rfl (lv' := [(4, .int v3), (3, .int v1), (0, .ref (X.1 18 0)), (1, .int a1), (2, .int a2)]) hn (by decide) rfl dL_isWagon_12 ?_
  refine lr_aload_n hO 14 2 rfl dL_isWagon_14 ?_
  refine lr_iload_n hO 15 3 rfl dL_isWagon_15 ?_
  refine lr_iconst hO 16 (v := 2) (by decide) dL_isWagon_16 ?_
  obtain ⟨v5, μa_μ6, μ6, hcall, e_μ6, h⟩ := of_bm h
  refine lr_callI hO 17 (na := 2) (As := [.int a1, .int 2]) (st := []) (c_X7_ofTrack hX hcall) e_μ6 rfl wM_L_14 wI_X7_ofTrack wS_X7_ofTrack wN_X7 wC_X7_ofTrack (by decide +kernel) rfl (by decide) (by decide) (Nat.le_of_ble_eq_true rfl) (by decide) dL_isWagon_17 ?_
  refine lr_iload_n hO 20 4 rfl dL_isWagon_20 ?_
  refine lr_iadd hO 21 dL_isWagon_21 ?_
  refine lr_aload_n hO 22 2 rfl dL_isWagon_22 ?_
  refine lr_iload_n hO 23 3 rfl dL_isWagon_23 ?_
  refine lr_iconst hO 24 (v := 0) (by decide) dL_isWagon_24 ?_
  obtain ⟨v7, μa_μ8, μ8, hcall, e_μ8, h⟩ := of_bm h
  refine lr_callI hO 25 (na := 2) (As := [.int a1, .int 0]) (st := [.int (v5 + a2)]) (c_X7_ofTrack hX hcall) e_μ8 rfl wM_L_14 wI_X7_ofTrack wS_X7_ofTrack wN_X7 wC_X7_ofTrack (by decide +kernel) rfl (by decide) (by decide) (Nat.le_of_ble_eq_true rfl) (by decide) dL_isWagon_25 ?_
  obtain ⟨J9, e_J9, h⟩ := of_lt h
  have J9_T : ∀ (v10 : Int32) (μ11 : mT), J9 v10 μ11 = some (r, μ') → lj X [] 0 Γ μ11 36 [(0, .ref (X.1 18 0)), (1, .int a1), (2, .int a2), (3, .int v1), (4, .int v3)] [.int v10] := by
    intro v10 μ11 h
    rw [e_J9] at h
    refine lr_istore hO 36 (v := v10) rfl (lv' := [(5, .int v10), (0, .ref (X.1 18 0)), (1, .int a1), (2, .int a2), (3, .int v1), (4, .int v3)]) hn (by decide) rfl dL_isWagon_36 ?_
    refine lr_aload_n hO 38 1 rfl dL_isWagon_38 ?_
    refine lr_iload_n hO 39 2 rfl dL_isWagon_39 ?_
    refine lr_iload_n hO 40 3 rfl dL_isWagon_40 ?_
    obtain ⟨v12, μa_μ13, μ13, hcall, e_μ13, h⟩ := of_bm h
    refine lr_callI hO 41 (na := 2) (As := [.int a1, .int a2]) (st := []) (c_X7_wagon hX hcall) e_μ13 rfl wM_L_54 wI_X7_wagon wS_X7_wagon wN_X7 wC_X7_wagon (by decide +kernel) rfl (by decide) (by decide) (Nat.le_of_ble_eq_true rfl) (by decide) dL_isWagon_41 ?_
    refine lr_istore hO 44 (v := v12) rfl (lv' := [(6, .int v12), (5, .int v10), (0, .ref (X.1 18 0)), (1, .int a1), (2, .int a2), (3, .int v1), (4, .int v3)]) hn (by decide) rfl dL_isWagon_44 ?_
    refine lr_iload_n hO 46 5 rfl dL_isWagon_46 ?_
    refine lr_bipush hO 47 (v := 30) (by decide) dL_isWagon_47 ?_
    obtain ⟨J14, e_J14, h⟩ := of_lt h
    have J14_T : ∀ (μ15 : mT), J14 μ15 = some (r, μ') → lj X [] 0 Γ μ15 57 [(0, .ref (X.1 18 0)), (1, .int a1), (3, .int v1), (4, .int v3), (6, .int v12)] [] := by
      intro μ15 h
      rw [e_J14] at h
      refine lr_iload hO 57 4 rfl dL_isWagon_57 ?_
      refine lr_iload_n hO 59 2 rfl dL_isWagon_59 ?_
      refine lr_bipush hO 60 (v := 30) (by decide) dL_isWagon_60 ?_
      obtain ⟨J16, e_J16, h⟩ := of_lt h
      have J16_T : ∀ (v17 : Int32) (μ18 : mT), J16 v17 μ18 = some (r, μ') → lj X [] 0 Γ μ18 72 [(0, .ref (X.1 18 0)), (1, .int a1), (4, .int v3)] [.int v17, .int v12] := by
        intro v17 μ18 h
        rw [e_J16] at h
        refine lr_icmp_ne hO 72 90 (by decide) dL_isWagon_72 (fun hc => ?_) (fun hc => ?_)
        · have h := of_f hc h
          refine lr_iconst hO 90 (v := 0) (by decide) dL_isWagon_90 ?_
          cases h
          exact lr_iret hO 91 (fun _ h => h) (by decide) hQ (by decide) dL_isWagon_91
        · have h := of_t hc h
          refine lr_aload_n hO 75 0 rfl dL_isWagon_75 ?_
          refine lr_iload_n hO 76 1 rfl dL_isWagon_76 ?_
          refine lr_iconst hO 77 (v := 1) (by decide) dL_isWagon_77 ?_
          obtain ⟨v19, μa_μ20, μ20, hcall, e_μ20, h⟩ := of_bm h
          refine lr_callI hO 78 (na := 2) (As := [.int a1, .int 1]) (st := []) (c_X7_ofTrack hX hcall) e_μ20 rfl wM_L_14 wI_X7_ofTrack wS_X7_ofTrack wN_X7 wC_X7_ofTrack (by decide +kernel) rfl (by decide) (by decide) (Nat.le_of_ble_eq_true rfl) (by decide) dL_isWagon_78 ?_
          refine lr_iload hO 81 2 rfl dL_isWagon_81 ?_
          refine lr_icmp_ne hO 83 90 (by decide) dL_isWagon_83 (fun hc => ?_) (fun hc => ?_)
          · have h := of_f hc h
            refine lr_iconst hO 90 (v := 0) (by decide) dL_isWagon_90 ?_
            cases h
            exact lr_iret hO 91 (fun _ h => h) (by decide) hQ (by decide) dL_isWagon_91
          · have h := of_t hc h
            refine lr_iconst hO 86 (v := 1) (by decide) dL_isWagon_86 ?_
            refine lr_goto hO 87 91 (by decide) dL_isWagon_87 ?_
            cases h
            exact lr_iret hO 91 (fun _ h => h) (by decide) hQ (by decide) dL_isWagon_91
      refine lr_icmp_ne hO 62 70 (by decide) dL_isWagon_62 (fun hc => ?_) (fun hc => ?_)
      · have h := of_f hc h
        refine lr_bipush hO 70 (v := (-5)) (by decide) dL_isWagon_70 ?_
        refine lr_sub [0, 1, 3] rfl ?_
        exact J16_T _ _ h
      · have h := of_t hc h
        refine lr_bipush hO 65 (v := (-4)) (by decide) dL_isWagon_65 ?_
        refine lr_goto hO 67 72 (by decide) dL_isWagon_67 ?_
        refine lr_sub [0, 1, 3] rfl ?_
        exact J16_T _ _ h
    refine lr_icmp_eq hO 49 57 (by decide) dL_isWagon_49 (fun hc => ?_) (fun hc => ?_)
    · have h := of_t hc h
      refine lr_sub [2, 3, 5, 6, 0] rfl ?_
      exact J14_T _ h
    · have h := of_f hc h
      refine lr_iload hO 52 1 rfl dL_isWagon_52 ?_
      refine lr_if_ne hO 54 92 (by decide) dL_isWagon_54 (fun hc => ?_) (fun hc => ?_)
      · have h := of_f hc h
        refine lr_iload hO 92 0 rfl dL_isWagon_92 ?_
        refine lr_iload_n hO 94 5 rfl dL_isWagon_94 ?_
        refine lr_icmp_ne hO 95 156 (by decide) dL_isWagon_95 (fun hc => ?_) (fun hc => ?_)
        · have h := of_f hc h
          refine lr_iconst hO 156 (v := 0) (by decide) dL_isWagon_156 ?_
          cases h
          exact lr_iret hO 157 (fun _ h => h) (by decide) hQ (by decide) dL_isWagon_157
        · have h := of_t hc h
          refine lr_aload_n hO 98 2 rfl dL_isWagon_98 ?_
          refine lr_iload_n hO 99 3 rfl dL_isWagon_99 ?_
          refine lr_iconst hO 100 (v := 0) (by decide) dL_isWagon_100 ?_
          obtain ⟨v21, μa_μ22, μ22, hcall, e_μ22, h⟩ := of_bm h
          refine lr_callI hO 101 (na := 2) (As := [.int a1, .int 0]) (st := []) (c_X7_at hX hcall) e_μ22 rfl wM_L_18 wI_X7_at wS_X7_at wN_X7 wC_X7_at (by decide +kernel) rfl (by decide) (by decide) (Nat.le_of_ble_eq_true rfl) (by decide) dL_isWagon_101 ?_
          refine lr_iload_n hO 104 5 rfl dL_isWagon_104 ?_
          refine lr_icmp_ne hO 105 156 (by decide) dL_isWagon_105 (fun hc => ?_) (fun hc => ?_)
          · have h := of_f hc h
            refine lr_iconst hO 156 (v := 0) (by decide) dL_isWagon_156 ?_
            cases h
            exact lr_iret hO 157 (fun _ h => h) (by decide) hQ (by decide) dL_isWagon_157
          · have h := of_t hc h
            refine lr_aload_n hO 108 2 rfl dL_isWagon_108 ?_
            refine lr_iload_n hO 109 3 rfl dL_isWagon_109 ?_
            refine lr_iconst hO 110 (v := 1) (by decide) dL_isWagon_110 ?_
            obtain ⟨v23, μa_μ24, μ24, hcall, e_μ24, h⟩ := of_bm h
            refine lr_callI hO 111 (na := 2) (As := [.int a1, .int 1]) (st := []) (c_X7_ofTrack hX hcall) e_μ24 rfl wM_L_14 wI_X7_ofTrack wS_X7_ofTrack wN_X7 wC_X7_ofTrack (by decide +kernel) rfl (by decide) (by decide) (Nat.le_of_ble_eq_true rfl) (by decide) dL_isWagon_111 ?_
            refine lr_iload hO 114 6 rfl dL_isWagon_114 ?_
            refine lr_iconst hO 116 (v := 1) (by decide) dL_isWagon_116 ?_
            refine lr_iadd hO 117 dL_isWagon_117 ?_
            refine lr_icmp_ne hO 118 156 (by decide) dL_isWagon_118 (fun hc => ?_) (fun hc => ?_)
            · have h := of_f hc h
              refine lr_iconst hO 156 (v := 0) (by decide) dL_isWagon_156 ?_
              cases h
              exact lr_iret hO 157 (fun _ h => h) (by decide) hQ (by decide) dL_isWagon_157
            · have h := of_t hc h
              refine lr_aload_n hO 121 2 rfl dL_isWagon_121 ?_
              refine lr_iload_n hO 122 5 rfl dL_isWagon_122 ?_
              refine lr_iconst hO 123 (v := 0) (by decide) dL_isWagon_123 ?_
              obtain ⟨v25, μa_μ26, μ26, hcall, e_μ26, h⟩ := of_bm h
              refine lr_callI hO 124 (na := 2) (As := [.int v1, .int 0]) (st := []) (c_X7_ofWagon hX hcall) e_μ26 rfl wM_L_21 wI_X7_ofWagon wS_X7_ofWagon wN_X7 wC_X7_ofWagon (by decide +kernel) rfl (by decide) (by decide) (Nat.le_of_ble_eq_true rfl) (by decide) dL_isWagon_124 ?_
              refine lr_iload_n hO 127 4 rfl dL_isWagon_127 ?_
              refine lr_icmp_ne hO 128 156 (by decide) dL_isWagon_128 (fun hc => ?_) (fun hc => ?_)
              · have h := of_f hc h
                refine lr_iconst hO 156 (v := 0) (by decide) dL_isWagon_156 ?_
                cases h
                exact lr_iret hO 157 (fun _ h => h) (by decide) hQ (by decide) dL_isWagon_157
              · have h := of_t hc h
                refine lr_aload_n hO 131 2 rfl dL_isWagon_131 ?_
                refine lr_iload_n hO 132 5 rfl dL_isWagon_132 ?_
                refine lr_iconst hO 133 (v := 5) (by decide) dL_isWagon_133 ?_
                obtain ⟨v27, μa_μ28, μ28, hcall, e_μ28, h⟩ := of_bm h
                refine lr_callI hO 134 (na := 2) (As := [.int v1, .int 5]) (st := []) (c_X7_ofWagon hX hcall) e_μ28 rfl wM_L_21 wI_X7_ofWagon wS_X7_ofWagon wN_X7 wC_X7_ofWagon (by decide +kernel) rfl (by decide) (by decide) (Nat.le_of_ble_eq_true rfl) (by decide) dL_isWagon_134 ?_
                refine lr_if_ne hO 137 156 (by decide) dL_isWagon_137 (fun hc => ?_) (fun hc => ?_)
                · have h := of_f hc h
                  refine lr_iconst hO 156 (v := 0) (by decide) dL_isWagon_156 ?_
                  cases h
                  exact lr_iret hO 157 (fun _ h => h) (by decide) hQ (by decide) dL_isWagon_157
                · have h := of_t hc h
                  refine lr_aload_n hO 140 2 rfl dL_isWagon_140 ?_
                  refine lr_iload_n hO 141 5 rfl dL_isWagon_141 ?_
                  refine lr_bipush hO 142 (v := 6) (by decide) dL_isWagon_142 ?_
                  obtain ⟨v29, μa_μ30, μ30, hcall, e_μ30, h⟩ := of_bm h
                  refine lr_callI hO 144 (na := 2) (As := [.int v1, .int 6]) (st := []) (c_X7_ofWagon hX hcall) e_μ30 rfl wM_L_21 wI_X7_ofWagon wS_X7_ofWagon wN_X7 wC_X7_ofWagon (by decide +kernel) rfl (by decide) (by decide) (Nat.le_of_ble_eq_true rfl) (by decide) dL_isWagon_144 ?_
                  refine lr_bipush hO 147 (v := (-6)) (by decide) dL_isWagon_147 ?_
                  refine lr_icmp_ne hO 149 156 (by decide) dL_isWagon_149 (fun hc => ?_) (fun hc => ?_)
                  · have h := of_f hc h
                    refine lr_iconst hO 156 (v := 0) (by decide) dL_isWagon_156 ?_
                    cases h
                    exact lr_iret hO 157 (fun _ h => h) (by decide) hQ (by decide) dL_isWagon_157
                  · have h := of_t hc h
                    refine lr_iconst hO 152 (v := 1) (by decide) dL_isWagon_152 ?_
                    refine lr_goto hO 153 157 (by decide) dL_isWagon_153 ?_
                    cases h
                    exact lr_iret hO 157 (fun _ h => h) (by decide) hQ (by decide) dL_isWagon_157
      · have h := of_t hc h
        refine lr_sub [2, 3, 5, 6, 0] rfl ?_
        exact J14_T _ h
  refine lr_icmp_gt hO 28 35 (by decide) dL_isWagon_28 (fun hc => ?_) (fun hc => ?_)
  · have h := of_t hc h
    refine lr_iconst hO 35 (v := 0) (by decide) dL_isWagon_35 ?_
    refine lr_sub [2, 3, 4, 1, 0] rfl ?_
    exact J9_T _ _ h
  · have h := of_f hc h
    refine lr_iconst hO 31 (v := 1) (by decide) dL_isWagon_31 ?_
    refine lr_goto hO 32 36 (by decide) dL_isWagon_32 ?_
    refine lr_sub [2, 3, 4, 1, 0] rfl ?_
    exact J9_T _ _ h
set_option maxHeartbeats 4000000 in
set_option maxRecDepth 100000 in
theorem c_L_isTrain {X : xT} {Z : scT} (hX : xOK X) {a1 : Int32} {a2 : Int32} {a3 : Int32} {a4 : Int32} {μ μ' : mT} {r : Int32} (h : f_L_isTrain a1 a2 a3 a4 μ = some (r, μ')) : CL X Z [] yL_isTrain cL_isTrain 15 .boolean 5 118 0 [.ref (X.1 18 0), .int a1, .int a2, .int a3, .int a4] μ r μ' := by
  refine CL_of hX (by decide +kernel) (lv := [(0, .ref (X.1 18 0)), (1, .int a1), (2, .int a2), (3, .int a3), (4, .int a4)]) (Nat.le_of_ble_eq_true rfl) rfl (fun Γ hO hn hQ => ?_)
  have hO : OkY X Z RL cL_isTrain 5 118 0 Γ := hO
  unfold f_L_isTrain at h
  refine lr_aload_n hO 0 0 rfl dL_isTrain_0 ?_
  refine lr_iconst hO 1 (v := 2) (by decide) dL_isTrain_1 ?_
  obtain ⟨v1, μa_μ2, μ2, hcall, e_μ2, h⟩ := of_bm h
  refine lr_callI hO 2 (na := 1) (As := [.int 2]) (st := []) (c_X7_count hX hcall) e_μ2 rfl wM_L_8 wI_X7_count wS_X7_count wN_X7 wC_X7_count (by decide +kernel) rfl (by decide) (by decide) (Nat.le_of_ble_eq_true rfl) (by decide) dL_isTrain_2 ?_
  refine lr_istore hO 5 (v := v1) rfl (lv' := [(5, .int v1), (0, .ref (X.1 18 0)), (1, .int a1), (2, .int a2), (3, .int a3), (4, .int a4)]) hn (by decide) rfl dL_isTrain_5 ?_
  refine lr_lconst hO 7 (v := 0) (by decide) dL_isTrain_7 ?_
  refine lr_lstore hO 8 (v := 0) rfl (lv' := [(6, .long 0), (5, .int v1), (0, .ref (X.1 18 0)), (1, .int a1), (2, .int a2), (3, .int a3), (4, .int a4)]) hn (by decide) rfl dL_isTrain_8 ?_
  refine lr_iconst hO 10 (v := 1) (by decide) dL_isTrain_10 ?_
  refine lr_istore hO 11 (v := 1) rfl (lv' := [(8, .int 1), (6, .long 0), (5, .int v1), (0, .ref (X.1 18 0)), (1, .int a1), (2, .int a2), (3, .int a3), (4, .int a4)]) hn (by decide) rfl dL_isTrain_11 ?_
  refine lr_iconst hO 13 (v := 1) (by decide) dL_isTrain_13 ?_
  refine lr_istore hO 14 (v := 1) rfl (lv' := [(9, .int 1), (8, .int 1), (6, .long 0), (5, .int v1), (0, .ref (X.1 18 0)), (1, .int a1), (2, .int a2), (3, .int a3), (4, .int a4)]) hn (by decide) rfl dL_isTrain_14 ?_
  refine lr_iload_n hO 16 7 rfl dL_isTrain_16 ?_
  refine lr_iconst hO 17 (v := 1) (by decide) dL_isTrain_17 ?_
  refine lr_isub hO 18 dL_isTrain_18 ?_
  obtain ⟨v3, e_v3, h⟩ := of_lt h
  refine lr_istore hO 19 (v := v3) e_v3 (lv' := [(10, .int v3), (9, .int 1), (8, .int 1), (6, .long 0), (5, .int v1), (0, .ref (X.1 18 0)), (1, .int a1), (2, .int a2), (3, .int a3), (4, .int a4)]) hn (by decide) rfl dL_isTrain_19 ?_
  obtain ⟨K9, e_K9, h⟩ := of_lt h
  have K9_T : ∀ (v10 : Int64) (v11 : Int32) (v12 : Int32) (μ13 : mT), K9 v10 v11 v12 μ13 = some (r, μ') → lj X [] 0 Γ μ13 116 [(0, .ref (X.1 18 0)), (1, .int a1), (2, .int a2), (3, .int a3), (4, .int a4), (6, .long v10), (8, .int v11), (9, .int v12)] [] := by
    intro v10 v11 v12 μ13 h
    rw [e_K9] at h
    refine lr_aload_n hO 116 0 rfl dL_isTrain_116 ?_
    refine lr_bipush hO 117 (v := 6) (by decide) dL_isTrain_117 ?_
    obtain ⟨v14, μa_μ15, μ15, hcall, e_μ15, h⟩ := of_bm h
    refine lr_callI hO 119 (na := 1) (As := [.int 6]) (st := []) (c_X7_count hX hcall) e_μ15 rfl wM_L_8 wI_X7_count wS_X7_count wN_X7 wC_X7_count (by decide +kernel) rfl (by decide) (by decide) (Nat.le_of_ble_eq_true rfl) (by decide) dL_isTrain_119 ?_
    refine lr_istore hO 122 (v := v14) rfl (lv' := [(10, .int v14), (0, .ref (X.1 18 0)), (1, .int a1), (2, .int a2), (3, .int a3), (4, .int a4), (6, .long v10), (8, .int v11), (9, .int v12)]) hn (by decide) rfl dL_isTrain_122 ?_
    refine lr_aload_n hO 124 1 rfl dL_isTrain_124 ?_
    refine lr_lload hO 125 6 rfl dL_isTrain_125 ?_
    refine lr_aload_n hO 127 1 rfl dL_isTrain_127 ?_
    refine lr_iconst hO 128 (v := 0) (by decide) dL_isTrain_128 ?_
    obtain ⟨v16, μa_μ17, μ17, hcall, e_μ17, h⟩ := of_bm h
    refine lr_callI hO 129 (na := 1) (As := [.int 0]) (st := [.long v10, .ref (X.1 18 0)]) (c_X7_count hX hcall) e_μ17 rfl wM_L_8 wI_X7_count wS_X7_count wN_X7 wC_X7_count (by decide +kernel) rfl (by decide) (by decide) (Nat.le_of_ble_eq_true rfl) (by decide) dL_isTrain_129 ?_
    refine lr_iload hO 132 5 rfl dL_isTrain_132 ?_
    refine lr_iadd hO 134 dL_isTrain_134 ?_
    obtain ⟨v18, μa_μ19, μ19, hcall, e_μ19, h⟩ := of_bm h
    refine lr_callI hO 135 (na := 2) (As := [.long v10, .int (v16 + a4)]) (st := []) (c_X7_train hX hcall) e_μ19 rfl wM_L_59 wI_X7_train wS_X7_train wN_X7 wC_X7_train (by decide +kernel) rfl (by decide) (by decide) (Nat.le_of_ble_eq_true rfl) (by decide) dL_isTrain_135 ?_
    refine lr_istore hO 138 (v := v18) rfl (lv' := [(11, .int v18), (10, .int v14), (0, .ref (X.1 18 0)), (1, .int a1), (2, .int a2), (3, .int a3), (4, .int a4), (6, .long v10), (8, .int v11), (9, .int v12)]) hn (by decide) rfl dL_isTrain_138 ?_
    refine lr_iload hO 140 8 rfl dL_isTrain_140 ?_
    obtain ⟨J20, e_J20, h⟩ := of_lt h
    have J20_T : ∀ (μ21 : mT), J20 μ21 = some (r, μ') → lj X [] 0 Γ μ21 157 [(0, .ref (X.1 18 0)), (8, .int v11), (10, .int v14), (11, .int v18)] [] := by
      intro μ21 h
      rw [e_J20] at h
      refine lr_iload hO 157 3 rfl dL_isTrain_157 ?_
      refine lr_iload hO 159 1 rfl dL_isTrain_159 ?_
      obtain ⟨J22, e_J22, h⟩ := of_lt h
      have J22_T : ∀ (v23 : Int32) (μ24 : mT), J22 v23 μ24 = some (r, μ') → lj X [] 0 Γ μ24 183 [(0, .ref (X.1 18 0)), (10, .int v14)] [.int v23, .int v18] := by
        intro v23 μ24 h
        rw [e_J22] at h
        refine lr_icmp_ne hO 183 201 (by decide) dL_isTrain_183 (fun hc => ?_) (fun hc => ?_)
        · have h := of_f hc h
          refine lr_iconst hO 201 (v := 0) (by decide) dL_isTrain_201 ?_
          cases h
          exact lr_iret hO 202 (fun _ h => h) (by decide) hQ (by decide) dL_isTrain_202
        · have h := of_t hc h
          refine lr_aload_n hO 186 0 rfl dL_isTrain_186 ?_
          refine lr_bipush hO 187 (v := 6) (by decide) dL_isTrain_187 ?_
          obtain ⟨v25, μa_μ26, μ26, hcall, e_μ26, h⟩ := of_bm h
          refine lr_callI hO 189 (na := 1) (As := [.int 6]) (st := []) (c_X7_count hX hcall) e_μ26 rfl wM_L_8 wI_X7_count wS_X7_count wN_X7 wC_X7_count (by decide +kernel) rfl (by decide) (by decide) (Nat.le_of_ble_eq_true rfl) (by decide) dL_isTrain_189 ?_
          refine lr_iload hO 192 1 rfl dL_isTrain_192 ?_
          refine lr_icmp_ne hO 194 201 (by decide) dL_isTrain_194 (fun hc => ?_) (fun hc => ?_)
          · have h := of_f hc h
            refine lr_iconst hO 201 (v := 0) (by decide) dL_isTrain_201 ?_
            cases h
            exact lr_iret hO 202 (fun _ h => h) (by decide) hQ (by decide) dL_isTrain_202
          · have h := of_t hc h
            refine lr_iconst hO 197 (v := 1) (by decide) dL_isTrain_197 ?_
            refine lr_goto hO 198 202 (by decide) dL_isTrain_198 ?_
            cases h
            exact lr_iret hO 202 (fun _ h => h) (by decide) hQ (by decide) dL_isTrain_202
      refine lr_if_ne hO 161 169 (by decide) dL_isTrain_161 (fun hc => ?_) (fun hc => ?_)
      · have h := of_f hc h
        refine lr_iload hO 169 2 rfl dL_isTrain_169 ?_
        refine lr_bipush hO 171 (v := 8) (by decide) dL_isTrain_171 ?_
        refine lr_icmp_ne hO 173 181 (by decide) dL_isTrain_173 (fun hc => ?_) (fun hc => ?_)
        · have h := of_f hc h
          refine lr_bipush hO 181 (v := (-5)) (by decide) dL_isTrain_181 ?_
          refine lr_sub [0, 2] rfl ?_
          exact J22_T _ _ h
        · have h := of_t hc h
          refine lr_bipush hO 176 (v := (-4)) (by decide) dL_isTrain_176 ?_
          refine lr_goto hO 178 183 (by decide) dL_isTrain_178 ?_
          refine lr_sub [0, 2] rfl ?_
          exact J22_T _ _ h
      · have h := of_t hc h
        refine lr_bipush hO 164 (v := (-2)) (by decide) dL_isTrain_164 ?_
        refine lr_goto hO 166 183 (by decide) dL_isTrain_166 ?_
        refine lr_sub [0, 2] rfl ?_
        exact J22_T _ _ h
    refine lr_if_eq hO 142 157 (by decide) dL_isTrain_142 (fun hc => ?_) (fun hc => ?_)
    · have h := of_t hc h
      refine lr_sub [2, 8, 1, 0] rfl ?_
      exact J20_T _ h
    · have h := of_f hc h
      refine lr_iload hO 145 1 rfl dL_isTrain_145 ?_
      refine lr_bipush hO 147 (v := 8) (by decide) dL_isTrain_147 ?_
      refine lr_icmp_eq hO 149 157 (by decide) dL_isTrain_149 (fun hc => ?_) (fun hc => ?_)
      · have h := of_t hc h
        refine lr_sub [2, 8, 1, 0] rfl ?_
        exact J20_T _ h
      · have h := of_f hc h
        refine lr_iload hO 152 9 rfl dL_isTrain_152 ?_
        refine lr_if_ne hO 154 203 (by decide) dL_isTrain_154 (fun hc => ?_) (fun hc => ?_)
        · have h := of_f hc h
          refine lr_iload hO 203 0 rfl dL_isTrain_203 ?_
          refine lr_iload hO 205 1 rfl dL_isTrain_205 ?_
          refine lr_icmp_ne hO 207 239 (by decide) dL_isTrain_207 (fun hc => ?_) (fun hc => ?_)
          · have h := of_f hc h
            refine lr_iconst hO 239 (v := 0) (by decide) dL_isTrain_239 ?_
            cases h
            exact lr_iret hO 240 (fun _ h => h) (by decide) hQ (by decide) dL_isTrain_240
          · have h := of_t hc h
            refine lr_aload_n hO 210 2 rfl dL_isTrain_210 ?_
            refine lr_iload hO 211 1 rfl dL_isTrain_211 ?_
            refine lr_iconst hO 213 (v := 0) (by decide) dL_isTrain_213 ?_
            obtain ⟨v27, μa_μ28, μ28, hcall, e_μ28, h⟩ := of_bm h
            refine lr_callI hO 214 (na := 2) (As := [.int v14, .int 0]) (st := []) (c_X7_ofTrain hX hcall) e_μ28 rfl wM_L_63 wI_X7_ofTrain wS_X7_ofTrain wN_X7 wC_X7_ofTrain (by decide +kernel) rfl (by decide) (by decide) (Nat.le_of_ble_eq_true rfl) (by decide) dL_isTrain_214 ?_
            refine lr_iload_n hO 217 5 rfl dL_isTrain_217 ?_
            refine lr_icmp_ne hO 218 239 (by decide) dL_isTrain_218 (fun hc => ?_) (fun hc => ?_)
            · have h := of_f hc h
              refine lr_iconst hO 239 (v := 0) (by decide) dL_isTrain_239 ?_
              cases h
              exact lr_iret hO 240 (fun _ h => h) (by decide) hQ (by decide) dL_isTrain_240
            · have h := of_t hc h
              refine lr_aload_n hO 221 2 rfl dL_isTrain_221 ?_
              refine lr_iload hO 222 1 rfl dL_isTrain_222 ?_
              refine lr_iconst hO 224 (v := 1) (by decide) dL_isTrain_224 ?_
              obtain ⟨v29, μa_μ30, μ30, hcall, e_μ30, h⟩ := of_bm h
              refine lr_callI hO 225 (na := 2) (As := [.int v14, .int 1]) (st := []) (c_X7_ofTrain hX hcall) e_μ30 rfl wM_L_63 wI_X7_ofTrain wS_X7_ofTrain wN_X7 wC_X7_ofTrain (by decide +kernel) rfl (by decide) (by decide) (Nat.le_of_ble_eq_true rfl) (by decide) dL_isTrain_225 ?_
              refine lr_aload_n hO 228 2 rfl dL_isTrain_228 ?_
              refine lr_iconst hO 229 (v := 0) (by decide) dL_isTrain_229 ?_
              obtain ⟨v31, μa_μ32, μ32, hcall, e_μ32, h⟩ := of_bm h
              refine lr_callI hO 230 (na := 1) (As := [.int 0]) (st := [.int v29]) (c_X7_count hX hcall) e_μ32 rfl wM_L_8 wI_X7_count wS_X7_count wN_X7 wC_X7_count (by decide +kernel) rfl (by decide) (by decide) (Nat.le_of_ble_eq_true rfl) (by decide) dL_isTrain_230 ?_
              refine lr_iload hO 233 6 rfl dL_isTrain_233 ?_
              refine lr_iadd hO 235 dL_isTrain_235 ?_
              refine lr_icmp_eq hO 236 241 (by decide) dL_isTrain_236 (fun hc => ?_) (fun hc => ?_)
              · have h := of_t hc h
                refine lr_iconst hO 241 (v := 0) (by decide) dL_isTrain_241 ?_
                refine lr_istore hO 242 (v := 0) rfl (lv' := [(12, .int 0), (11, .int v18), (10, .int v14), (0, .ref (X.1 18 0)), (1, .int a1), (2, .int a2), (3, .int a3), (4, .int a4), (6, .long v10), (8, .int v11), (9, .int v12)]) hn (by decide) rfl dL_isTrain_242 ?_
                refine lr_iconst hO 244 (v := 0) (by decide) dL_isTrain_244 ?_
                refine lr_istore hO 245 (v := 0) rfl (lv' := [(13, .int 0), (12, .int 0), (11, .int v18), (10, .int v14), (0, .ref (X.1 18 0)), (1, .int a1), (2, .int a2), (3, .int a3), (4, .int a4), (6, .long v10), (8, .int v11), (9, .int v12)]) hn (by decide) rfl dL_isTrain_245 ?_
                obtain ⟨K36, e_K36, h⟩ := of_lt h
                have K36_T : ∀ (v37 : Int32) (μ38 : mT), K36 v37 μ38 = some (r, μ') → lj X [] 0 Γ μ38 338 [(0, .ref (X.1 18 0)), (10, .int v14), (12, .int v37)] [] := by
                  intro v37 μ38 h
                  rw [e_K36] at h
                  refine lr_aload_n hO 338 0 rfl dL_isTrain_338 ?_
                  refine lr_iload hO 339 1 rfl dL_isTrain_339 ?_
                  refine lr_bipush hO 341 (v := 10) (by decide) dL_isTrain_341 ?_
                  obtain ⟨v39, μa_μ40, μ40, hcall, e_μ40, h⟩ := of_bm h
                  refine lr_callI hO 343 (na := 2) (As := [.int v14, .int 10]) (st := []) (c_X7_ofTrain hX hcall) e_μ40 rfl wM_L_63 wI_X7_ofTrain wS_X7_ofTrain wN_X7 wC_X7_ofTrain (by decide +kernel) rfl (by decide) (by decide) (Nat.le_of_ble_eq_true rfl) (by decide) dL_isTrain_343 ?_
                  refine lr_iload hO 346 2 rfl dL_isTrain_346 ?_
                  refine lr_icmp_ne hO 348 355 (by decide) dL_isTrain_348 (fun hc => ?_) (fun hc => ?_)
                  · have h := of_f hc h
                    refine lr_iconst hO 355 (v := 0) (by decide) dL_isTrain_355 ?_
                    cases h
                    exact lr_iret hO 356 (fun _ h => h) (by decide) hQ (by decide) dL_isTrain_356
                  · have h := of_t hc h
                    refine lr_iconst hO 351 (v := 1) (by decide) dL_isTrain_351 ?_
                    refine lr_goto hO 352 356 (by decide) dL_isTrain_352 ?_
                    cases h
                    exact lr_iret hO 356 (fun _ h => h) (by decide) hQ (by decide) dL_isTrain_356
                have L247_T : ∀ (n : Nat) (v33 : Int32) (v34 : Int32) (μ35 : mT), f_L_isTrain_L247 a1 a2 a3 v14 K36 n v33 v34 μ35 = some (r, μ') → lj X [] 0 Γ μ35 247 [(0, .ref (X.1 18 0)), (1, .int a1), (2, .int a2), (3, .int a3), (10, .int v14), (12, .int v33), (13, .int v34)] [] := by
                  intro n
                  induction n with
                  | zero =>
                    intro v33 v34 μ35 h
                    rw [f_L_isTrain_L247] at h
                    cases h
                  | succ n ih =>
                    intro v33 v34 μ35 h
                    rw [f_L_isTrain_L247] at h
                    refine lr_iload hO 247 6 rfl dL_isTrain_247 ?_
                    refine lr_bipush hO 249 (v := 8) (by decide) dL_isTrain_249 ?_
                    refine lr_icmp_ge hO 251 338 (by decide) dL_isTrain_251 (fun hc => ?_) (fun hc => ?_)
                    · have h := of_t hc h
                      refine lr_sub [0, 4, 5] rfl ?_
                      exact K36_T _ _ h
                    · have h := of_f hc h
                      refine lr_iload hO 254 6 rfl dL_isTrain_254 ?_
                      refine lr_iload_n hO 256 3 rfl dL_isTrain_256 ?_
                      obtain ⟨J41, e_J41, h⟩ := of_lt h
                      have J41_T : ∀ (v42 : Int32) (μ43 : mT), J41 v42 μ43 = some (r, μ') → lj X [] 0 Γ μ43 274 [(0, .ref (X.1 18 0)), (1, .int a1), (2, .int a2), (3, .int a3), (10, .int v14), (12, .int v33), (13, .int v34)] [.int v42] := by
                        intro v42 μ43 h
                        rw [e_J41] at h
                        refine lr_istore hO 274 (v := v42) rfl (lv' := [(14, .int v42), (0, .ref (X.1 18 0)), (1, .int a1), (2, .int a2), (3, .int a3), (10, .int v14), (12, .int v33), (13, .int v34)]) hn (by decide) rfl dL_isTrain_274 ?_
                        refine lr_iload hO 276 6 rfl dL_isTrain_276 ?_
                        refine lr_iload hO 278 0 rfl dL_isTrain_278 ?_
                        obtain ⟨J44, e_J44, h⟩ := of_lt h
                        have J44_T : ∀ (v45 : Int32) (μ46 : mT), J44 v45 μ46 = some (r, μ') → lj X [] 0 Γ μ46 294 [(0, .ref (X.1 18 0)), (1, .int a1), (2, .int a2), (3, .int a3), (10, .int v14), (13, .int v34), (14, .int v42)] [.int v45, .int v33] := by
                          intro v45 μ46 h
                          rw [e_J44] at h
                          refine lr_iadd hO 294 dL_isTrain_294 ?_
                          obtain ⟨v47, e_v47, h⟩ := of_lt h
                          refine lr_istore hO 295 (v := v47) e_v47 (lv' := [(12, .int v47), (0, .ref (X.1 18 0)), (1, .int a1), (2, .int a2), (3, .int a3), (10, .int v14), (13, .int v34), (14, .int v42)]) hn (by decide) rfl dL_isTrain_295 ?_
                          refine lr_aload_n hO 297 1 rfl dL_isTrain_297 ?_
                          refine lr_iload hO 298 5 rfl dL_isTrain_298 ?_
                          refine lr_iconst hO 300 (v := 2) (by decide) dL_isTrain_300 ?_
                          refine lr_iload hO 301 6 rfl dL_isTrain_301 ?_
                          refine lr_iadd hO 303 dL_isTrain_303 ?_
                          obtain ⟨v48, μa_μ49, μ49, hcall, e_μ49, h⟩ := of_bm h
                          refine lr_callI hO 304 (na := 2) (As := [.int v14, .int (2 + v34)]) (st := []) (c_X7_ofTrain hX hcall) e_μ49 rfl wM_L_63 wI_X7_ofTrain wS_X7_ofTrain wN_X7 wC_X7_ofTrain (by decide +kernel) rfl (by decide) (by decide) (Nat.le_of_ble_eq_true rfl) (by decide) dL_isTrain_304 ?_
                          refine lr_iload hO 307 7 rfl dL_isTrain_307 ?_
                          refine lr_icmp_ne hO 309 330 (by decide) dL_isTrain_309 (fun hc => ?_) (fun hc => ?_)
                          · have h := of_f hc h
                            refine lr_iconst hO 330 (v := 0) (by decide) dL_isTrain_330 ?_
                            cases h
                            exact lr_iret hO 331 (fun _ h => h) (by decide) hQ (by decide) dL_isTrain_331
                          · have h := of_t hc h
                            refine lr_iload hO 312 7 rfl dL_isTrain_312 ?_
                            obtain ⟨J50, e_J50, h⟩ := of_lt h
                            have J50_T : ∀ (μ51 : mT), J50 μ51 = some (r, μ') → lj X [] 0 Γ μ51 332 [(0, .ref (X.1 18 0)), (1, .int a1), (2, .int a2), (3, .int a3), (10, .int v14), (12, .int v47), (13, .int v34)] [] := by
                              intro μ51 h
                              rw [e_J50] at h
                              obtain ⟨v52, e_v52, h⟩ := of_lt h
                              refine lr_iinc hO 332 (q := 6) (v := v52) (lv' := [(13, .int v52), (0, .ref (X.1 18 0)), (1, .int a1), (2, .int a2), (3, .int a3), (10, .int v14), (12, .int v47)]) hn rfl (by rw [e_v52]; rfl) (by decide) rfl dL_isTrain_332 ?_
                              refine lr_goto hO 335 247 (by decide) dL_isTrain_335 ?_
                              refine lr_sub [1, 2, 3, 4, 5, 6, 0] rfl ?_
                              exact ih _ _ _ h
                            refine lr_if_lt hO 314 332 (by decide) dL_isTrain_314 (fun hc => ?_) (fun hc => ?_)
                            · have h := of_t hc h
                              refine lr_sub [1, 2, 3, 4, 5, 0, 6] rfl ?_
                              exact J50_T _ h
                            · have h := of_f hc h
                              refine lr_aload_n hO 317 1 rfl dL_isTrain_317 ?_
                              refine lr_iload hO 318 7 rfl dL_isTrain_318 ?_
                              refine lr_bipush hO 320 (v := 6) (by decide) dL_isTrain_320 ?_
                              obtain ⟨v53, μa_μ54, μ54, hcall, e_μ54, h⟩ := of_bm h
                              refine lr_callI hO 322 (na := 2) (As := [.int v42, .int 6]) (st := []) (c_X7_ofWagon hX hcall) e_μ54 rfl wM_L_21 wI_X7_ofWagon wS_X7_ofWagon wN_X7 wC_X7_ofWagon (by decide +kernel) rfl (by decide) (by decide) (Nat.le_of_ble_eq_true rfl) (by decide) dL_isTrain_322 ?_
                              refine lr_iload hO 325 5 rfl dL_isTrain_325 ?_
                              refine lr_icmp_eq hO 327 332 (by decide) dL_isTrain_327 (fun hc => ?_) (fun hc => ?_)
                              · have h := of_t hc h
                                refine lr_sub [1, 2, 3, 4, 5, 0, 6] rfl ?_
                                exact J50_T _ h
                              · have h := of_f hc h
                                refine lr_iconst hO 330 (v := 0) (by decide) dL_isTrain_330 ?_
                                cases h
                                exact lr_iret hO 331 (fun _ h => h) (by decide) hQ (by decide) dL_isTrain_331
                        refine lr_if_ge hO 280 287 (by decide) dL_isTrain_280 (fun hc => ?_) (fun hc => ?_)
                        · have h := of_t hc h
                          refine lr_aload_n hO 287 1 rfl dL_isTrain_287 ?_
                          refine lr_iload hO 288 0 rfl dL_isTrain_288 ?_
                          refine lr_iconst hO 290 (v := 0) (by decide) dL_isTrain_290 ?_
                          obtain ⟨v55, μa_μ56, μ56, hcall, e_μ56, h⟩ := of_bm h
                          refine lr_callI hO 291 (na := 2) (As := [.int v42, .int 0]) (st := [.int v33]) (c_X7_ofWagon hX hcall) e_μ56 rfl wM_L_21 wI_X7_ofWagon wS_X7_ofWagon wN_X7 wC_X7_ofWagon (by decide +kernel) rfl (by decide) (by decide) (Nat.le_of_ble_eq_true rfl) (by decide) dL_isTrain_291 ?_
                          refine lr_sub [1, 2, 3, 4, 5, 7, 0] rfl ?_
                          exact J44_T _ _ h
                        · have h := of_f hc h
                          refine lr_iconst hO 283 (v := 0) (by decide) dL_isTrain_283 ?_
                          refine lr_goto hO 284 294 (by decide) dL_isTrain_284 ?_
                          refine lr_sub [1, 2, 3, 4, 5, 7, 0] rfl ?_
                          exact J44_T _ _ h
                      refine lr_icmp_ge hO 257 272 (by decide) dL_isTrain_257 (fun hc => ?_) (fun hc => ?_)
                      · have h := of_t hc h
                        refine lr_bipush hO 272 (v := (-6)) (by decide) dL_isTrain_272 ?_
                        exact J41_T _ _ h
                      · have h := of_f hc h
                        refine lr_iload_n hO 260 1 rfl dL_isTrain_260 ?_
                        refine lr_iload_n hO 261 2 rfl dL_isTrain_261 ?_
                        refine lr_iload hO 262 6 rfl dL_isTrain_262 ?_
                        refine lr_imul hO 264 dL_isTrain_264 ?_
                        refine lr_iadd hO 265 dL_isTrain_265 ?_
                        refine lr_bipush hO 266 (v := 30) (by decide) dL_isTrain_266 ?_
                        refine lr_irem hO 268 (by decide) dL_isTrain_268 ?_
                        refine lr_goto hO 269 274 (by decide) dL_isTrain_269 ?_
                        exact J41_T _ _ h
                refine lr_sub [4, 5, 6, 7, 3, 1, 0] rfl ?_
                exact L247_T _ _ _ _ h
              · have h := of_f hc h
                refine lr_iconst hO 239 (v := 0) (by decide) dL_isTrain_239 ?_
                cases h
                exact lr_iret hO 240 (fun _ h => h) (by decide) hQ (by decide) dL_isTrain_240
        · have h := of_t hc h
          refine lr_sub [2, 8, 1, 0] rfl ?_
          exact J20_T _ h
  have L21_T : ∀ (n : Nat) (v4 : Int64) (v5 : Int32) (v6 : Int32) (v7 : Int32) (μ8 : mT), f_L_isTrain_L21 a1 a2 a3 a4 v1 K9 n v4 v5 v6 v7 μ8 = some (r, μ') → lj X [] 0 Γ μ8 21 [(0, .ref (X.1 18 0)), (1, .int a1), (2, .int a2), (3, .int a3), (4, .int a4), (5, .int v1), (6, .long v4), (8, .int v5), (9, .int v6), (10, .int v7)] [] := by
    intro n
    induction n with
    | zero =>
      intro v4 v5 v6 v7 μ8 h
      rw [f_L_isTrain_L21] at h
      cases h
    | succ n ih =>
      intro v4 v5 v6 v7 μ8 h
      rw [f_L_isTrain_L21] at h
      refine lr_iload hO 21 9 rfl dL_isTrain_21 ?_
      refine lr_if_lt hO 23 116 (by decide) dL_isTrain_23 (fun hc => ?_) (fun hc => ?_)
      · have h := of_t hc h
        refine lr_sub [0, 1, 2, 3, 4, 6, 7, 8] rfl ?_
        exact K9_T _ _ _ _ h
      · have h := of_f hc h
        refine lr_iload_n hO 26 1 rfl dL_isTrain_26 ?_
        refine lr_iload_n hO 27 2 rfl dL_isTrain_27 ?_
        refine lr_iload hO 28 9 rfl dL_isTrain_28 ?_
        refine lr_imul hO 30 dL_isTrain_30 ?_
        refine lr_iadd hO 31 dL_isTrain_31 ?_
        refine lr_bipush hO 32 (v := 30) (by decide) dL_isTrain_32 ?_
        refine lr_irem hO 34 (by decide) dL_isTrain_34 ?_
        obtain ⟨v57, e_v57, h⟩ := of_lt h
        refine lr_istore hO 35 (v := v57) e_v57 (lv' := [(11, .int v57), (0, .ref (X.1 18 0)), (1, .int a1), (2, .int a2), (3, .int a3), (4, .int a4), (5, .int v1), (6, .long v4), (8, .int v5), (9, .int v6), (10, .int v7)]) hn (by decide) rfl dL_isTrain_35 ?_
        refine lr_iload hO 37 8 rfl dL_isTrain_37 ?_
        obtain ⟨J58, e_J58, h⟩ := of_lt h
        have J58_T : ∀ (v59 : Int32) (μ60 : mT), J58 v59 μ60 = some (r, μ') → lj X [] 0 Γ μ60 64 [(0, .ref (X.1 18 0)), (1, .int a1), (2, .int a2), (3, .int a3), (4, .int a4), (5, .int v1), (6, .long v4), (9, .int v6), (10, .int v7), (11, .int v57)] [.int v59] := by
          intro v59 μ60 h
          rw [e_J58] at h
          refine lr_istore hO 64 (v := v59) rfl (lv' := [(8, .int v59), (0, .ref (X.1 18 0)), (1, .int a1), (2, .int a2), (3, .int a3), (4, .int a4), (5, .int v1), (6, .long v4), (9, .int v6), (10, .int v7), (11, .int v57)]) hn (by decide) rfl dL_isTrain_64 ?_
          refine lr_iload hO 66 8 rfl dL_isTrain_66 ?_
          obtain ⟨J61, e_J61, h⟩ := of_lt h
          have J61_T : ∀ (v62 : Int32) (μ63 : mT), J61 v62 μ63 = some (r, μ') → lj X [] 0 Γ μ63 94 [(0, .ref (X.1 18 0)), (1, .int a1), (2, .int a2), (3, .int a3), (4, .int a4), (5, .int v1), (6, .long v4), (8, .int v59), (10, .int v7), (11, .int v57)] [.int v62] := by
            intro v62 μ63 h
            rw [e_J61] at h
            refine lr_istore hO 94 (v := v62) rfl (lv' := [(9, .int v62), (0, .ref (X.1 18 0)), (1, .int a1), (2, .int a2), (3, .int a3), (4, .int a4), (5, .int v1), (6, .long v4), (8, .int v59), (10, .int v7), (11, .int v57)]) hn (by decide) rfl dL_isTrain_94 ?_
            refine lr_ldc2 hO 96 (v := 31) wK_L_57 dL_isTrain_96 ?_
            refine lr_lload hO 99 7 rfl dL_isTrain_99 ?_
            refine lr_lmul hO 101 dL_isTrain_101 ?_
            refine lr_iload hO 102 10 rfl dL_isTrain_102 ?_
            refine lr_i2l hO 104 dL_isTrain_104 ?_
            refine lr_ladd hO 105 dL_isTrain_105 ?_
            refine lr_lconst hO 106 (v := 1) (by decide) dL_isTrain_106 ?_
            refine lr_ladd hO 107 dL_isTrain_107 ?_
            obtain ⟨v64, e_v64, h⟩ := of_lt h
            refine lr_lstore hO 108 (v := v64) e_v64 (lv' := [(6, .long v64), (9, .int v62), (0, .ref (X.1 18 0)), (1, .int a1), (2, .int a2), (3, .int a3), (4, .int a4), (5, .int v1), (8, .int v59), (10, .int v7), (11, .int v57)]) hn (by decide) rfl dL_isTrain_108 ?_
            obtain ⟨v65, e_v65, h⟩ := of_lt h
            refine lr_iinc hO 110 (q := 9) (v := v65) (lv' := [(10, .int v65), (6, .long v64), (9, .int v62), (0, .ref (X.1 18 0)), (1, .int a1), (2, .int a2), (3, .int a3), (4, .int a4), (5, .int v1), (8, .int v59), (11, .int v57)]) hn rfl (by rw [e_v65]; rfl) (by decide) rfl dL_isTrain_110 ?_
            refine lr_goto hO 113 21 (by decide) dL_isTrain_113 ?_
            refine lr_sub [3, 4, 5, 6, 7, 8, 1, 9, 2, 0] rfl ?_
            exact ih _ _ _ _ _ h
          obtain ⟨J66, e_J66, h⟩ := of_lt h
          have J66_T : ∀ (μ67 : mT), J66 μ67 = some (r, μ') → lj X [] 0 Γ μ67 93 [(0, .ref (X.1 18 0)), (1, .int a1), (2, .int a2), (3, .int a3), (4, .int a4), (5, .int v1), (6, .long v4), (8, .int v59), (10, .int v7), (11, .int v57)] [] := by
            intro μ67 h
            rw [e_J66] at h
            refine lr_iconst hO 93 (v := 0) (by decide) dL_isTrain_93 ?_
            exact J61_T _ _ h
          refine lr_if_eq hO 68 93 (by decide) dL_isTrain_68 (fun hc => ?_) (fun hc => ?_)
          · have h := of_t hc h
            refine lr_sub [1, 2, 3, 4, 5, 6, 7, 0, 9, 10] rfl ?_
            exact J66_T _ h
          · have h := of_f hc h
            refine lr_iload hO 71 10 rfl dL_isTrain_71 ?_
            refine lr_iload hO 73 6 rfl dL_isTrain_73 ?_
            obtain ⟨J68, e_J68, h⟩ := of_lt h
            have J68_T : ∀ (μ69 : mT), J68 μ69 = some (r, μ') → lj X [] 0 Γ μ69 89 [(0, .ref (X.1 18 0)), (1, .int a1), (2, .int a2), (3, .int a3), (4, .int a4), (5, .int v1), (6, .long v4), (8, .int v59), (10, .int v7), (11, .int v57)] [] := by
              intro μ69 h
              rw [e_J68] at h
              refine lr_iconst hO 89 (v := 1) (by decide) dL_isTrain_89 ?_
              refine lr_goto hO 90 94 (by decide) dL_isTrain_90 ?_
              exact J61_T _ _ h
            refine lr_icmp_ge hO 75 89 (by decide) dL_isTrain_75 (fun hc => ?_) (fun hc => ?_)
            · have h := of_t hc h
              refine lr_sub [1, 2, 3, 4, 5, 6, 7, 0, 9, 10] rfl ?_
              exact J68_T _ h
            · have h := of_f hc h
              refine lr_aload_n hO 78 1 rfl dL_isTrain_78 ?_
              refine lr_iload hO 79 10 rfl dL_isTrain_79 ?_
              refine lr_bipush hO 81 (v := 6) (by decide) dL_isTrain_81 ?_
              obtain ⟨v70, μa_μ71, μ71, hcall, e_μ71, h⟩ := of_bm h
              refine lr_callI hO 83 (na := 2) (As := [.int v57, .int 6]) (st := []) (c_X7_ofWagon hX hcall) e_μ71 rfl wM_L_21 wI_X7_ofWagon wS_X7_ofWagon wN_X7 wC_X7_ofWagon (by decide +kernel) rfl (by decide) (by decide) (Nat.le_of_ble_eq_true rfl) (by decide) dL_isTrain_83 ?_
              refine lr_if_ge hO 86 93 (by decide) dL_isTrain_86 (fun hc => ?_) (fun hc => ?_)
              · have h := of_t hc h
                refine lr_sub [1, 2, 3, 4, 5, 6, 7, 0, 9, 10] rfl ?_
                exact J66_T _ h
              · have h := of_f hc h
                refine lr_sub [1, 2, 3, 4, 5, 6, 7, 0, 9, 10] rfl ?_
                exact J68_T _ h
        obtain ⟨J72, e_J72, h⟩ := of_lt h
        have J72_T : ∀ (μ73 : mT), J72 μ73 = some (r, μ') → lj X [] 0 Γ μ73 63 [(0, .ref (X.1 18 0)), (1, .int a1), (2, .int a2), (3, .int a3), (4, .int a4), (5, .int v1), (6, .long v4), (9, .int v6), (10, .int v7), (11, .int v57)] [] := by
          intro μ73 h
          rw [e_J72] at h
          refine lr_iconst hO 63 (v := 0) (by decide) dL_isTrain_63 ?_
          exact J58_T _ _ h
        refine lr_if_eq hO 39 63 (by decide) dL_isTrain_39 (fun hc => ?_) (fun hc => ?_)
        · have h := of_t hc h
          refine lr_sub [1, 2, 3, 4, 5, 6, 7, 9, 10, 0] rfl ?_
          exact J72_T _ h
        · have h := of_f hc h
          refine lr_iload hO 42 0 rfl dL_isTrain_42 ?_
          refine lr_iload hO 44 6 rfl dL_isTrain_44 ?_
          refine lr_icmp_ge hO 46 63 (by decide) dL_isTrain_46 (fun hc => ?_) (fun hc => ?_)
          · have h := of_t hc h
            refine lr_sub [1, 2, 3, 4, 5, 6, 7, 9, 10, 0] rfl ?_
            exact J72_T _ h
          · have h := of_f hc h
            refine lr_aload_n hO 49 1 rfl dL_isTrain_49 ?_
            refine lr_iload hO 50 0 rfl dL_isTrain_50 ?_
            refine lr_iconst hO 52 (v := 4) (by decide) dL_isTrain_52 ?_
            obtain ⟨v74, μa_μ75, μ75, hcall, e_μ75, h⟩ := of_bm h
            refine lr_callI hO 53 (na := 2) (As := [.int v57, .int 4]) (st := []) (c_X7_ofWagon hX hcall) e_μ75 rfl wM_L_21 wI_X7_ofWagon wS_X7_ofWagon wN_X7 wC_X7_ofWagon (by decide +kernel) rfl (by decide) (by decide) (Nat.le_of_ble_eq_true rfl) (by decide) dL_isTrain_53 ?_
            refine lr_if_ge hO 56 63 (by decide) dL_isTrain_56 (fun hc => ?_) (fun hc => ?_)
            · have h := of_t hc h
              refine lr_sub [1, 2, 3, 4, 5, 6, 7, 9, 10, 0] rfl ?_
              exact J72_T _ h
            · have h := of_f hc h
              refine lr_iconst hO 59 (v := 1) (by decide) dL_isTrain_59 ?_
              refine lr_goto hO 60 64 (by decide) dL_isTrain_60 ?_
              refine lr_sub [1, 2, 3, 4, 5, 6, 7, 9, 10, 0] rfl ?_
              exact J58_T _ _ h
  refine lr_sub [5, 6, 7, 8, 9, 4, 3, 2, 1, 0] rfl ?_
  exact L21_T _ _ _ _ _ _ h
set_option maxHeartbeats 4000000 in
set_option maxRecDepth 100000 in
theorem c_L_isLeft {X : xT} {Z : scT} (hX : xOK X) {a1 : Int32} {μ μ' : mT} {r : Int32} (h : f_L_isLeft a1 μ = some (r, μ')) : CL X Z [] yL_isLeft cL_isLeft 10 .boolean 7 164 0 [.ref (X.1 18 0), .int a1] μ r μ' := by
  refine CL_of hX (by decide +kernel) (lv := [(0, .ref (X.1 18 0)), (1, .int a1)]) (Nat.le_of_ble_eq_true rfl) rfl (fun Γ hO hn hQ => ?_)
  have hO : OkY X Z RL cL_isLeft 7 164 0 Γ := hO
  unfold f_L_isLeft at h
  refine lr_aload_n hO 0 0 rfl dL_isLeft_0 ?_
  refine lr_bipush hO 1 (v := 6) (by decide) dL_isLeft_1 ?_
  obtain ⟨v1, μa_μ2, μ2, hcall, e_μ2, h⟩ := of_bm h
  refine lr_callI hO 3 (na := 1) (As := [.int 6]) (st := []) (c_X7_count hX hcall) e_μ2 rfl wM_L_8 wI_X7_count wS_X7_count wN_X7 wC_X7_count (by decide +kernel) rfl (by decide) (by decide) (Nat.le_of_ble_eq_true rfl) (by decide) dL_isLeft_3 ?_
  refine lr_istore_n hO 6 (v := v1) rfl (lv' := [(2, .int v1), (0, .ref (X.1 18 0)), (1, .int a1)]) hn rfl (by decide) rfl dL_isLeft_6 ?_
  refine lr_iload_n hO 7 2 rfl dL_isLeft_7 ?_
  refine lr_iload_n hO 8 0 rfl dL_isLeft_8 ?_
  refine lr_icmp_lt hO 9 27 (by decide) dL_isLeft_9 (fun hc => ?_) (fun hc => ?_)
  · have h := of_t hc h
    refine lr_aload_n hO 27 1 rfl dL_isLeft_27 ?_
    refine lr_iload_n hO 28 2 rfl dL_isLeft_28 ?_
    refine lr_iconst hO 29 (v := 0) (by decide) dL_isLeft_29 ?_
    obtain ⟨v3, μa_μ4, μ4, hcall, e_μ4, h⟩ := of_bm h
    refine lr_callI hO 30 (na := 2) (As := [.int a1, .int 0]) (st := []) (c_X7_ofTrain hX hcall) e_μ4 rfl wM_L_63 wI_X7_ofTrain wS_X7_ofTrain wN_X7 wC_X7_ofTrain (by decide +kernel) rfl (by decide) (by decide) (Nat.le_of_ble_eq_true rfl) (by decide) dL_isLeft_30 ?_
    refine lr_istore_n hO 33 (v := v3) rfl (lv' := [(3, .int v3), (2, .int v1), (0, .ref (X.1 18 0)), (1, .int a1)]) hn rfl (by decide) rfl dL_isLeft_33 ?_
    refine lr_iload_n hO 34 0 rfl dL_isLeft_34 ?_
    refine lr_aload_n hO 35 2 rfl dL_isLeft_35 ?_
    refine lr_iconst hO 36 (v := 3) (by decide) dL_isLeft_36 ?_
    obtain ⟨v5, μa_μ6, μ6, hcall, e_μ6, h⟩ := of_bm h
    refine lr_callI hO 37 (na := 1) (As := [.int 3]) (st := [.int v3]) (c_X7_count hX hcall) e_μ6 rfl wM_L_8 wI_X7_count wS_X7_count wN_X7 wC_X7_count (by decide +kernel) rfl (by decide) (by decide) (Nat.le_of_ble_eq_true rfl) (by decide) dL_isLeft_37 ?_
    obtain ⟨J7, e_J7, h⟩ := of_lt h
    have J7_T : ∀ (v8 : Int32) (μ9 : mT), J7 v8 μ9 = some (r, μ') → lj X [] 0 Γ μ9 48 [(0, .ref (X.1 18 0)), (1, .int a1), (2, .int v1), (3, .int v3)] [.int v8] := by
      intro v8 μ9 h
      rw [e_J7] at h
      refine lr_istore hO 48 (v := v8) rfl (lv' := [(4, .int v8), (0, .ref (X.1 18 0)), (1, .int a1), (2, .int v1), (3, .int v3)]) hn (by decide) rfl dL_isLeft_48 ?_
      refine lr_iconst hO 50 (v := 0) (by decide) dL_isLeft_50 ?_
      refine lr_istore hO 51 (v := 0) rfl (lv' := [(5, .int 0), (4, .int v8), (0, .ref (X.1 18 0)), (1, .int a1), (2, .int v1), (3, .int v3)]) hn (by decide) rfl dL_isLeft_51 ?_
      obtain ⟨K13, e_K13, h⟩ := of_lt h
      have K13_T : ∀ (v14 : Int32) (μ15 : mT), K13 v14 μ15 = some (r, μ') → lj X [] 0 Γ μ15 97 [(0, .ref (X.1 18 0)), (1, .int a1), (2, .int v1), (4, .int v14)] [] := by
        intro v14 μ15 h
        rw [e_K13] at h
        refine lr_aload_n hO 97 0 rfl dL_isLeft_97 ?_
        refine lr_iconst hO 98 (v := 0) (by decide) dL_isLeft_98 ?_
        obtain ⟨v16, μa_μ17, μ17, hcall, e_μ17, h⟩ := of_bm h
        refine lr_callI hO 99 (na := 1) (As := [.int 0]) (st := []) (c_X7_count hX hcall) e_μ17 rfl wM_L_8 wI_X7_count wS_X7_count wN_X7 wC_X7_count (by decide +kernel) rfl (by decide) (by decide) (Nat.le_of_ble_eq_true rfl) (by decide) dL_isLeft_99 ?_
        refine lr_aload_n hO 102 0 rfl dL_isLeft_102 ?_
        refine lr_iload_n hO 103 1 rfl dL_isLeft_103 ?_
        refine lr_iconst hO 104 (v := 1) (by decide) dL_isLeft_104 ?_
        obtain ⟨v18, μa_μ19, μ19, hcall, e_μ19, h⟩ := of_bm h
        refine lr_callI hO 105 (na := 2) (As := [.int a1, .int 1]) (st := [.int v16]) (c_X7_ofTrain hX hcall) e_μ19 rfl wM_L_63 wI_X7_ofTrain wS_X7_ofTrain wN_X7 wC_X7_ofTrain (by decide +kernel) rfl (by decide) (by decide) (Nat.le_of_ble_eq_true rfl) (by decide) dL_isLeft_105 ?_
        obtain ⟨J20, e_J20, h⟩ := of_lt h
        have J20_T : ∀ (v21 : Int32) (μ22 : mT), J20 v21 μ22 = some (r, μ') → lj X [] 0 Γ μ22 127 [(0, .ref (X.1 18 0)), (1, .int a1), (2, .int v1), (4, .int v14)] [.int v21] := by
          intro v21 μ22 h
          rw [e_J20] at h
          refine lr_istore hO 127 (v := v21) rfl (lv' := [(5, .int v21), (0, .ref (X.1 18 0)), (1, .int a1), (2, .int v1), (4, .int v14)]) hn (by decide) rfl dL_isLeft_127 ?_
          refine lr_aload_n hO 129 1 rfl dL_isLeft_129 ?_
          refine lr_bipush hO 130 (v := 12) (by decide) dL_isLeft_130 ?_
          obtain ⟨v23, μa_μ24, μ24, hcall, e_μ24, h⟩ := of_bm h
          refine lr_callI hO 132 (na := 1) (As := [.int 12]) (st := []) (c_X7_count hX hcall) e_μ24 rfl wM_L_8 wI_X7_count wS_X7_count wN_X7 wC_X7_count (by decide +kernel) rfl (by decide) (by decide) (Nat.le_of_ble_eq_true rfl) (by decide) dL_isLeft_132 ?_
          refine lr_istore hO 135 (v := v23) rfl (lv' := [(6, .int v23), (5, .int v21), (0, .ref (X.1 18 0)), (1, .int a1), (2, .int v1), (4, .int v14)]) hn (by decide) rfl dL_isLeft_135 ?_
          refine lr_aload_n hO 137 2 rfl dL_isLeft_137 ?_
          refine lr_bipush hO 138 (v := 7) (by decide) dL_isLeft_138 ?_
          obtain ⟨v25, μa_μ26, μ26, hcall, e_μ26, h⟩ := of_bm h
          refine lr_callI hO 140 (na := 1) (As := [.int 7]) (st := []) (c_X7_count hX hcall) e_μ26 rfl wM_L_8 wI_X7_count wS_X7_count wN_X7 wC_X7_count (by decide +kernel) rfl (by decide) (by decide) (Nat.le_of_ble_eq_true rfl) (by decide) dL_isLeft_140 ?_
          refine lr_istore hO 143 (v := v25) rfl (lv' := [(7, .int v25), (6, .int v23), (5, .int v21), (0, .ref (X.1 18 0)), (1, .int a1), (2, .int v1), (4, .int v14)]) hn (by decide) rfl dL_isLeft_143 ?_
          refine lr_aload_n hO 145 3 rfl dL_isLeft_145 ?_
          refine lr_iload_n hO 146 4 rfl dL_isLeft_146 ?_
          refine lr_iconst hO 147 (v := 2) (by decide) dL_isLeft_147 ?_
          obtain ⟨v27, μa_μ28, μ28, hcall, e_μ28, h⟩ := of_bm h
          refine lr_callI hO 148 (na := 2) (As := [.int a1, .int 2]) (st := []) (c_X7_ofTrain hX hcall) e_μ28 rfl wM_L_63 wI_X7_ofTrain wS_X7_ofTrain wN_X7 wC_X7_ofTrain (by decide +kernel) rfl (by decide) (by decide) (Nat.le_of_ble_eq_true rfl) (by decide) dL_isLeft_148 ?_
          refine lr_istore hO 151 (v := v27) rfl (lv' := [(8, .int v27), (7, .int v25), (6, .int v23), (5, .int v21), (0, .ref (X.1 18 0)), (1, .int a1), (2, .int v1), (4, .int v14)]) hn (by decide) rfl dL_isLeft_151 ?_
          refine lr_iload hO 153 7 rfl dL_isLeft_153 ?_
          obtain ⟨J29, e_J29, h⟩ := of_lt h
          have J29_T : ∀ (μ30 : mT), J29 μ30 = some (r, μ') → lj X [] 0 Γ μ30 189 [(0, .ref (X.1 18 0)), (1, .int a1), (2, .int v1), (4, .int v14), (5, .int v21), (6, .int v23), (7, .int v25), (8, .int v27)] [] := by
            intro μ30 h
            rw [e_J29] at h
            refine lr_aload_n hO 189 0 rfl dL_isLeft_189 ?_
            refine lr_iload_n hO 190 1 rfl dL_isLeft_190 ?_
            obtain ⟨v31, μa_μ32, μ32, hcall, e_μ32, h⟩ := of_bm h
            refine lr_callI hO 191 (na := 1) (As := [.int a1]) (st := []) (c_X7_leave hX hcall) e_μ32 rfl wM_L_66 wI_X7_leave wS_X7_leave wN_X7 wC_X7_leave (by decide +kernel) rfl (by decide) (by decide) (Nat.le_of_ble_eq_true rfl) (by decide) dL_isLeft_191 ?_
            refine lr_istore hO 194 (v := v31) rfl (lv' := [(9, .int v31), (0, .ref (X.1 18 0)), (1, .int a1), (2, .int v1), (4, .int v14), (5, .int v21), (6, .int v23), (7, .int v25), (8, .int v27)]) hn (by decide) rfl dL_isLeft_194 ?_
            refine lr_iload hO 196 4 rfl dL_isLeft_196 ?_
            refine lr_if_ne hO 198 235 (by decide) dL_isLeft_198 (fun hc => ?_) (fun hc => ?_)
            · have h := of_f hc h
              refine lr_iload hO 235 0 rfl dL_isLeft_235 ?_
              refine lr_iload hO 237 5 rfl dL_isLeft_237 ?_
              refine lr_icmp_ne hO 239 315 (by decide) dL_isLeft_239 (fun hc => ?_) (fun hc => ?_)
              · have h := of_f hc h
                refine lr_iconst hO 315 (v := 0) (by decide) dL_isLeft_315 ?_
                cases h
                exact lr_iret hO 316 (fun _ h => h) (by decide) hQ (by decide) dL_isLeft_316
              · have h := of_t hc h
                refine lr_aload_n hO 242 1 rfl dL_isLeft_242 ?_
                refine lr_bipush hO 243 (v := 12) (by decide) dL_isLeft_243 ?_
                obtain ⟨v33, μa_μ34, μ34, hcall, e_μ34, h⟩ := of_bm h
                refine lr_callI hO 245 (na := 1) (As := [.int 12]) (st := []) (c_X7_count hX hcall) e_μ34 rfl wM_L_8 wI_X7_count wS_X7_count wN_X7 wC_X7_count (by decide +kernel) rfl (by decide) (by decide) (Nat.le_of_ble_eq_true rfl) (by decide) dL_isLeft_245 ?_
                refine lr_iload hO 248 6 rfl dL_isLeft_248 ?_
                refine lr_iload hO 250 5 rfl dL_isLeft_250 ?_
                refine lr_aload_n hO 252 1 rfl dL_isLeft_252 ?_
                refine lr_bipush hO 253 (v := 20) (by decide) dL_isLeft_253 ?_
                obtain ⟨v35, μa_μ36, μ36, hcall, e_μ36, h⟩ := of_bm h
                refine lr_callI hO 255 (na := 1) (As := [.int 20]) (st := [.int v21, .int v23, .int v33]) (c_X7_count hX hcall) e_μ36 rfl wM_L_8 wI_X7_count wS_X7_count wN_X7 wC_X7_count (by decide +kernel) rfl (by decide) (by decide) (Nat.le_of_ble_eq_true rfl) (by decide) dL_isLeft_255 ?_
                refine lr_imul hO 258 dL_isLeft_258 ?_
                refine lr_iadd hO 259 dL_isLeft_259 ?_
                refine lr_icmp_ne hO 260 315 (by decide) dL_isLeft_260 (fun hc => ?_) (fun hc => ?_)
                · have h := of_f hc h
                  refine lr_iconst hO 315 (v := 0) (by decide) dL_isLeft_315 ?_
                  cases h
                  exact lr_iret hO 316 (fun _ h => h) (by decide) hQ (by decide) dL_isLeft_316
                · have h := of_t hc h
                  refine lr_aload_n hO 263 1 rfl dL_isLeft_263 ?_
                  refine lr_bipush hO 264 (v := 6) (by decide) dL_isLeft_264 ?_
                  obtain ⟨v37, μa_μ38, μ38, hcall, e_μ38, h⟩ := of_bm h
                  refine lr_callI hO 266 (na := 1) (As := [.int 6]) (st := []) (c_X7_count hX hcall) e_μ38 rfl wM_L_8 wI_X7_count wS_X7_count wN_X7 wC_X7_count (by decide +kernel) rfl (by decide) (by decide) (Nat.le_of_ble_eq_true rfl) (by decide) dL_isLeft_266 ?_
                  refine lr_iload_n hO 269 3 rfl dL_isLeft_269 ?_
                  refine lr_iconst hO 270 (v := 1) (by decide) dL_isLeft_270 ?_
                  refine lr_isub hO 271 dL_isLeft_271 ?_
                  refine lr_icmp_ne hO 272 315 (by decide) dL_isLeft_272 (fun hc => ?_) (fun hc => ?_)
                  · have h := of_f hc h
                    refine lr_iconst hO 315 (v := 0) (by decide) dL_isLeft_315 ?_
                    cases h
                    exact lr_iret hO 316 (fun _ h => h) (by decide) hQ (by decide) dL_isLeft_316
                  · have h := of_t hc h
                    refine lr_aload_n hO 275 1 rfl dL_isLeft_275 ?_
                    refine lr_bipush hO 276 (v := 7) (by decide) dL_isLeft_276 ?_
                    obtain ⟨v39, μa_μ40, μ40, hcall, e_μ40, h⟩ := of_bm h
                    refine lr_callI hO 278 (na := 1) (As := [.int 7]) (st := []) (c_X7_count hX hcall) e_μ40 rfl wM_L_8 wI_X7_count wS_X7_count wN_X7 wC_X7_count (by decide +kernel) rfl (by decide) (by decide) (Nat.le_of_ble_eq_true rfl) (by decide) dL_isLeft_278 ?_
                    refine lr_iload hO 281 7 rfl dL_isLeft_281 ?_
                    refine lr_iconst hO 283 (v := 1) (by decide) dL_isLeft_283 ?_
                    refine lr_iadd hO 284 dL_isLeft_284 ?_
                    refine lr_icmp_ne hO 285 315 (by decide) dL_isLeft_285 (fun hc => ?_) (fun hc => ?_)
                    · have h := of_f hc h
                      refine lr_iconst hO 315 (v := 0) (by decide) dL_isLeft_315 ?_
                      cases h
                      exact lr_iret hO 316 (fun _ h => h) (by decide) hQ (by decide) dL_isLeft_316
                    · have h := of_t hc h
                      refine lr_aload_n hO 288 1 rfl dL_isLeft_288 ?_
                      refine lr_iconst hO 289 (v := 3) (by decide) dL_isLeft_289 ?_
                      obtain ⟨v41, μa_μ42, μ42, hcall, e_μ42, h⟩ := of_bm h
                      refine lr_callI hO 290 (na := 1) (As := [.int 3]) (st := []) (c_X7_count hX hcall) e_μ42 rfl wM_L_8 wI_X7_count wS_X7_count wN_X7 wC_X7_count (by decide +kernel) rfl (by decide) (by decide) (Nat.le_of_ble_eq_true rfl) (by decide) dL_isLeft_290 ?_
                      refine lr_if_ne hO 293 315 (by decide) dL_isLeft_293 (fun hc => ?_) (fun hc => ?_)
                      · have h := of_f hc h
                        refine lr_iconst hO 315 (v := 0) (by decide) dL_isLeft_315 ?_
                        cases h
                        exact lr_iret hO 316 (fun _ h => h) (by decide) hQ (by decide) dL_isLeft_316
                      · have h := of_t hc h
                        refine lr_aload_n hO 296 1 rfl dL_isLeft_296 ?_
                        refine lr_iload hO 297 8 rfl dL_isLeft_297 ?_
                        refine lr_iconst hO 299 (v := 4) (by decide) dL_isLeft_299 ?_
                        obtain ⟨v43, μa_μ44, μ44, hcall, e_μ44, h⟩ := of_bm h
                        refine lr_callI hO 300 (na := 2) (As := [.int v27, .int 4]) (st := []) (c_X7_ofWagon hX hcall) e_μ44 rfl wM_L_21 wI_X7_ofWagon wS_X7_ofWagon wN_X7 wC_X7_ofWagon (by decide +kernel) rfl (by decide) (by decide) (Nat.le_of_ble_eq_true rfl) (by decide) dL_isLeft_300 ?_
                        refine lr_aload_n hO 303 1 rfl dL_isLeft_303 ?_
                        refine lr_iconst hO 304 (v := 0) (by decide) dL_isLeft_304 ?_
                        obtain ⟨v45, μa_μ46, μ46, hcall, e_μ46, h⟩ := of_bm h
                        refine lr_callI hO 305 (na := 1) (As := [.int 0]) (st := [.int v43]) (c_X7_count hX hcall) e_μ46 rfl wM_L_8 wI_X7_count wS_X7_count wN_X7 wC_X7_count (by decide +kernel) rfl (by decide) (by decide) (Nat.le_of_ble_eq_true rfl) (by decide) dL_isLeft_305 ?_
                        refine lr_icmp_ne hO 308 315 (by decide) dL_isLeft_308 (fun hc => ?_) (fun hc => ?_)
                        · have h := of_f hc h
                          refine lr_iconst hO 315 (v := 0) (by decide) dL_isLeft_315 ?_
                          cases h
                          exact lr_iret hO 316 (fun _ h => h) (by decide) hQ (by decide) dL_isLeft_316
                        · have h := of_t hc h
                          refine lr_iconst hO 311 (v := 1) (by decide) dL_isLeft_311 ?_
                          refine lr_goto hO 312 316 (by decide) dL_isLeft_312 ?_
                          cases h
                          exact lr_iret hO 316 (fun _ h => h) (by decide) hQ (by decide) dL_isLeft_316
            · have h := of_t hc h
              refine lr_iload hO 201 0 rfl dL_isLeft_201 ?_
              refine lr_bipush hO 203 (v := (-5)) (by decide) dL_isLeft_203 ?_
              refine lr_icmp_ne hO 205 233 (by decide) dL_isLeft_205 (fun hc => ?_) (fun hc => ?_)
              · have h := of_f hc h
                refine lr_iconst hO 233 (v := 0) (by decide) dL_isLeft_233 ?_
                cases h
                exact lr_iret hO 234 (fun _ h => h) (by decide) hQ (by decide) dL_isLeft_234
              · have h := of_t hc h
                refine lr_aload_n hO 208 1 rfl dL_isLeft_208 ?_
                refine lr_bipush hO 209 (v := 6) (by decide) dL_isLeft_209 ?_
                obtain ⟨v47, μa_μ48, μ48, hcall, e_μ48, h⟩ := of_bm h
                refine lr_callI hO 211 (na := 1) (As := [.int 6]) (st := []) (c_X7_count hX hcall) e_μ48 rfl wM_L_8 wI_X7_count wS_X7_count wN_X7 wC_X7_count (by decide +kernel) rfl (by decide) (by decide) (Nat.le_of_ble_eq_true rfl) (by decide) dL_isLeft_211 ?_
                refine lr_iload_n hO 214 3 rfl dL_isLeft_214 ?_
                refine lr_icmp_ne hO 215 233 (by decide) dL_isLeft_215 (fun hc => ?_) (fun hc => ?_)
                · have h := of_f hc h
                  refine lr_iconst hO 233 (v := 0) (by decide) dL_isLeft_233 ?_
                  cases h
                  exact lr_iret hO 234 (fun _ h => h) (by decide) hQ (by decide) dL_isLeft_234
                · have h := of_t hc h
                  refine lr_aload_n hO 218 1 rfl dL_isLeft_218 ?_
                  refine lr_bipush hO 219 (v := 7) (by decide) dL_isLeft_219 ?_
                  obtain ⟨v49, μa_μ50, μ50, hcall, e_μ50, h⟩ := of_bm h
                  refine lr_callI hO 221 (na := 1) (As := [.int 7]) (st := []) (c_X7_count hX hcall) e_μ50 rfl wM_L_8 wI_X7_count wS_X7_count wN_X7 wC_X7_count (by decide +kernel) rfl (by decide) (by decide) (Nat.le_of_ble_eq_true rfl) (by decide) dL_isLeft_221 ?_
                  refine lr_iload hO 224 7 rfl dL_isLeft_224 ?_
                  refine lr_icmp_ne hO 226 233 (by decide) dL_isLeft_226 (fun hc => ?_) (fun hc => ?_)
                  · have h := of_f hc h
                    refine lr_iconst hO 233 (v := 0) (by decide) dL_isLeft_233 ?_
                    cases h
                    exact lr_iret hO 234 (fun _ h => h) (by decide) hQ (by decide) dL_isLeft_234
                  · have h := of_t hc h
                    refine lr_iconst hO 229 (v := 1) (by decide) dL_isLeft_229 ?_
                    refine lr_goto hO 230 234 (by decide) dL_isLeft_230 ?_
                    cases h
                    exact lr_iret hO 234 (fun _ h => h) (by decide) hQ (by decide) dL_isLeft_234
          refine lr_if_eq hO 155 189 (by decide) dL_isLeft_155 (fun hc => ?_) (fun hc => ?_)
          · have h := of_t hc h
            refine lr_sub [4, 5, 6, 7, 3, 2, 1, 0] rfl ?_
            exact J29_T _ h
          · have h := of_f hc h
            refine lr_aload_n hO 158 4 rfl dL_isLeft_158 ?_
            refine lr_iload_n hO 159 5 rfl dL_isLeft_159 ?_
            obtain ⟨v51, μa_μ52, μ52, hcall, e_μ52, h⟩ := of_bm h
            refine lr_callI hO 160 (na := 1) (As := [.int a1]) (st := []) (c_X7_moves hX hcall) e_μ52 rfl wM_L_69 wI_X7_moves wS_X7_moves wN_X7 wC_X7_moves (by decide +kernel) rfl (by decide) (by decide) (Nat.le_of_ble_eq_true rfl) (by decide) dL_isLeft_160 ?_
            refine lr_if_ne hO 163 187 (by decide) dL_isLeft_163 (fun hc => ?_) (fun hc => ?_)
            · have h := of_f hc h
              refine lr_iconst hO 187 (v := 0) (by decide) dL_isLeft_187 ?_
              cases h
              exact lr_iret hO 188 (fun _ h => h) (by decide) hQ (by decide) dL_isLeft_188
            · have h := of_t hc h
              refine lr_aload_n hO 166 4 rfl dL_isLeft_166 ?_
              refine lr_iload_n hO 167 5 rfl dL_isLeft_167 ?_
              obtain ⟨v53, μa_μ54, μ54, hcall, e_μ54, h⟩ := of_bm h
              refine lr_callI hO 168 (na := 1) (As := [.int a1]) (st := []) (c_X7_pulls hX hcall) e_μ54 rfl wM_L_72 wI_X7_pulls wS_X7_pulls wN_X7 wC_X7_pulls (by decide +kernel) rfl (by decide) (by decide) (Nat.le_of_ble_eq_true rfl) (by decide) dL_isLeft_168 ?_
              refine lr_if_ne hO 171 187 (by decide) dL_isLeft_171 (fun hc => ?_) (fun hc => ?_)
              · have h := of_f hc h
                refine lr_iconst hO 187 (v := 0) (by decide) dL_isLeft_187 ?_
                cases h
                exact lr_iret hO 188 (fun _ h => h) (by decide) hQ (by decide) dL_isLeft_188
              · have h := of_t hc h
                refine lr_aload_n hO 174 4 rfl dL_isLeft_174 ?_
                refine lr_iload_n hO 175 5 rfl dL_isLeft_175 ?_
                obtain ⟨v55, μa_μ56, μ56, hcall, e_μ56, h⟩ := of_bm h
                refine lr_callI hO 176 (na := 1) (As := [.int a1]) (st := []) (c_X7_wouldLeave hX hcall) e_μ56 rfl wM_L_75 wI_X7_wouldLeave wS_X7_wouldLeave wN_X7 wC_X7_wouldLeave (by decide +kernel) rfl (by decide) (by decide) (Nat.le_of_ble_eq_true rfl) (by decide) dL_isLeft_176 ?_
                refine lr_aload_n hO 179 4 rfl dL_isLeft_179 ?_
                refine lr_iconst hO 180 (v := 0) (by decide) dL_isLeft_180 ?_
                obtain ⟨v57, μa_μ58, μ58, hcall, e_μ58, h⟩ := of_bm h
                refine lr_callI hO 181 (na := 1) (As := [.int 0]) (st := [.int v55]) (c_X7_count hX hcall) e_μ58 rfl wM_L_8 wI_X7_count wS_X7_count wN_X7 wC_X7_count (by decide +kernel) rfl (by decide) (by decide) (Nat.le_of_ble_eq_true rfl) (by decide) dL_isLeft_181 ?_
                refine lr_icmp_eq hO 184 189 (by decide) dL_isLeft_184 (fun hc => ?_) (fun hc => ?_)
                · have h := of_t hc h
                  refine lr_sub [4, 5, 6, 7, 3, 2, 1, 0] rfl ?_
                  exact J29_T _ h
                · have h := of_f hc h
                  refine lr_iconst hO 187 (v := 0) (by decide) dL_isLeft_187 ?_
                  cases h
                  exact lr_iret hO 188 (fun _ h => h) (by decide) hQ (by decide) dL_isLeft_188
        refine lr_icmp_le hO 108 126 (by decide) dL_isLeft_108 (fun hc => ?_) (fun hc => ?_)
        · have h := of_t hc h
          refine lr_iconst hO 126 (v := 0) (by decide) dL_isLeft_126 ?_
          exact J20_T _ _ h
        · have h := of_f hc h
          refine lr_aload_n hO 111 0 rfl dL_isLeft_111 ?_
          refine lr_iconst hO 112 (v := 0) (by decide) dL_isLeft_112 ?_
          obtain ⟨v59, μa_μ60, μ60, hcall, e_μ60, h⟩ := of_bm h
          refine lr_callI hO 113 (na := 1) (As := [.int 0]) (st := []) (c_X7_count hX hcall) e_μ60 rfl wM_L_8 wI_X7_count wS_X7_count wN_X7 wC_X7_count (by decide +kernel) rfl (by decide) (by decide) (Nat.le_of_ble_eq_true rfl) (by decide) dL_isLeft_113 ?_
          refine lr_aload_n hO 116 0 rfl dL_isLeft_116 ?_
          refine lr_iload_n hO 117 1 rfl dL_isLeft_117 ?_
          refine lr_iconst hO 118 (v := 1) (by decide) dL_isLeft_118 ?_
          obtain ⟨v61, μa_μ62, μ62, hcall, e_μ62, h⟩ := of_bm h
          refine lr_callI hO 119 (na := 2) (As := [.int a1, .int 1]) (st := [.int v59]) (c_X7_ofTrain hX hcall) e_μ62 rfl wM_L_63 wI_X7_ofTrain wS_X7_ofTrain wN_X7 wC_X7_ofTrain (by decide +kernel) rfl (by decide) (by decide) (Nat.le_of_ble_eq_true rfl) (by decide) dL_isLeft_119 ?_
          refine lr_isub hO 122 dL_isLeft_122 ?_
          refine lr_goto hO 123 127 (by decide) dL_isLeft_123 ?_
          exact J20_T _ _ h
      have L53_T : ∀ (n : Nat) (v10 : Int32) (v11 : Int32) (μ12 : mT), f_L_isLeft_L53 a1 v1 v3 K13 n v10 v11 μ12 = some (r, μ') → lj X [] 0 Γ μ12 53 [(0, .ref (X.1 18 0)), (1, .int a1), (2, .int v1), (3, .int v3), (4, .int v10), (5, .int v11)] [] := by
        intro n
        induction n with
        | zero =>
          intro v10 v11 μ12 h
          rw [f_L_isLeft_L53] at h
          cases h
        | succ n ih =>
          intro v10 v11 μ12 h
          rw [f_L_isLeft_L53] at h
          refine lr_iload hO 53 5 rfl dL_isLeft_53 ?_
          refine lr_iload_n hO 55 3 rfl dL_isLeft_55 ?_
          refine lr_icmp_ge hO 56 97 (by decide) dL_isLeft_56 (fun hc => ?_) (fun hc => ?_)
          · have h := of_t hc h
            refine lr_sub [0, 1, 2, 4] rfl ?_
            exact K13_T _ _ h
          · have h := of_f hc h
            refine lr_iload hO 59 4 rfl dL_isLeft_59 ?_
            refine lr_if_eq hO 61 97 (by decide) dL_isLeft_61 (fun hc => ?_) (fun hc => ?_)
            · have h := of_t hc h
              refine lr_sub [0, 1, 2, 4] rfl ?_
              exact K13_T _ _ h
            · have h := of_f hc h
              refine lr_aload_n hO 64 0 rfl dL_isLeft_64 ?_
              refine lr_iload_n hO 65 1 rfl dL_isLeft_65 ?_
              refine lr_iconst hO 66 (v := 2) (by decide) dL_isLeft_66 ?_
              refine lr_iload hO 67 5 rfl dL_isLeft_67 ?_
              refine lr_iadd hO 69 dL_isLeft_69 ?_
              obtain ⟨v63, μa_μ64, μ64, hcall, e_μ64, h⟩ := of_bm h
              refine lr_callI hO 70 (na := 2) (As := [.int a1, .int (2 + v11)]) (st := []) (c_X7_ofTrain hX hcall) e_μ64 rfl wM_L_63 wI_X7_ofTrain wS_X7_ofTrain wN_X7 wC_X7_ofTrain (by decide +kernel) rfl (by decide) (by decide) (Nat.le_of_ble_eq_true rfl) (by decide) dL_isLeft_70 ?_
              refine lr_aload_n hO 73 0 rfl dL_isLeft_73 ?_
              refine lr_bipush hO 74 (v := (-6)) (by decide) dL_isLeft_74 ?_
              refine lr_iload hO 76 5 rfl dL_isLeft_76 ?_
              obtain ⟨v65, μa_μ66, μ66, hcall, e_μ66, h⟩ := of_bm h
              refine lr_callI hO 78 (na := 2) (As := [.int ((-6)), .int v11]) (st := [.int v63]) (c_X7_at hX hcall) e_μ66 rfl wM_L_18 wI_X7_at wS_X7_at wN_X7 wC_X7_at (by decide +kernel) rfl (by decide) (by decide) (Nat.le_of_ble_eq_true rfl) (by decide) dL_isLeft_78 ?_
              obtain ⟨J67, e_J67, h⟩ := of_lt h
              have J67_T : ∀ (v68 : Int32) (μ69 : mT), J67 v68 μ69 = some (r, μ') → lj X [] 0 Γ μ69 89 [(0, .ref (X.1 18 0)), (1, .int a1), (2, .int v1), (3, .int v3), (5, .int v11)] [.int v68] := by
                intro v68 μ69 h
                rw [e_J67] at h
                refine lr_istore hO 89 (v := v68) rfl (lv' := [(4, .int v68), (0, .ref (X.1 18 0)), (1, .int a1), (2, .int v1), (3, .int v3), (5, .int v11)]) hn (by decide) rfl dL_isLeft_89 ?_
                obtain ⟨v70, e_v70, h⟩ := of_lt h
                refine lr_iinc hO 91 (q := 5) (v := v70) (lv' := [(5, .int v70), (4, .int v68), (0, .ref (X.1 18 0)), (1, .int a1), (2, .int v1), (3, .int v3)]) hn rfl (by rw [e_v70]; rfl) (by decide) rfl dL_isLeft_91 ?_
                refine lr_goto hO 94 53 (by decide) dL_isLeft_94 ?_
                refine lr_sub [2, 3, 4, 5, 1, 0] rfl ?_
                exact ih _ _ _ h
              refine lr_icmp_ne hO 81 88 (by decide) dL_isLeft_81 (fun hc => ?_) (fun hc => ?_)
              · have h := of_f hc h
                refine lr_iconst hO 88 (v := 0) (by decide) dL_isLeft_88 ?_
                refine lr_sub [0, 1, 2, 3, 5] rfl ?_
                exact J67_T _ _ h
              · have h := of_t hc h
                refine lr_iconst hO 84 (v := 1) (by decide) dL_isLeft_84 ?_
                refine lr_goto hO 85 89 (by decide) dL_isLeft_85 ?_
                refine lr_sub [0, 1, 2, 3, 5] rfl ?_
                exact J67_T _ _ h
      refine lr_sub [2, 3, 4, 5, 1, 0] rfl ?_
      exact L53_T _ _ _ _ h
    refine lr_icmp_ne hO 40 47 (by decide) dL_isLeft_40 (fun hc => ?_) (fun hc => ?_)
    · have h := of_f hc h
      refine lr_iconst hO 47 (v := 0) (by decide) dL_isLeft_47 ?_
      refine lr_sub [2, 3, 1, 0] rfl ?_
      exact J7_T _ _ h
    · have h := of_t hc h
      refine lr_iconst hO 43 (v := 1) (by decide) dL_isLeft_43 ?_
      refine lr_goto hO 44 48 (by decide) dL_isLeft_44 ?_
      refine lr_sub [2, 3, 1, 0] rfl ?_
      exact J7_T _ _ h
  · have h := of_f hc h
    refine lr_aload_n hO 12 1 rfl dL_isLeft_12 ?_
    refine lr_iload_n hO 13 2 rfl dL_isLeft_13 ?_
    obtain ⟨v71, μa_μ72, μ72, hcall, e_μ72, h⟩ := of_bm h
    refine lr_callI hO 14 (na := 1) (As := [.int a1]) (st := []) (c_X7_leave hX hcall) e_μ72 rfl wM_L_66 wI_X7_leave wS_X7_leave wN_X7 wC_X7_leave (by decide +kernel) rfl (by decide) (by decide) (Nat.le_of_ble_eq_true rfl) (by decide) dL_isLeft_14 ?_
    refine lr_iconst hO 17 (v := (-1)) (by decide) dL_isLeft_17 ?_
    refine lr_icmp_ne hO 18 25 (by decide) dL_isLeft_18 (fun hc => ?_) (fun hc => ?_)
    · have h := of_f hc h
      refine lr_iconst hO 25 (v := 0) (by decide) dL_isLeft_25 ?_
      cases h
      exact lr_iret hO 26 (fun _ h => h) (by decide) hQ (by decide) dL_isLeft_26
    · have h := of_t hc h
      refine lr_iconst hO 21 (v := 1) (by decide) dL_isLeft_21 ?_
      refine lr_goto hO 22 26 (by decide) dL_isLeft_22 ?_
      cases h
      exact lr_iret hO 26 (fun _ h => h) (by decide) hQ (by decide) dL_isLeft_26
set_option maxHeartbeats 4000000 in
set_option maxRecDepth 100000 in
theorem c_L_isPassed {X : xT} {Z : scT} (hX : xOK X) {a1 : Int32} {μ μ' : mT} {r : Int32} (h : f_L_isPassed a1 μ = some (r, μ')) : CL X Z [] yL_isPassed cL_isPassed 5 .boolean 5 110 0 [.ref (X.1 18 0), .int a1] μ r μ' := by
  refine CL_of hX (by decide +kernel) (lv := [(0, .ref (X.1 18 0)), (1, .int a1)]) (Nat.le_of_ble_eq_true rfl) rfl (fun Γ hO hn hQ => ?_)
  have hO : OkY X Z RL cL_isPassed 5 110 0 Γ := hO
  unfold f_L_isPassed at h
  refine lr_aload_n hO 0 0 rfl dL_isPassed_0 ?_
  refine lr_iconst hO 1 (v := 0) (by decide) dL_isPassed_1 ?_
  obtain ⟨v1, μa_μ2, μ2, hcall, e_μ2, h⟩ := of_bm h
  refine lr_callI hO 2 (na := 1) (As := [.int 0]) (st := []) (c_X7_count hX hcall) e_μ2 rfl wM_L_8 wI_X7_count wS_X7_count wN_X7 wC_X7_count (by decide +kernel) rfl (by decide) (by decide) (Nat.le_of_ble_eq_true rfl) (by decide) dL_isPassed_2 ?_
  refine lr_istore_n hO 5 (v := v1) rfl (lv' := [(2, .int v1), (0, .ref (X.1 18 0)), (1, .int a1)]) hn rfl (by decide) rfl dL_isPassed_5 ?_
  refine lr_aload_n hO 6 1 rfl dL_isPassed_6 ?_
  refine lr_iconst hO 7 (v := 5) (by decide) dL_isPassed_7 ?_
  obtain ⟨v3, μa_μ4, μ4, hcall, e_μ4, h⟩ := of_bm h
  refine lr_callI hO 8 (na := 1) (As := [.int 5]) (st := []) (c_X7_freeFrom hX hcall) e_μ4 rfl wM_L_37 wI_X7_freeFrom wS_X7_freeFrom wN_X7 wC_X7_freeFrom (by decide +kernel) rfl (by decide) (by decide) (Nat.le_of_ble_eq_true rfl) (by decide) dL_isPassed_8 ?_
  refine lr_istore_n hO 11 (v := v3) rfl (lv' := [(3, .int v3), (2, .int v1), (0, .ref (X.1 18 0)), (1, .int a1)]) hn rfl (by decide) rfl dL_isPassed_11 ?_
  refine lr_aload_n hO 12 2 rfl dL_isPassed_12 ?_
  refine lr_iload_n hO 13 3 rfl dL_isPassed_13 ?_
  obtain ⟨v5, μa_μ6, μ6, hcall, e_μ6, h⟩ := of_bm h
  refine lr_callI hO 14 (na := 1) (As := [.int a1]) (st := []) (c_X7_pass hX hcall) e_μ6 rfl wM_L_78 wI_X7_pass wS_X7_pass wN_X7 wC_X7_pass (by decide +kernel) rfl (by decide) (by decide) (Nat.le_of_ble_eq_true rfl) (by decide) dL_isPassed_14 ?_
  refine lr_iload_n hO 17 1 rfl dL_isPassed_17 ?_
  refine lr_iload_n hO 18 3 rfl dL_isPassed_18 ?_
  refine lr_iadd hO 19 dL_isPassed_19 ?_
  obtain ⟨J7, e_J7, h⟩ := of_lt h
  have J7_T : ∀ (v8 : Int32) (μ9 : mT), J7 v8 μ9 = some (r, μ') → lj X [] 0 Γ μ9 50 [(0, .ref (X.1 18 0)), (3, .int v3)] [.int v8] := by
    intro v8 μ9 h
    rw [e_J7] at h
    refine lr_istore hO 50 (v := v8) rfl (lv' := [(4, .int v8), (0, .ref (X.1 18 0)), (3, .int v3)]) hn (by decide) rfl dL_isPassed_50 ?_
    refine lr_iload hO 52 0 rfl dL_isPassed_52 ?_
    refine lr_if_eq hO 54 79 (by decide) dL_isPassed_54 (fun hc => ?_) (fun hc => ?_)
    · have h := of_t hc h
      refine lr_iconst hO 79 (v := 0) (by decide) dL_isPassed_79 ?_
      cases h
      exact lr_iret hO 80 (fun _ h => h) (by decide) hQ (by decide) dL_isPassed_80
    · have h := of_f hc h
      refine lr_iload_n hO 57 2 rfl dL_isPassed_57 ?_
      refine lr_aload_n hO 58 1 rfl dL_isPassed_58 ?_
      refine lr_iconst hO 59 (v := 0) (by decide) dL_isPassed_59 ?_
      obtain ⟨v10, μa_μ11, μ11, hcall, e_μ11, h⟩ := of_bm h
      refine lr_callI hO 60 (na := 1) (As := [.int 0]) (st := [.int v3]) (c_X7_count hX hcall) e_μ11 rfl wM_L_8 wI_X7_count wS_X7_count wN_X7 wC_X7_count (by decide +kernel) rfl (by decide) (by decide) (Nat.le_of_ble_eq_true rfl) (by decide) dL_isPassed_60 ?_
      refine lr_icmp_lt hO 63 75 (by decide) dL_isPassed_63 (fun hc => ?_) (fun hc => ?_)
      · have h := of_t hc h
        refine lr_iconst hO 75 (v := 1) (by decide) dL_isPassed_75 ?_
        refine lr_goto hO 76 80 (by decide) dL_isPassed_76 ?_
        cases h
        exact lr_iret hO 80 (fun _ h => h) (by decide) hQ (by decide) dL_isPassed_80
      · have h := of_f hc h
        refine lr_aload_n hO 66 1 rfl dL_isPassed_66 ?_
        refine lr_iconst hO 67 (v := 5) (by decide) dL_isPassed_67 ?_
        obtain ⟨v12, μa_μ13, μ13, hcall, e_μ13, h⟩ := of_bm h
        refine lr_callI hO 68 (na := 1) (As := [.int 5]) (st := []) (c_X7_freeFrom hX hcall) e_μ13 rfl wM_L_37 wI_X7_freeFrom wS_X7_freeFrom wN_X7 wC_X7_freeFrom (by decide +kernel) rfl (by decide) (by decide) (Nat.le_of_ble_eq_true rfl) (by decide) dL_isPassed_68 ?_
        refine lr_iload_n hO 71 2 rfl dL_isPassed_71 ?_
        refine lr_icmp_ne hO 72 79 (by decide) dL_isPassed_72 (fun hc => ?_) (fun hc => ?_)
        · have h := of_f hc h
          refine lr_iconst hO 79 (v := 0) (by decide) dL_isPassed_79 ?_
          cases h
          exact lr_iret hO 80 (fun _ h => h) (by decide) hQ (by decide) dL_isPassed_80
        · have h := of_t hc h
          refine lr_iconst hO 75 (v := 1) (by decide) dL_isPassed_75 ?_
          refine lr_goto hO 76 80 (by decide) dL_isPassed_76 ?_
          cases h
          exact lr_iret hO 80 (fun _ h => h) (by decide) hQ (by decide) dL_isPassed_80
  obtain ⟨J14, e_J14, h⟩ := of_lt h
  have J14_T : ∀ (μ15 : mT), J14 μ15 = some (r, μ') → lj X [] 0 Γ μ15 49 [(0, .ref (X.1 18 0)), (3, .int v3)] [] := by
    intro μ15 h
    rw [e_J14] at h
    refine lr_iconst hO 49 (v := 0) (by decide) dL_isPassed_49 ?_
    exact J7_T _ _ h
  refine lr_icmp_ne hO 20 49 (by decide) dL_isPassed_20 (fun hc => ?_) (fun hc => ?_)
  · have h := of_f hc h
    refine lr_sub [2, 0] rfl ?_
    exact J14_T _ h
  · have h := of_t hc h
    refine lr_aload_n hO 23 2 rfl dL_isPassed_23 ?_
    refine lr_iconst hO 24 (v := 5) (by decide) dL_isPassed_24 ?_
    obtain ⟨v16, μa_μ17, μ17, hcall, e_μ17, h⟩ := of_bm h
    refine lr_callI hO 25 (na := 1) (As := [.int 5]) (st := []) (c_X7_freeFrom hX hcall) e_μ17 rfl wM_L_37 wI_X7_freeFrom wS_X7_freeFrom wN_X7 wC_X7_freeFrom (by decide +kernel) rfl (by decide) (by decide) (Nat.le_of_ble_eq_true rfl) (by decide) dL_isPassed_25 ?_
    refine lr_iload_n hO 28 0 rfl dL_isPassed_28 ?_
    refine lr_icmp_lt hO 29 49 (by decide) dL_isPassed_29 (fun hc => ?_) (fun hc => ?_)
    · have h := of_t hc h
      refine lr_sub [2, 0] rfl ?_
      exact J14_T _ h
    · have h := of_f hc h
      refine lr_aload_n hO 32 2 rfl dL_isPassed_32 ?_
      refine lr_iconst hO 33 (v := 5) (by decide) dL_isPassed_33 ?_
      obtain ⟨v18, μa_μ19, μ19, hcall, e_μ19, h⟩ := of_bm h
      refine lr_callI hO 34 (na := 1) (As := [.int 5]) (st := []) (c_X7_freeFrom hX hcall) e_μ19 rfl wM_L_37 wI_X7_freeFrom wS_X7_freeFrom wN_X7 wC_X7_freeFrom (by decide +kernel) rfl (by decide) (by decide) (Nat.le_of_ble_eq_true rfl) (by decide) dL_isPassed_34 ?_
      refine lr_aload_n hO 37 2 rfl dL_isPassed_37 ?_
      refine lr_iconst hO 38 (v := 0) (by decide) dL_isPassed_38 ?_
      obtain ⟨v20, μa_μ21, μ21, hcall, e_μ21, h⟩ := of_bm h
      refine lr_callI hO 39 (na := 1) (As := [.int 0]) (st := [.int v18]) (c_X7_count hX hcall) e_μ21 rfl wM_L_8 wI_X7_count wS_X7_count wN_X7 wC_X7_count (by decide +kernel) rfl (by decide) (by decide) (Nat.le_of_ble_eq_true rfl) (by decide) dL_isPassed_39 ?_
      refine lr_icmp_lt hO 42 49 (by decide) dL_isPassed_42 (fun hc => ?_) (fun hc => ?_)
      · have h := of_t hc h
        refine lr_sub [2, 0] rfl ?_
        exact J14_T _ h
      · have h := of_f hc h
        refine lr_iconst hO 45 (v := 1) (by decide) dL_isPassed_45 ?_
        refine lr_goto hO 46 50 (by decide) dL_isPassed_46 ?_
        refine lr_sub [2, 0] rfl ?_
        exact J7_T _ _ h
set_option maxHeartbeats 4000000 in
set_option maxRecDepth 100000 in
theorem c_L_isAct {X : xT} {Z : scT} (hX : xOK X) {xs : Nat → Int32} {Ls : Nat} (hZx : Z.2.2 = xs) (hZl : Z.2.1 = Ls) {a2 : Int32} {μ μ' : mT} {r : Int32} (h : f_L_isAct xs Ls a2 μ = some (r, μ')) : CL X Z [] yL_isAct cL_isAct 6 .boolean 8 193 2 [.ref (X.1 18 0), .ref Z.1, .int a2] μ r μ' := by
  subst hZx
  subst hZl
  have hZx : Z.2.2 = Z.2.2 := rfl
  have hZl : Z.2.1 = Z.2.1 := rfl
  refine CL_of hX (by decide +kernel) (lv := [(0, .ref (X.1 18 0)), (1, .ref Z.1), (2, .int a2)]) (Nat.le_of_ble_eq_true rfl) rfl (fun Γ hO hn hQ => ?_)
  have hO : OkY X Z RL cL_isAct 8 193 2 Γ := hO
  unfold f_L_isAct at h
  refine lr_aload_n hO 0 1 rfl dL_isAct_0 ?_
  refine lr_iload_n hO 1 2 rfl dL_isAct_1 ?_
  refine lr_iconst hO 2 (v := 1) (by decide) dL_isAct_2 ?_
  refine lr_iadd hO 3 dL_isAct_3 ?_
  refine lr_aload_n hO 4 0 rfl dL_isAct_4 ?_
  refine lr_iconst hO 5 (v := 1) (by decide) dL_isAct_5 ?_
  obtain ⟨v1, μa_μ2, μ2, hcall, e_μ2, h⟩ := of_bm h
  refine lr_callI hO 6 (na := 1) (As := [.int 1]) (st := [.int (a2 + 1), .ref Z.1]) (c_X7_count hX hcall) e_μ2 rfl wM_L_8 wI_X7_count wS_X7_count wN_X7 wC_X7_count (by decide +kernel) rfl (by decide) (by decide) (Nat.le_of_ble_eq_true rfl) (by decide) dL_isAct_6 ?_
  refine lr_aload_n hO 9 1 rfl dL_isAct_9 ?_
  refine lr_iload_n hO 10 2 rfl dL_isAct_10 ?_
  refine lr_iconst hO 11 (v := 2) (by decide) dL_isAct_11 ?_
  refine lr_iadd hO 12 dL_isAct_12 ?_
  refine lr_bipush hO 13 (v := 9) (by decide) dL_isAct_13 ?_
  obtain ⟨v3, μ4, hcall, h⟩ := of_bd h
  refine lr_callS hO 15 (na := 3) (mc := 0) (As := [.ref Z.1, .int (a2 + 2), .int 9]) (st := [.int v1, .int (a2 + 1), .ref Z.1]) (c_L_cell hX hZx hZl hcall) rfl wM_L_81 wT_L_cell wN_L wC_L_cell (by decide +kernel) rfl (by decide) (by decide) (Nat.le_of_ble_eq_true rfl) (by decide) dL_isAct_15 ?_
  obtain ⟨J5, e_J5, h⟩ := of_lt h
  have J5_T : ∀ (v6 : Int32) (μ7 : mT), J5 v6 μ7 = some (r, μ') → lj X [] 0 Γ μ7 26 [(0, .ref (X.1 18 0)), (1, .ref Z.1), (2, .int a2)] [.int v6, .int v1, .int (a2 + 1), .ref Z.1] := by
    intro v6 μ7 h
    rw [e_J5] at h
    refine lr_iadd hO 26 dL_isAct_26 ?_
    obtain ⟨v8, μ9, hcall, h⟩ := of_bd h
    refine lr_callS hO 27 (na := 3) (mc := 0) (As := [.ref Z.1, .int (a2 + 1), .int (v1 + v6)]) (st := []) (c_L_cell hX hZx hZl hcall) rfl wM_L_81 wT_L_cell wN_L wC_L_cell (by decide +kernel) rfl (by decide) (by decide) (Nat.le_of_ble_eq_true rfl) (by decide) dL_isAct_27 ?_
    refine lr_istore_n hO 30 (v := v8) rfl (lv' := [(3, .int v8), (0, .ref (X.1 18 0)), (1, .ref Z.1), (2, .int a2)]) hn rfl (by decide) rfl dL_isAct_30 ?_
    refine lr_iconst hO 31 (v := 1) (by decide) dL_isAct_31 ?_
    refine lr_aload_n hO 32 2 rfl dL_isAct_32 ?_
    refine lr_iload_n hO 33 3 rfl dL_isAct_33 ?_
    refine lr_iconst hO 34 (v := 3) (by decide) dL_isAct_34 ?_
    refine lr_iadd hO 35 dL_isAct_35 ?_
    refine lr_aload_n hO 36 2 rfl dL_isAct_36 ?_
    refine lr_iload_n hO 37 3 rfl dL_isAct_37 ?_
    refine lr_iconst hO 38 (v := 4) (by decide) dL_isAct_38 ?_
    refine lr_iadd hO 39 dL_isAct_39 ?_
    refine lr_iconst hO 40 (v := 3) (by decide) dL_isAct_40 ?_
    obtain ⟨v10, μ11, hcall, h⟩ := of_bd h
    refine lr_callS hO 41 (na := 3) (mc := 0) (As := [.ref Z.1, .int (a2 + 4), .int 3]) (st := [.int (a2 + 3), .ref Z.1, .int 1]) (c_L_cell hX hZx hZl hcall) rfl wM_L_81 wT_L_cell wN_L wC_L_cell (by decide +kernel) rfl (by decide) (by decide) (Nat.le_of_ble_eq_true rfl) (by decide) dL_isAct_41 ?_
    obtain ⟨J12, e_J12, h⟩ := of_lt h
    have J12_T : ∀ (v13 : Int32) (μ14 : mT), J12 v13 μ14 = some (r, μ') → lj X [] 0 Γ μ14 53 [(0, .ref (X.1 18 0)), (1, .ref Z.1), (2, .int a2), (3, .int v8)] [.int v13, .int (a2 + 3), .ref Z.1, .int 1] := by
      intro v13 μ14 h
      rw [e_J12] at h
      obtain ⟨v15, μ16, hcall, h⟩ := of_bd h
      refine lr_callS hO 53 (na := 3) (mc := 0) (As := [.ref Z.1, .int (a2 + 3), .int v13]) (st := [.int 1]) (c_L_cell hX hZx hZl hcall) rfl wM_L_81 wT_L_cell wN_L wC_L_cell (by decide +kernel) rfl (by decide) (by decide) (Nat.le_of_ble_eq_true rfl) (by decide) dL_isAct_53 ?_
      refine lr_iadd hO 56 dL_isAct_56 ?_
      obtain ⟨v17, e_v17, h⟩ := of_lt h
      refine lr_istore hO 57 (v := v17) e_v17 (lv' := [(4, .int v17), (0, .ref (X.1 18 0)), (1, .ref Z.1), (2, .int a2), (3, .int v8)]) hn (by decide) rfl dL_isAct_57 ?_
      refine lr_aload_n hO 59 2 rfl dL_isAct_59 ?_
      refine lr_iload_n hO 60 3 rfl dL_isAct_60 ?_
      refine lr_bipush hO 61 (v := 14) (by decide) dL_isAct_61 ?_
      obtain ⟨v18, μ19, hcall, h⟩ := of_bd h
      refine lr_callS hO 63 (na := 3) (mc := 0) (As := [.ref Z.1, .int a2, .int 14]) (st := []) (c_L_cell hX hZx hZl hcall) rfl wM_L_81 wT_L_cell wN_L wC_L_cell (by decide +kernel) rfl (by decide) (by decide) (Nat.le_of_ble_eq_true rfl) (by decide) dL_isAct_63 ?_
      by_cases hs0 : v18 = 0
      · have h := of_t hs0 h
        refine lr_tabIn hO 66 132 (by rw [hs0]; decide) (by rw [hs0]; decide) (by rw [hs0]; rfl) (by decide) dL_isAct_66 ?_
        refine lr_aload_n hO 132 1 rfl dL_isAct_132 ?_
        refine lr_iload_n hO 133 4 rfl dL_isAct_133 ?_
        refine lr_iload hO 134 0 rfl dL_isAct_134 ?_
        obtain ⟨v20, μ21, hcall, h⟩ := of_bd h
        refine lr_callS hO 136 (na := 3) (mc := 2) (As := [.ref (X.1 18 0), .int v8, .int v17]) (st := []) (c_L_isPulled hX hcall) rfl wM_L_85 wT_L_isPulled wN_L wC_L_isPulled (by decide +kernel) rfl (by decide) (by decide) (Nat.le_of_ble_eq_true rfl) (by decide) dL_isAct_136 ?_
        obtain ⟨hg, h⟩ := of_gd h
        cases h
        exact lr_iret hO 139 (fun _ h => h) (by decide) hQ (isB_n hg) dL_isAct_139
      have h := of_f hs0 h
      by_cases hs1 : v18 = 1
      · have h := of_t hs1 h
        refine lr_tabIn hO 66 132 (by rw [hs1]; decide) (by rw [hs1]; decide) (by rw [hs1]; rfl) (by decide) dL_isAct_66 ?_
        refine lr_aload_n hO 132 1 rfl dL_isAct_132 ?_
        refine lr_iload_n hO 133 4 rfl dL_isAct_133 ?_
        refine lr_iload hO 134 0 rfl dL_isAct_134 ?_
        obtain ⟨v22, μ23, hcall, h⟩ := of_bd h
        refine lr_callS hO 136 (na := 3) (mc := 2) (As := [.ref (X.1 18 0), .int v8, .int v17]) (st := []) (c_L_isPulled hX hcall) rfl wM_L_85 wT_L_isPulled wN_L wC_L_isPulled (by decide +kernel) rfl (by decide) (by decide) (Nat.le_of_ble_eq_true rfl) (by decide) dL_isAct_136 ?_
        obtain ⟨hg, h⟩ := of_gd h
        cases h
        exact lr_iret hO 139 (fun _ h => h) (by decide) hQ (isB_n hg) dL_isAct_139
      have h := of_f hs1 h
      by_cases hs2 : v18 = 2
      · have h := of_t hs2 h
        refine lr_tabIn hO 66 132 (by rw [hs2]; decide) (by rw [hs2]; decide) (by rw [hs2]; rfl) (by decide) dL_isAct_66 ?_
        refine lr_aload_n hO 132 1 rfl dL_isAct_132 ?_
        refine lr_iload_n hO 133 4 rfl dL_isAct_133 ?_
        refine lr_iload hO 134 0 rfl dL_isAct_134 ?_
        obtain ⟨v24, μ25, hcall, h⟩ := of_bd h
        refine lr_callS hO 136 (na := 3) (mc := 2) (As := [.ref (X.1 18 0), .int v8, .int v17]) (st := []) (c_L_isPulled hX hcall) rfl wM_L_85 wT_L_isPulled wN_L wC_L_isPulled (by decide +kernel) rfl (by decide) (by decide) (Nat.le_of_ble_eq_true rfl) (by decide) dL_isAct_136 ?_
        obtain ⟨hg, h⟩ := of_gd h
        cases h
        exact lr_iret hO 139 (fun _ h => h) (by decide) hQ (isB_n hg) dL_isAct_139
      have h := of_f hs2 h
      by_cases hs3 : v18 = 3
      · have h := of_t hs3 h
        refine lr_tabIn hO 66 132 (by rw [hs3]; decide) (by rw [hs3]; decide) (by rw [hs3]; rfl) (by decide) dL_isAct_66 ?_
        refine lr_aload_n hO 132 1 rfl dL_isAct_132 ?_
        refine lr_iload_n hO 133 4 rfl dL_isAct_133 ?_
        refine lr_iload hO 134 0 rfl dL_isAct_134 ?_
        obtain ⟨v26, μ27, hcall, h⟩ := of_bd h
        refine lr_callS hO 136 (na := 3) (mc := 2) (As := [.ref (X.1 18 0), .int v8, .int v17]) (st := []) (c_L_isPulled hX hcall) rfl wM_L_85 wT_L_isPulled wN_L wC_L_isPulled (by decide +kernel) rfl (by decide) (by decide) (Nat.le_of_ble_eq_true rfl) (by decide) dL_isAct_136 ?_
        obtain ⟨hg, h⟩ := of_gd h
        cases h
        exact lr_iret hO 139 (fun _ h => h) (by decide) hQ (isB_n hg) dL_isAct_139
      have h := of_f hs3 h
      by_cases hs4 : v18 = 4
      · have h := of_t hs4 h
        refine lr_tabIn hO 66 140 (by rw [hs4]; decide) (by rw [hs4]; decide) (by rw [hs4]; rfl) (by decide) dL_isAct_66 ?_
        refine lr_aload_n hO 140 1 rfl dL_isAct_140 ?_
        refine lr_iload_n hO 141 4 rfl dL_isAct_141 ?_
        refine lr_aload_n hO 142 2 rfl dL_isAct_142 ?_
        refine lr_iload_n hO 143 3 rfl dL_isAct_143 ?_
        refine lr_iconst hO 144 (v := 2) (by decide) dL_isAct_144 ?_
        refine lr_iadd hO 145 dL_isAct_145 ?_
        refine lr_iconst hO 146 (v := 2) (by decide) dL_isAct_146 ?_
        obtain ⟨v28, μ29, hcall, h⟩ := of_bd h
        refine lr_callS hO 147 (na := 3) (mc := 0) (As := [.ref Z.1, .int (a2 + 2), .int 2]) (st := [.int v8, .ref (X.1 18 0)]) (c_L_cell hX hZx hZl hcall) rfl wM_L_81 wT_L_cell wN_L wC_L_cell (by decide +kernel) rfl (by decide) (by decide) (Nat.le_of_ble_eq_true rfl) (by decide) dL_isAct_147 ?_
        refine lr_if_ne hO 150 169 (by decide) dL_isAct_150 (fun hc => ?_) (fun hc => ?_)
        · have h := of_f hc h
          refine lr_iload hO 169 0 rfl dL_isAct_169 ?_
          obtain ⟨v30, μ31, hcall, h⟩ := of_bd h
          refine lr_callS hO 171 (na := 3) (mc := 2) (As := [.ref (X.1 18 0), .int v8, .int v17]) (st := []) (c_L_isPushed hX hcall) rfl wM_L_89 wT_L_isPushed wN_L wC_L_isPushed (by decide +kernel) rfl (by decide) (by decide) (Nat.le_of_ble_eq_true rfl) (by decide) dL_isAct_171 ?_
          obtain ⟨hg, h⟩ := of_gd h
          cases h
          exact lr_iret hO 174 (fun _ h => h) (by decide) hQ (isB_n hg) dL_isAct_174
        · have h := of_t hc h
          refine lr_aload_n hO 153 1 rfl dL_isAct_153 ?_
          refine lr_iconst hO 154 (v := 3) (by decide) dL_isAct_154 ?_
          obtain ⟨v32, μa_μ33, μ33, hcall, e_μ33, h⟩ := of_bm h
          refine lr_callI hO 155 (na := 1) (As := [.int 3]) (st := [.int v8, .ref (X.1 18 0)]) (c_X7_count hX hcall) e_μ33 rfl wM_L_8 wI_X7_count wS_X7_count wN_X7 wC_X7_count (by decide +kernel) rfl (by decide) (by decide) (Nat.le_of_ble_eq_true rfl) (by decide) dL_isAct_155 ?_
          refine lr_if_le hO 158 169 (by decide) dL_isAct_158 (fun hc => ?_) (fun hc => ?_)
          · have h := of_t hc h
            refine lr_iload hO 169 0 rfl dL_isAct_169 ?_
            obtain ⟨v34, μ35, hcall, h⟩ := of_bd h
            refine lr_callS hO 171 (na := 3) (mc := 2) (As := [.ref (X.1 18 0), .int v8, .int v17]) (st := []) (c_L_isPushed hX hcall) rfl wM_L_89 wT_L_isPushed wN_L wC_L_isPushed (by decide +kernel) rfl (by decide) (by decide) (Nat.le_of_ble_eq_true rfl) (by decide) dL_isAct_171 ?_
            obtain ⟨hg, h⟩ := of_gd h
            cases h
            exact lr_iret hO 174 (fun _ h => h) (by decide) hQ (isB_n hg) dL_isAct_174
          · have h := of_f hc h
            refine lr_aload_n hO 161 1 rfl dL_isAct_161 ?_
            refine lr_iconst hO 162 (v := 3) (by decide) dL_isAct_162 ?_
            obtain ⟨v36, μa_μ37, μ37, hcall, e_μ37, h⟩ := of_bm h
            refine lr_callI hO 163 (na := 1) (As := [.int 3]) (st := [.int v8, .ref (X.1 18 0)]) (c_X7_count hX hcall) e_μ37 rfl wM_L_8 wI_X7_count wS_X7_count wN_X7 wC_X7_count (by decide +kernel) rfl (by decide) (by decide) (Nat.le_of_ble_eq_true rfl) (by decide) dL_isAct_163 ?_
            refine lr_goto hO 166 171 (by decide) dL_isAct_166 ?_
            obtain ⟨v38, μ39, hcall, h⟩ := of_bd h
            refine lr_callS hO 171 (na := 3) (mc := 2) (As := [.ref (X.1 18 0), .int v8, .int v36]) (st := []) (c_L_isPushed hX hcall) rfl wM_L_89 wT_L_isPushed wN_L wC_L_isPushed (by decide +kernel) rfl (by decide) (by decide) (Nat.le_of_ble_eq_true rfl) (by decide) dL_isAct_171 ?_
            obtain ⟨hg, h⟩ := of_gd h
            cases h
            exact lr_iret hO 174 (fun _ h => h) (by decide) hQ (isB_n hg) dL_isAct_174
      have h := of_f hs4 h
      by_cases hs5 : v18 = 5
      · have h := of_t hs5 h
        refine lr_tabIn hO 66 140 (by rw [hs5]; decide) (by rw [hs5]; decide) (by rw [hs5]; rfl) (by decide) dL_isAct_66 ?_
        refine lr_aload_n hO 140 1 rfl dL_isAct_140 ?_
        refine lr_iload_n hO 141 4 rfl dL_isAct_141 ?_
        refine lr_aload_n hO 142 2 rfl dL_isAct_142 ?_
        refine lr_iload_n hO 143 3 rfl dL_isAct_143 ?_
        refine lr_iconst hO 144 (v := 2) (by decide) dL_isAct_144 ?_
        refine lr_iadd hO 145 dL_isAct_145 ?_
        refine lr_iconst hO 146 (v := 2) (by decide) dL_isAct_146 ?_
        obtain ⟨v40, μ41, hcall, h⟩ := of_bd h
        refine lr_callS hO 147 (na := 3) (mc := 0) (As := [.ref Z.1, .int (a2 + 2), .int 2]) (st := [.int v8, .ref (X.1 18 0)]) (c_L_cell hX hZx hZl hcall) rfl wM_L_81 wT_L_cell wN_L wC_L_cell (by decide +kernel) rfl (by decide) (by decide) (Nat.le_of_ble_eq_true rfl) (by decide) dL_isAct_147 ?_
        refine lr_if_ne hO 150 169 (by decide) dL_isAct_150 (fun hc => ?_) (fun hc => ?_)
        · have h := of_f hc h
          refine lr_iload hO 169 0 rfl dL_isAct_169 ?_
          obtain ⟨v42, μ43, hcall, h⟩ := of_bd h
          refine lr_callS hO 171 (na := 3) (mc := 2) (As := [.ref (X.1 18 0), .int v8, .int v17]) (st := []) (c_L_isPushed hX hcall) rfl wM_L_89 wT_L_isPushed wN_L wC_L_isPushed (by decide +kernel) rfl (by decide) (by decide) (Nat.le_of_ble_eq_true rfl) (by decide) dL_isAct_171 ?_
          obtain ⟨hg, h⟩ := of_gd h
          cases h
          exact lr_iret hO 174 (fun _ h => h) (by decide) hQ (isB_n hg) dL_isAct_174
        · have h := of_t hc h
          refine lr_aload_n hO 153 1 rfl dL_isAct_153 ?_
          refine lr_iconst hO 154 (v := 3) (by decide) dL_isAct_154 ?_
          obtain ⟨v44, μa_μ45, μ45, hcall, e_μ45, h⟩ := of_bm h
          refine lr_callI hO 155 (na := 1) (As := [.int 3]) (st := [.int v8, .ref (X.1 18 0)]) (c_X7_count hX hcall) e_μ45 rfl wM_L_8 wI_X7_count wS_X7_count wN_X7 wC_X7_count (by decide +kernel) rfl (by decide) (by decide) (Nat.le_of_ble_eq_true rfl) (by decide) dL_isAct_155 ?_
          refine lr_if_le hO 158 169 (by decide) dL_isAct_158 (fun hc => ?_) (fun hc => ?_)
          · have h := of_t hc h
            refine lr_iload hO 169 0 rfl dL_isAct_169 ?_
            obtain ⟨v46, μ47, hcall, h⟩ := of_bd h
            refine lr_callS hO 171 (na := 3) (mc := 2) (As := [.ref (X.1 18 0), .int v8, .int v17]) (st := []) (c_L_isPushed hX hcall) rfl wM_L_89 wT_L_isPushed wN_L wC_L_isPushed (by decide +kernel) rfl (by decide) (by decide) (Nat.le_of_ble_eq_true rfl) (by decide) dL_isAct_171 ?_
            obtain ⟨hg, h⟩ := of_gd h
            cases h
            exact lr_iret hO 174 (fun _ h => h) (by decide) hQ (isB_n hg) dL_isAct_174
          · have h := of_f hc h
            refine lr_aload_n hO 161 1 rfl dL_isAct_161 ?_
            refine lr_iconst hO 162 (v := 3) (by decide) dL_isAct_162 ?_
            obtain ⟨v48, μa_μ49, μ49, hcall, e_μ49, h⟩ := of_bm h
            refine lr_callI hO 163 (na := 1) (As := [.int 3]) (st := [.int v8, .ref (X.1 18 0)]) (c_X7_count hX hcall) e_μ49 rfl wM_L_8 wI_X7_count wS_X7_count wN_X7 wC_X7_count (by decide +kernel) rfl (by decide) (by decide) (Nat.le_of_ble_eq_true rfl) (by decide) dL_isAct_163 ?_
            refine lr_goto hO 166 171 (by decide) dL_isAct_166 ?_
            obtain ⟨v50, μ51, hcall, h⟩ := of_bd h
            refine lr_callS hO 171 (na := 3) (mc := 2) (As := [.ref (X.1 18 0), .int v8, .int v48]) (st := []) (c_L_isPushed hX hcall) rfl wM_L_89 wT_L_isPushed wN_L wC_L_isPushed (by decide +kernel) rfl (by decide) (by decide) (Nat.le_of_ble_eq_true rfl) (by decide) dL_isAct_171 ?_
            obtain ⟨hg, h⟩ := of_gd h
            cases h
            exact lr_iret hO 174 (fun _ h => h) (by decide) hQ (isB_n hg) dL_isAct_174
      have h := of_f hs5 h
      by_cases hs6 : v18 = 6
      · have h := of_t hs6 h
        refine lr_tabIn hO 66 140 (by rw [hs6]; decide) (by rw [hs6]; decide) (by rw [hs6]; rfl) (by decide) dL_isAct_66 ?_
        refine lr_aload_n hO 140 1 rfl dL_isAct_140 ?_
        refine lr_iload_n hO 141 4 rfl dL_isAct_141 ?_
        refine lr_aload_n hO 142 2 rfl dL_isAct_142 ?_
        refine lr_iload_n hO 143 3 rfl dL_isAct_143 ?_
        refine lr_iconst hO 144 (v := 2) (by decide) dL_isAct_144 ?_
        refine lr_iadd hO 145 dL_isAct_145 ?_
        refine lr_iconst hO 146 (v := 2) (by decide) dL_isAct_146 ?_
        obtain ⟨v52, μ53, hcall, h⟩ := of_bd h
        refine lr_callS hO 147 (na := 3) (mc := 0) (As := [.ref Z.1, .int (a2 + 2), .int 2]) (st := [.int v8, .ref (X.1 18 0)]) (c_L_cell hX hZx hZl hcall) rfl wM_L_81 wT_L_cell wN_L wC_L_cell (by decide +kernel) rfl (by decide) (by decide) (Nat.le_of_ble_eq_true rfl) (by decide) dL_isAct_147 ?_
        refine lr_if_ne hO 150 169 (by decide) dL_isAct_150 (fun hc => ?_) (fun hc => ?_)
        · have h := of_f hc h
          refine lr_iload hO 169 0 rfl dL_isAct_169 ?_
          obtain ⟨v54, μ55, hcall, h⟩ := of_bd h
          refine lr_callS hO 171 (na := 3) (mc := 2) (As := [.ref (X.1 18 0), .int v8, .int v17]) (st := []) (c_L_isPushed hX hcall) rfl wM_L_89 wT_L_isPushed wN_L wC_L_isPushed (by decide +kernel) rfl (by decide) (by decide) (Nat.le_of_ble_eq_true rfl) (by decide) dL_isAct_171 ?_
          obtain ⟨hg, h⟩ := of_gd h
          cases h
          exact lr_iret hO 174 (fun _ h => h) (by decide) hQ (isB_n hg) dL_isAct_174
        · have h := of_t hc h
          refine lr_aload_n hO 153 1 rfl dL_isAct_153 ?_
          refine lr_iconst hO 154 (v := 3) (by decide) dL_isAct_154 ?_
          obtain ⟨v56, μa_μ57, μ57, hcall, e_μ57, h⟩ := of_bm h
          refine lr_callI hO 155 (na := 1) (As := [.int 3]) (st := [.int v8, .ref (X.1 18 0)]) (c_X7_count hX hcall) e_μ57 rfl wM_L_8 wI_X7_count wS_X7_count wN_X7 wC_X7_count (by decide +kernel) rfl (by decide) (by decide) (Nat.le_of_ble_eq_true rfl) (by decide) dL_isAct_155 ?_
          refine lr_if_le hO 158 169 (by decide) dL_isAct_158 (fun hc => ?_) (fun hc => ?_)
          · have h := of_t hc h
            refine lr_iload hO 169 0 rfl dL_isAct_169 ?_
            obtain ⟨v58, μ59, hcall, h⟩ := of_bd h
            refine lr_callS hO 171 (na := 3) (mc := 2) (As := [.ref (X.1 18 0), .int v8, .int v17]) (st := []) (c_L_isPushed hX hcall) rfl wM_L_89 wT_L_isPushed wN_L wC_L_isPushed (by decide +kernel) rfl (by decide) (by decide) (Nat.le_of_ble_eq_true rfl) (by decide) dL_isAct_171 ?_
            obtain ⟨hg, h⟩ := of_gd h
            cases h
            exact lr_iret hO 174 (fun _ h => h) (by decide) hQ (isB_n hg) dL_isAct_174
          · have h := of_f hc h
            refine lr_aload_n hO 161 1 rfl dL_isAct_161 ?_
            refine lr_iconst hO 162 (v := 3) (by decide) dL_isAct_162 ?_
            obtain ⟨v60, μa_μ61, μ61, hcall, e_μ61, h⟩ := of_bm h
            refine lr_callI hO 163 (na := 1) (As := [.int 3]) (st := [.int v8, .ref (X.1 18 0)]) (c_X7_count hX hcall) e_μ61 rfl wM_L_8 wI_X7_count wS_X7_count wN_X7 wC_X7_count (by decide +kernel) rfl (by decide) (by decide) (Nat.le_of_ble_eq_true rfl) (by decide) dL_isAct_163 ?_
            refine lr_goto hO 166 171 (by decide) dL_isAct_166 ?_
            obtain ⟨v62, μ63, hcall, h⟩ := of_bd h
            refine lr_callS hO 171 (na := 3) (mc := 2) (As := [.ref (X.1 18 0), .int v8, .int v60]) (st := []) (c_L_isPushed hX hcall) rfl wM_L_89 wT_L_isPushed wN_L wC_L_isPushed (by decide +kernel) rfl (by decide) (by decide) (Nat.le_of_ble_eq_true rfl) (by decide) dL_isAct_171 ?_
            obtain ⟨hg, h⟩ := of_gd h
            cases h
            exact lr_iret hO 174 (fun _ h => h) (by decide) hQ (isB_n hg) dL_isAct_174
      have h := of_f hs6 h
      by_cases hs7 : v18 = 7
      · have h := of_t hs7 h
        refine lr_tabIn hO 66 175 (by rw [hs7]; decide) (by rw [hs7]; decide) (by rw [hs7]; rfl) (by decide) dL_isAct_66 ?_
        refine lr_aload_n hO 175 1 rfl dL_isAct_175 ?_
        obtain ⟨v64, μ65, hcall, h⟩ := of_bd h
        refine lr_callS hO 176 (na := 1) (mc := 1) (As := [.ref (X.1 18 0)]) (st := []) (c_L_isRound hX hcall) rfl wM_L_92 wT_L_isRound wN_L wC_L_isRound (by decide +kernel) rfl (by decide) (by decide) (Nat.le_of_ble_eq_true rfl) (by decide) dL_isAct_176 ?_
        obtain ⟨hg, h⟩ := of_gd h
        cases h
        exact lr_iret hO 179 (fun _ h => h) (by decide) hQ (isB_n hg) dL_isAct_179
      have h := of_f hs7 h
      by_cases hs8 : v18 = 8
      · have h := of_t hs8 h
        refine lr_tabIn hO 66 180 (by rw [hs8]; decide) (by rw [hs8]; decide) (by rw [hs8]; rfl) (by decide) dL_isAct_66 ?_
        refine lr_aload_n hO 180 1 rfl dL_isAct_180 ?_
        refine lr_aload_n hO 181 2 rfl dL_isAct_181 ?_
        refine lr_iload_n hO 182 3 rfl dL_isAct_182 ?_
        refine lr_iconst hO 183 (v := 1) (by decide) dL_isAct_183 ?_
        refine lr_iadd hO 184 dL_isAct_184 ?_
        refine lr_aload_n hO 185 1 rfl dL_isAct_185 ?_
        refine lr_iconst hO 186 (v := 1) (by decide) dL_isAct_186 ?_
        obtain ⟨v66, μa_μ67, μ67, hcall, e_μ67, h⟩ := of_bm h
        refine lr_callI hO 187 (na := 1) (As := [.int 1]) (st := [.int (a2 + 1), .ref Z.1, .ref (X.1 18 0)]) (c_X7_count hX hcall) e_μ67 rfl wM_L_8 wI_X7_count wS_X7_count wN_X7 wC_X7_count (by decide +kernel) rfl (by decide) (by decide) (Nat.le_of_ble_eq_true rfl) (by decide) dL_isAct_187 ?_
        obtain ⟨v68, μ69, hcall, h⟩ := of_bd h
        refine lr_callS hO 190 (na := 3) (mc := 0) (As := [.ref Z.1, .int (a2 + 1), .int v66]) (st := [.ref (X.1 18 0)]) (c_L_cell hX hZx hZl hcall) rfl wM_L_81 wT_L_cell wN_L wC_L_cell (by decide +kernel) rfl (by decide) (by decide) (Nat.le_of_ble_eq_true rfl) (by decide) dL_isAct_190 ?_
        refine lr_iconst hO 193 (v := 1) (by decide) dL_isAct_193 ?_
        refine lr_aload_n hO 194 2 rfl dL_isAct_194 ?_
        refine lr_iload_n hO 195 3 rfl dL_isAct_195 ?_
        refine lr_iconst hO 196 (v := 3) (by decide) dL_isAct_196 ?_
        refine lr_iadd hO 197 dL_isAct_197 ?_
        refine lr_iconst hO 198 (v := 4) (by decide) dL_isAct_198 ?_
        obtain ⟨v70, μ71, hcall, h⟩ := of_bd h
        refine lr_callS hO 199 (na := 3) (mc := 0) (As := [.ref Z.1, .int (a2 + 3), .int 4]) (st := [.int 1, .int v68, .ref (X.1 18 0)]) (c_L_cell hX hZx hZl hcall) rfl wM_L_81 wT_L_cell wN_L wC_L_cell (by decide +kernel) rfl (by decide) (by decide) (Nat.le_of_ble_eq_true rfl) (by decide) dL_isAct_199 ?_
        refine lr_iadd hO 202 dL_isAct_202 ?_
        obtain ⟨v72, μ73, hcall, h⟩ := of_bd h
        refine lr_callS hO 203 (na := 3) (mc := 0) (As := [.ref (X.1 18 0), .int v68, .int (1 + v70)]) (st := []) (c_L_isWagon hX hcall) rfl wM_L_96 wT_L_isWagon wN_L wC_L_isWagon (by decide +kernel) rfl (by decide) (by decide) (Nat.le_of_ble_eq_true rfl) (by decide) dL_isAct_203 ?_
        obtain ⟨hg, h⟩ := of_gd h
        cases h
        exact lr_iret hO 206 (fun _ h => h) (by decide) hQ (isB_n hg) dL_isAct_206
      have h := of_f hs8 h
      by_cases hs9 : v18 = 9
      · have h := of_t hs9 h
        refine lr_tabIn hO 66 207 (by rw [hs9]; decide) (by rw [hs9]; decide) (by rw [hs9]; rfl) (by decide) dL_isAct_66 ?_
        refine lr_aload_n hO 207 1 rfl dL_isAct_207 ?_
        refine lr_aload_n hO 208 2 rfl dL_isAct_208 ?_
        refine lr_iload_n hO 209 3 rfl dL_isAct_209 ?_
        refine lr_iconst hO 210 (v := 2) (by decide) dL_isAct_210 ?_
        refine lr_iadd hO 211 dL_isAct_211 ?_
        refine lr_aload_n hO 212 2 rfl dL_isAct_212 ?_
        refine lr_iload_n hO 213 3 rfl dL_isAct_213 ?_
        refine lr_iconst hO 214 (v := 5) (by decide) dL_isAct_214 ?_
        refine lr_iadd hO 215 dL_isAct_215 ?_
        refine lr_iconst hO 216 (v := 4) (by decide) dL_isAct_216 ?_
        obtain ⟨v74, μ75, hcall, h⟩ := of_bd h
        refine lr_callS hO 217 (na := 3) (mc := 0) (As := [.ref Z.1, .int (a2 + 5), .int 4]) (st := [.int (a2 + 2), .ref Z.1, .ref (X.1 18 0)]) (c_L_cell hX hZx hZl hcall) rfl wM_L_81 wT_L_cell wN_L wC_L_cell (by decide +kernel) rfl (by decide) (by decide) (Nat.le_of_ble_eq_true rfl) (by decide) dL_isAct_217 ?_
        obtain ⟨J76, e_J76, h⟩ := of_lt h
        have J76_T : ∀ (v77 : Int32) (μ78 : mT), J76 v77 μ78 = some (r, μ') → lj X [] 0 Γ μ78 230 [(1, .ref Z.1), (2, .int a2)] [.int v77, .int (a2 + 2), .ref Z.1, .ref (X.1 18 0)] := by
          intro v77 μ78 h
          rw [e_J76] at h
          obtain ⟨v79, μ80, hcall, h⟩ := of_bd h
          refine lr_callS hO 230 (na := 3) (mc := 0) (As := [.ref Z.1, .int (a2 + 2), .int v77]) (st := [.ref (X.1 18 0)]) (c_L_cell hX hZx hZl hcall) rfl wM_L_81 wT_L_cell wN_L wC_L_cell (by decide +kernel) rfl (by decide) (by decide) (Nat.le_of_ble_eq_true rfl) (by decide) dL_isAct_230 ?_
          refine lr_iconst hO 233 (v := 1) (by decide) dL_isAct_233 ?_
          refine lr_aload_n hO 234 0 rfl dL_isAct_234 ?_
          refine lr_iload_n hO 235 1 rfl dL_isAct_235 ?_
          refine lr_iconst hO 236 (v := 3) (by decide) dL_isAct_236 ?_
          refine lr_iadd hO 237 dL_isAct_237 ?_
          refine lr_iconst hO 238 (v := 3) (by decide) dL_isAct_238 ?_
          obtain ⟨v81, μ82, hcall, h⟩ := of_bd h
          refine lr_callS hO 239 (na := 3) (mc := 0) (As := [.ref Z.1, .int (a2 + 3), .int 3]) (st := [.int 1, .int v79, .ref (X.1 18 0)]) (c_L_cell hX hZx hZl hcall) rfl wM_L_81 wT_L_cell wN_L wC_L_cell (by decide +kernel) rfl (by decide) (by decide) (Nat.le_of_ble_eq_true rfl) (by decide) dL_isAct_239 ?_
          refine lr_iadd hO 242 dL_isAct_242 ?_
          refine lr_iconst hO 243 (v := 1) (by decide) dL_isAct_243 ?_
          refine lr_aload_n hO 244 0 rfl dL_isAct_244 ?_
          refine lr_iload_n hO 245 1 rfl dL_isAct_245 ?_
          refine lr_iconst hO 246 (v := 4) (by decide) dL_isAct_246 ?_
          refine lr_iadd hO 247 dL_isAct_247 ?_
          refine lr_iconst hO 248 (v := 4) (by decide) dL_isAct_248 ?_
          obtain ⟨v83, μ84, hcall, h⟩ := of_bd h
          refine lr_callS hO 249 (na := 3) (mc := 0) (As := [.ref Z.1, .int (a2 + 4), .int 4]) (st := [.int 1, .int (1 + v81), .int v79, .ref (X.1 18 0)]) (c_L_cell hX hZx hZl hcall) rfl wM_L_81 wT_L_cell wN_L wC_L_cell (by decide +kernel) rfl (by decide) (by decide) (Nat.le_of_ble_eq_true rfl) (by decide) dL_isAct_249 ?_
          refine lr_iadd hO 252 dL_isAct_252 ?_
          refine lr_aload_n hO 253 0 rfl dL_isAct_253 ?_
          refine lr_iload_n hO 254 1 rfl dL_isAct_254 ?_
          refine lr_iconst hO 255 (v := 5) (by decide) dL_isAct_255 ?_
          refine lr_iadd hO 256 dL_isAct_256 ?_
          refine lr_sipush hO 257 (v := 200) (by decide) dL_isAct_257 ?_
          obtain ⟨v85, μ86, hcall, h⟩ := of_bd h
          refine lr_callS hO 260 (na := 3) (mc := 0) (As := [.ref Z.1, .int (a2 + 5), .int 200]) (st := [.int (1 + v83), .int (1 + v81), .int v79, .ref (X.1 18 0)]) (c_L_cell hX hZx hZl hcall) rfl wM_L_81 wT_L_cell wN_L wC_L_cell (by decide +kernel) rfl (by decide) (by decide) (Nat.le_of_ble_eq_true rfl) (by decide) dL_isAct_260 ?_
          obtain ⟨v87, μ88, hcall, h⟩ := of_bd h
          refine lr_callS hO 263 (na := 5) (mc := 0) (As := [.ref (X.1 18 0), .int v79, .int (1 + v81), .int (1 + v83), .int v85]) (st := []) (c_L_isTrain hX hcall) rfl wM_L_99 wT_L_isTrain wN_L wC_L_isTrain (by decide +kernel) rfl (by decide) (by decide) (Nat.le_of_ble_eq_true rfl) (by decide) dL_isAct_263 ?_
          obtain ⟨hg, h⟩ := of_gd h
          cases h
          exact lr_iret hO 266 (fun _ h => h) (by decide) hQ (isB_n hg) dL_isAct_266
        refine lr_if_ne hO 220 228 (by decide) dL_isAct_220 (fun hc => ?_) (fun hc => ?_)
        · have h := of_f hc h
          refine lr_bipush hO 228 (v := 12) (by decide) dL_isAct_228 ?_
          refine lr_sub [2, 3] rfl ?_
          exact J76_T _ _ h
        · have h := of_t hc h
          refine lr_bipush hO 223 (v := 30) (by decide) dL_isAct_223 ?_
          refine lr_goto hO 225 230 (by decide) dL_isAct_225 ?_
          refine lr_sub [2, 3] rfl ?_
          exact J76_T _ _ h
      have h := of_f hs9 h
      by_cases hs10 : v18 = 10
      · have h := of_t hs10 h
        refine lr_tabIn hO 66 267 (by rw [hs10]; decide) (by rw [hs10]; decide) (by rw [hs10]; rfl) (by decide) dL_isAct_66 ?_
        refine lr_aload_n hO 267 1 rfl dL_isAct_267 ?_
        refine lr_aload_n hO 268 2 rfl dL_isAct_268 ?_
        refine lr_iload_n hO 269 3 rfl dL_isAct_269 ?_
        refine lr_iconst hO 270 (v := 2) (by decide) dL_isAct_270 ?_
        refine lr_iadd hO 271 dL_isAct_271 ?_
        refine lr_aload_n hO 272 1 rfl dL_isAct_272 ?_
        refine lr_bipush hO 273 (v := 6) (by decide) dL_isAct_273 ?_
        obtain ⟨v89, μa_μ90, μ90, hcall, e_μ90, h⟩ := of_bm h
        refine lr_callI hO 275 (na := 1) (As := [.int 6]) (st := [.int (a2 + 2), .ref Z.1, .ref (X.1 18 0)]) (c_X7_count hX hcall) e_μ90 rfl wM_L_8 wI_X7_count wS_X7_count wN_X7 wC_X7_count (by decide +kernel) rfl (by decide) (by decide) (Nat.le_of_ble_eq_true rfl) (by decide) dL_isAct_275 ?_
        refine lr_iconst hO 278 (v := 1) (by decide) dL_isAct_278 ?_
        refine lr_iadd hO 279 dL_isAct_279 ?_
        obtain ⟨v91, μ92, hcall, h⟩ := of_bd h
        refine lr_callS hO 280 (na := 3) (mc := 0) (As := [.ref Z.1, .int (a2 + 2), .int (v89 + 1)]) (st := [.ref (X.1 18 0)]) (c_L_cell hX hZx hZl hcall) rfl wM_L_81 wT_L_cell wN_L wC_L_cell (by decide +kernel) rfl (by decide) (by decide) (Nat.le_of_ble_eq_true rfl) (by decide) dL_isAct_280 ?_
        obtain ⟨v93, μ94, hcall, h⟩ := of_bd h
        refine lr_callS hO 283 (na := 2) (mc := 0) (As := [.ref (X.1 18 0), .int v91]) (st := []) (c_L_isLeft hX hcall) rfl wM_L_103 wT_L_isLeft wN_L wC_L_isLeft (by decide +kernel) rfl (by decide) (by decide) (Nat.le_of_ble_eq_true rfl) (by decide) dL_isAct_283 ?_
        obtain ⟨hg, h⟩ := of_gd h
        cases h
        exact lr_iret hO 286 (fun _ h => h) (by decide) hQ (isB_n hg) dL_isAct_286
      have h := of_f hs10 h
      by_cases hs11 : v18 = 11
      · have h := of_t hs11 h
        refine lr_tabIn hO 66 267 (by rw [hs11]; decide) (by rw [hs11]; decide) (by rw [hs11]; rfl) (by decide) dL_isAct_66 ?_
        refine lr_aload_n hO 267 1 rfl dL_isAct_267 ?_
        refine lr_aload_n hO 268 2 rfl dL_isAct_268 ?_
        refine lr_iload_n hO 269 3 rfl dL_isAct_269 ?_
        refine lr_iconst hO 270 (v := 2) (by decide) dL_isAct_270 ?_
        refine lr_iadd hO 271 dL_isAct_271 ?_
        refine lr_aload_n hO 272 1 rfl dL_isAct_272 ?_
        refine lr_bipush hO 273 (v := 6) (by decide) dL_isAct_273 ?_
        obtain ⟨v95, μa_μ96, μ96, hcall, e_μ96, h⟩ := of_bm h
        refine lr_callI hO 275 (na := 1) (As := [.int 6]) (st := [.int (a2 + 2), .ref Z.1, .ref (X.1 18 0)]) (c_X7_count hX hcall) e_μ96 rfl wM_L_8 wI_X7_count wS_X7_count wN_X7 wC_X7_count (by decide +kernel) rfl (by decide) (by decide) (Nat.le_of_ble_eq_true rfl) (by decide) dL_isAct_275 ?_
        refine lr_iconst hO 278 (v := 1) (by decide) dL_isAct_278 ?_
        refine lr_iadd hO 279 dL_isAct_279 ?_
        obtain ⟨v97, μ98, hcall, h⟩ := of_bd h
        refine lr_callS hO 280 (na := 3) (mc := 0) (As := [.ref Z.1, .int (a2 + 2), .int (v95 + 1)]) (st := [.ref (X.1 18 0)]) (c_L_cell hX hZx hZl hcall) rfl wM_L_81 wT_L_cell wN_L wC_L_cell (by decide +kernel) rfl (by decide) (by decide) (Nat.le_of_ble_eq_true rfl) (by decide) dL_isAct_280 ?_
        obtain ⟨v99, μ100, hcall, h⟩ := of_bd h
        refine lr_callS hO 283 (na := 2) (mc := 0) (As := [.ref (X.1 18 0), .int v97]) (st := []) (c_L_isLeft hX hcall) rfl wM_L_103 wT_L_isLeft wN_L wC_L_isLeft (by decide +kernel) rfl (by decide) (by decide) (Nat.le_of_ble_eq_true rfl) (by decide) dL_isAct_283 ?_
        obtain ⟨hg, h⟩ := of_gd h
        cases h
        exact lr_iret hO 286 (fun _ h => h) (by decide) hQ (isB_n hg) dL_isAct_286
      have h := of_f hs11 h
      by_cases hs12 : v18 = 12
      · have h := of_t hs12 h
        refine lr_tabIn hO 66 287 (by rw [hs12]; decide) (by rw [hs12]; decide) (by rw [hs12]; rfl) (by decide) dL_isAct_66 ?_
        refine lr_aload_n hO 287 1 rfl dL_isAct_287 ?_
        refine lr_bipush hO 288 (v := 8) (by decide) dL_isAct_288 ?_
        obtain ⟨v101, μa_μ102, μ102, hcall, e_μ102, h⟩ := of_bm h
        refine lr_callI hO 290 (na := 1) (As := [.int 8]) (st := []) (c_X7_count hX hcall) e_μ102 rfl wM_L_8 wI_X7_count wS_X7_count wN_X7 wC_X7_count (by decide +kernel) rfl (by decide) (by decide) (Nat.le_of_ble_eq_true rfl) (by decide) dL_isAct_290 ?_
        refine lr_istore hO 293 (v := v101) rfl (lv' := [(5, .int v101), (4, .int v17), (0, .ref (X.1 18 0)), (1, .ref Z.1), (2, .int a2), (3, .int v8)]) hn (by decide) rfl dL_isAct_293 ?_
        refine lr_aload_n hO 295 2 rfl dL_isAct_295 ?_
        refine lr_aload_n hO 296 2 rfl dL_isAct_296 ?_
        refine lr_iconst hO 297 (v := 0) (by decide) dL_isAct_297 ?_
        obtain ⟨v103, μa_μ104, μ104, hcall, e_μ104, h⟩ := of_bm h
        refine lr_callI hO 298 (na := 1) (As := [.int 0]) (st := [.ref (X.1 18 0)]) (c_X7_count hX hcall) e_μ104 rfl wM_L_8 wI_X7_count wS_X7_count wN_X7 wC_X7_count (by decide +kernel) rfl (by decide) (by decide) (Nat.le_of_ble_eq_true rfl) (by decide) dL_isAct_298 ?_
        refine lr_aload_n hO 301 3 rfl dL_isAct_301 ?_
        refine lr_iload_n hO 302 4 rfl dL_isAct_302 ?_
        refine lr_iconst hO 303 (v := 2) (by decide) dL_isAct_303 ?_
        refine lr_iadd hO 304 dL_isAct_304 ?_
        refine lr_bipush hO 305 (v := 40) (by decide) dL_isAct_305 ?_
        obtain ⟨v105, μ106, hcall, h⟩ := of_bd h
        refine lr_callS hO 307 (na := 3) (mc := 0) (As := [.ref Z.1, .int (a2 + 2), .int 40]) (st := [.int v103, .ref (X.1 18 0)]) (c_L_cell hX hZx hZl hcall) rfl wM_L_81 wT_L_cell wN_L wC_L_cell (by decide +kernel) rfl (by decide) (by decide) (Nat.le_of_ble_eq_true rfl) (by decide) dL_isAct_307 ?_
        refine lr_iadd hO 310 dL_isAct_310 ?_
        refine lr_iconst hO 311 (v := 1) (by decide) dL_isAct_311 ?_
        refine lr_aload_n hO 312 3 rfl dL_isAct_312 ?_
        refine lr_iload_n hO 313 4 rfl dL_isAct_313 ?_
        refine lr_iconst hO 314 (v := 3) (by decide) dL_isAct_314 ?_
        refine lr_iadd hO 315 dL_isAct_315 ?_
        refine lr_bipush hO 316 (v := 50) (by decide) dL_isAct_316 ?_
        obtain ⟨v107, μ108, hcall, h⟩ := of_bd h
        refine lr_callS hO 318 (na := 3) (mc := 0) (As := [.ref Z.1, .int (a2 + 3), .int 50]) (st := [.int 1, .int (v103 + v105), .ref (X.1 18 0)]) (c_L_cell hX hZx hZl hcall) rfl wM_L_81 wT_L_cell wN_L wC_L_cell (by decide +kernel) rfl (by decide) (by decide) (Nat.le_of_ble_eq_true rfl) (by decide) dL_isAct_318 ?_
        refine lr_iadd hO 321 dL_isAct_321 ?_
        obtain ⟨v109, μa_μ110, μ110, hcall, e_μ110, h⟩ := of_bm h
        refine lr_callI hO 322 (na := 2) (As := [.int (v103 + v105), .int (1 + v107)]) (st := []) (c_X7_block hX hcall) e_μ110 rfl wM_L_107 wI_X7_block wS_X7_block wN_X7 wC_X7_block (by decide +kernel) rfl (by decide) (by decide) (Nat.le_of_ble_eq_true rfl) (by decide) dL_isAct_322 ?_
        refine lr_iload hO 325 0 rfl dL_isAct_325 ?_
        refine lr_bipush hO 327 (v := 10) (by decide) dL_isAct_327 ?_
        obtain ⟨J111, e_J111, h⟩ := of_lt h
        have J111_T : ∀ (v112 : Int32) (μ113 : mT), J111 v112 μ113 = some (r, μ') → lj X [] 0 Γ μ113 341 [] [.int v112, .int v109] := by
          intro v112 μ113 h
          rw [e_J111] at h
          refine lr_icmp_ne hO 341 348 (by decide) dL_isAct_341 (fun hc => ?_) (fun hc => ?_)
          · have h := of_f hc h
            refine lr_iconst hO 348 (v := 0) (by decide) dL_isAct_348 ?_
            cases h
            exact lr_iret hO 349 (fun _ h => h) (by decide) hQ (by decide) dL_isAct_349
          · have h := of_t hc h
            refine lr_iconst hO 344 (v := 1) (by decide) dL_isAct_344 ?_
            refine lr_goto hO 345 349 (by decide) dL_isAct_345 ?_
            cases h
            exact lr_iret hO 349 (fun _ h => h) (by decide) hQ (by decide) dL_isAct_349
        refine lr_icmp_ne hO 329 337 (by decide) dL_isAct_329 (fun hc => ?_) (fun hc => ?_)
        · have h := of_f hc h
          refine lr_iload hO 337 0 rfl dL_isAct_337 ?_
          refine lr_iconst hO 339 (v := 1) (by decide) dL_isAct_339 ?_
          refine lr_iadd hO 340 dL_isAct_340 ?_
          refine lr_sub [] rfl ?_
          exact J111_T _ _ h
        · have h := of_t hc h
          refine lr_bipush hO 332 (v := (-4)) (by decide) dL_isAct_332 ?_
          refine lr_goto hO 334 341 (by decide) dL_isAct_334 ?_
          refine lr_sub [] rfl ?_
          exact J111_T _ _ h
      have h := of_f hs12 h
      have hn_hs0 : ¬ v18.toInt = 0 := i_ne (by decide) hs0
      have hn_hs1 : ¬ v18.toInt = 1 := i_ne (by decide) hs1
      have hn_hs2 : ¬ v18.toInt = 2 := i_ne (by decide) hs2
      have hn_hs3 : ¬ v18.toInt = 3 := i_ne (by decide) hs3
      have hn_hs4 : ¬ v18.toInt = 4 := i_ne (by decide) hs4
      have hn_hs5 : ¬ v18.toInt = 5 := i_ne (by decide) hs5
      have hn_hs6 : ¬ v18.toInt = 6 := i_ne (by decide) hs6
      have hn_hs7 : ¬ v18.toInt = 7 := i_ne (by decide) hs7
      have hn_hs8 : ¬ v18.toInt = 8 := i_ne (by decide) hs8
      have hn_hs9 : ¬ v18.toInt = 9 := i_ne (by decide) hs9
      have hn_hs10 : ¬ v18.toInt = 10 := i_ne (by decide) hs10
      have hn_hs11 : ¬ v18.toInt = 11 := i_ne (by decide) hs11
      have hn_hs12 : ¬ v18.toInt = 12 := i_ne (by decide) hs12
      have hsw : v18.toInt < 0 ∨ (12 : Int) < v18.toInt := by omega
      refine lr_tabD hO 66 350 (by
        rcases hsw with hsw | hsw
        · exact Or.inl hsw
        · exact Or.inr (Or.inl hsw)
        ) (by decide) dL_isAct_66 ?_
      refine lr_aload_n hO 350 1 rfl dL_isAct_350 ?_
      refine lr_iconst hO 351 (v := 1) (by decide) dL_isAct_351 ?_
      refine lr_aload_n hO 352 2 rfl dL_isAct_352 ?_
      refine lr_iload_n hO 353 3 rfl dL_isAct_353 ?_
      refine lr_iconst hO 354 (v := 2) (by decide) dL_isAct_354 ?_
      refine lr_iadd hO 355 dL_isAct_355 ?_
      refine lr_bipush hO 356 (v := 60) (by decide) dL_isAct_356 ?_
      obtain ⟨v114, μ115, hcall, h⟩ := of_bd h
      refine lr_callS hO 358 (na := 3) (mc := 0) (As := [.ref Z.1, .int (a2 + 2), .int 60]) (st := [.int 1, .ref (X.1 18 0)]) (c_L_cell hX hZx hZl hcall) rfl wM_L_81 wT_L_cell wN_L wC_L_cell (by decide +kernel) rfl (by decide) (by decide) (Nat.le_of_ble_eq_true rfl) (by decide) dL_isAct_358 ?_
      refine lr_iadd hO 361 dL_isAct_361 ?_
      obtain ⟨v116, μ117, hcall, h⟩ := of_bd h
      refine lr_callS hO 362 (na := 2) (mc := 0) (As := [.ref (X.1 18 0), .int (1 + v114)]) (st := []) (c_L_isPassed hX hcall) rfl wM_L_110 wT_L_isPassed wN_L wC_L_isPassed (by decide +kernel) rfl (by decide) (by decide) (Nat.le_of_ble_eq_true rfl) (by decide) dL_isAct_362 ?_
      obtain ⟨hg, h⟩ := of_gd h
      cases h
      exact lr_iret hO 365 (fun _ h => h) (by decide) hQ (isB_n hg) dL_isAct_365
    refine lr_if_ne hO 44 52 (by decide) dL_isAct_44 (fun hc => ?_) (fun hc => ?_)
    · have h := of_f hc h
      refine lr_iconst hO 52 (v := 3) (by decide) dL_isAct_52 ?_
      refine lr_sub [1, 2, 3, 0] rfl ?_
      exact J12_T _ _ h
    · have h := of_t hc h
      refine lr_bipush hO 47 (v := 6) (by decide) dL_isAct_47 ?_
      refine lr_goto hO 49 53 (by decide) dL_isAct_49 ?_
      refine lr_sub [1, 2, 3, 0] rfl ?_
      exact J12_T _ _ h
  refine lr_if_ne hO 18 25 (by decide) dL_isAct_18 (fun hc => ?_) (fun hc => ?_)
  · have h := of_f hc h
    refine lr_iconst hO 25 (v := 0) (by decide) dL_isAct_25 ?_
    exact J5_T _ _ h
  · have h := of_t hc h
    refine lr_iconst hO 21 (v := 1) (by decide) dL_isAct_21 ?_
    refine lr_goto hO 22 26 (by decide) dL_isAct_22 ?_
    exact J5_T _ _ h
set_option maxHeartbeats 4000000 in
set_option maxRecDepth 100000 in
theorem c_L_isServed {X : xT} {Z : scT} (hX : xOK X)  {μ μ' : mT} {r : Int32} (h : f_L_isServed μ = some (r, μ')) : CL X Z [] yL_isServed cL_isServed 5 .boolean 8 193 0 [.ref (X.1 18 0)] μ r μ' := by
  refine CL_of hX (by decide +kernel) (lv := [(0, .ref (X.1 18 0))]) (Nat.le_of_ble_eq_true rfl) rfl (fun Γ hO hn hQ => ?_)
  have hO : OkY X Z RL cL_isServed 8 193 0 Γ := hO
  unfold f_L_isServed at h
  refine lr_aload_n hO 0 0 rfl dL_isServed_0 ?_
  refine lr_iconst hO 1 (v := 3) (by decide) dL_isServed_1 ?_
  obtain ⟨v1, μa_μ2, μ2, hcall, e_μ2, h⟩ := of_bm h
  refine lr_callI hO 2 (na := 1) (As := [.int 3]) (st := []) (c_X7_count hX hcall) e_μ2 rfl wM_L_8 wI_X7_count wS_X7_count wN_X7 wC_X7_count (by decide +kernel) rfl (by decide) (by decide) (Nat.le_of_ble_eq_true rfl) (by decide) dL_isServed_2 ?_
  refine lr_istore_n hO 5 (v := v1) rfl (lv' := [(1, .int v1), (0, .ref (X.1 18 0))]) hn rfl (by decide) rfl dL_isServed_5 ?_
  refine lr_iload_n hO 6 0 rfl dL_isServed_6 ?_
  refine lr_if_eq hO 7 27 (by decide) dL_isServed_7 (fun hc => ?_) (fun hc => ?_)
  · have h := of_t hc h
    refine lr_iconst hO 27 (v := 1) (by decide) dL_isServed_27 ?_
    cases h
    exact lr_iret hO 28 (fun _ h => h) (by decide) hQ (by decide) dL_isServed_28
  · have h := of_f hc h
    refine lr_iload_n hO 10 0 rfl dL_isServed_10 ?_
    refine lr_bipush hO 11 (v := 8) (by decide) dL_isServed_11 ?_
    refine lr_icmp_gt hO 13 27 (by decide) dL_isServed_13 (fun hc => ?_) (fun hc => ?_)
    · have h := of_t hc h
      refine lr_iconst hO 27 (v := 1) (by decide) dL_isServed_27 ?_
      cases h
      exact lr_iret hO 28 (fun _ h => h) (by decide) hQ (by decide) dL_isServed_28
    · have h := of_f hc h
      refine lr_aload_n hO 16 1 rfl dL_isServed_16 ?_
      refine lr_bipush hO 17 (v := 6) (by decide) dL_isServed_17 ?_
      obtain ⟨v3, μa_μ4, μ4, hcall, e_μ4, h⟩ := of_bm h
      refine lr_callI hO 19 (na := 1) (As := [.int 6]) (st := []) (c_X7_count hX hcall) e_μ4 rfl wM_L_8 wI_X7_count wS_X7_count wN_X7 wC_X7_count (by decide +kernel) rfl (by decide) (by decide) (Nat.le_of_ble_eq_true rfl) (by decide) dL_isServed_19 ?_
      refine lr_bipush hO 22 (v := 8) (by decide) dL_isServed_22 ?_
      refine lr_icmp_ne hO 24 29 (by decide) dL_isServed_24 (fun hc => ?_) (fun hc => ?_)
      · have h := of_f hc h
        refine lr_lconst hO 29 (v := 0) (by decide) dL_isServed_29 ?_
        refine lr_lstore_n hO 30 (v := 0) rfl (lv' := [(2, .long 0), (1, .int v1), (0, .ref (X.1 18 0))]) hn rfl (by decide) rfl dL_isServed_30 ?_
        refine lr_iload_n hO 31 1 rfl dL_isServed_31 ?_
        refine lr_iconst hO 32 (v := 1) (by decide) dL_isServed_32 ?_
        refine lr_isub hO 33 dL_isServed_33 ?_
        obtain ⟨v5, e_v5, h⟩ := of_lt h
        refine lr_istore hO 34 (v := v5) e_v5 (lv' := [(4, .int v5), (2, .long 0), (1, .int v1), (0, .ref (X.1 18 0))]) hn (by decide) rfl dL_isServed_34 ?_
        obtain ⟨K9, e_K9, h⟩ := of_lt h
        have K9_T : ∀ (v10 : Int64) (μ11 : mT), K9 v10 μ11 = some (r, μ') → lj X [] 0 Γ μ11 84 [(0, .ref (X.1 18 0)), (2, .long v10)] [] := by
          intro v10 μ11 h
          rw [e_K9] at h
          refine lr_aload_n hO 84 0 rfl dL_isServed_84 ?_
          refine lr_lload_n hO 85 1 rfl dL_isServed_85 ?_
          refine lr_aload_n hO 86 0 rfl dL_isServed_86 ?_
          refine lr_iconst hO 87 (v := 0) (by decide) dL_isServed_87 ?_
          obtain ⟨v12, μa_μ13, μ13, hcall, e_μ13, h⟩ := of_bm h
          refine lr_callI hO 88 (na := 1) (As := [.int 0]) (st := [.long v10, .ref (X.1 18 0)]) (c_X7_count hX hcall) e_μ13 rfl wM_L_8 wI_X7_count wS_X7_count wN_X7 wC_X7_count (by decide +kernel) rfl (by decide) (by decide) (Nat.le_of_ble_eq_true rfl) (by decide) dL_isServed_88 ?_
          obtain ⟨v14, μa_μ15, μ15, hcall, e_μ15, h⟩ := of_bm h
          refine lr_callI hO 91 (na := 2) (As := [.long v10, .int v12]) (st := []) (c_X7_train hX hcall) e_μ15 rfl wM_L_59 wI_X7_train wS_X7_train wN_X7 wC_X7_train (by decide +kernel) rfl (by decide) (by decide) (Nat.le_of_ble_eq_true rfl) (by decide) dL_isServed_91 ?_
          refine lr_istore hO 94 (v := v14) rfl (lv' := [(4, .int v14), (0, .ref (X.1 18 0)), (2, .long v10)]) hn (by decide) rfl dL_isServed_94 ?_
          refine lr_iload hO 96 0 rfl dL_isServed_96 ?_
          refine lr_aload_n hO 98 1 rfl dL_isServed_98 ?_
          refine lr_bipush hO 99 (v := 6) (by decide) dL_isServed_99 ?_
          obtain ⟨v16, μa_μ17, μ17, hcall, e_μ17, h⟩ := of_bm h
          refine lr_callI hO 101 (na := 1) (As := [.int 6]) (st := [.int v14]) (c_X7_count hX hcall) e_μ17 rfl wM_L_8 wI_X7_count wS_X7_count wN_X7 wC_X7_count (by decide +kernel) rfl (by decide) (by decide) (Nat.le_of_ble_eq_true rfl) (by decide) dL_isServed_101 ?_
          refine lr_iconst hO 104 (v := 1) (by decide) dL_isServed_104 ?_
          refine lr_isub hO 105 dL_isServed_105 ?_
          refine lr_icmp_ne hO 106 132 (by decide) dL_isServed_106 (fun hc => ?_) (fun hc => ?_)
          · have h := of_f hc h
            refine lr_iconst hO 132 (v := 0) (by decide) dL_isServed_132 ?_
            cases h
            exact lr_iret hO 133 (fun _ h => h) (by decide) hQ (by decide) dL_isServed_133
          · have h := of_t hc h
            refine lr_aload_n hO 109 1 rfl dL_isServed_109 ?_
            refine lr_iload hO 110 0 rfl dL_isServed_110 ?_
            obtain ⟨v18, μa_μ19, μ19, hcall, e_μ19, h⟩ := of_bm h
            refine lr_callI hO 112 (na := 1) (As := [.int v14]) (st := []) (c_X7_straight hX hcall) e_μ19 rfl wM_L_113 wI_X7_straight wS_X7_straight wN_X7 wC_X7_straight (by decide +kernel) rfl (by decide) (by decide) (Nat.le_of_ble_eq_true rfl) (by decide) dL_isServed_112 ?_
            refine lr_iconst hO 115 (v := 1) (by decide) dL_isServed_115 ?_
            refine lr_icmp_ne hO 116 132 (by decide) dL_isServed_116 (fun hc => ?_) (fun hc => ?_)
            · have h := of_f hc h
              refine lr_iconst hO 132 (v := 0) (by decide) dL_isServed_132 ?_
              cases h
              exact lr_iret hO 133 (fun _ h => h) (by decide) hQ (by decide) dL_isServed_133
            · have h := of_t hc h
              refine lr_aload_n hO 119 1 rfl dL_isServed_119 ?_
              refine lr_iload hO 120 0 rfl dL_isServed_120 ?_
              obtain ⟨v20, μ21, hcall, h⟩ := of_bd h
              refine lr_callS hO 122 (na := 2) (mc := 0) (As := [.ref (X.1 18 0), .int v14]) (st := []) (c_L_isLeft hX hcall) rfl wM_L_103 wT_L_isLeft wN_L wC_L_isLeft (by decide +kernel) rfl (by decide) (by decide) (Nat.le_of_ble_eq_true rfl) (by decide) dL_isServed_122 ?_
              refine lr_if_eq hO 125 132 (by decide) dL_isServed_125 (fun hc => ?_) (fun hc => ?_)
              · have h := of_t hc h
                refine lr_iconst hO 132 (v := 0) (by decide) dL_isServed_132 ?_
                cases h
                exact lr_iret hO 133 (fun _ h => h) (by decide) hQ (by decide) dL_isServed_133
              · have h := of_f hc h
                refine lr_iconst hO 128 (v := 1) (by decide) dL_isServed_128 ?_
                refine lr_goto hO 129 133 (by decide) dL_isServed_129 ?_
                cases h
                exact lr_iret hO 133 (fun _ h => h) (by decide) hQ (by decide) dL_isServed_133
        have L36_T : ∀ (n : Nat) (v6 : Int64) (v7 : Int32) (μ8 : mT), f_L_isServed_L36 K9 n v6 v7 μ8 = some (r, μ') → lj X [] 0 Γ μ8 36 [(0, .ref (X.1 18 0)), (2, .long v6), (4, .int v7)] [] := by
          intro n
          induction n with
          | zero =>
            intro v6 v7 μ8 h
            rw [f_L_isServed_L36] at h
            cases h
          | succ n ih =>
            intro v6 v7 μ8 h
            rw [f_L_isServed_L36] at h
            refine lr_iload hO 36 2 rfl dL_isServed_36 ?_
            refine lr_if_lt hO 38 84 (by decide) dL_isServed_38 (fun hc => ?_) (fun hc => ?_)
            · have h := of_t hc h
              refine lr_sub [0, 1] rfl ?_
              exact K9_T _ _ h
            · have h := of_f hc h
              refine lr_aload_n hO 41 0 rfl dL_isServed_41 ?_
              refine lr_aload_n hO 42 0 rfl dL_isServed_42 ?_
              refine lr_bipush hO 43 (v := (-6)) (by decide) dL_isServed_43 ?_
              refine lr_iload hO 45 2 rfl dL_isServed_45 ?_
              obtain ⟨v22, μa_μ23, μ23, hcall, e_μ23, h⟩ := of_bm h
              refine lr_callI hO 47 (na := 2) (As := [.int ((-6)), .int v7]) (st := [.ref (X.1 18 0)]) (c_X7_at hX hcall) e_μ23 rfl wM_L_18 wI_X7_at wS_X7_at wN_X7 wC_X7_at (by decide +kernel) rfl (by decide) (by decide) (Nat.le_of_ble_eq_true rfl) (by decide) dL_isServed_47 ?_
              refine lr_bipush hO 50 (v := 6) (by decide) dL_isServed_50 ?_
              obtain ⟨v24, μa_μ25, μ25, hcall, e_μ25, h⟩ := of_bm h
              refine lr_callI hO 52 (na := 2) (As := [.int v22, .int 6]) (st := []) (c_X7_ofWagon hX hcall) e_μ25 rfl wM_L_21 wI_X7_ofWagon wS_X7_ofWagon wN_X7 wC_X7_ofWagon (by decide +kernel) rfl (by decide) (by decide) (Nat.le_of_ble_eq_true rfl) (by decide) dL_isServed_52 ?_
              refine lr_if_lt hO 55 60 (by decide) dL_isServed_55 (fun hc => ?_) (fun hc => ?_)
              · have h := of_t hc h
                refine lr_ldc2 hO 60 (v := 31) wK_L_57 dL_isServed_60 ?_
                refine lr_lload_n hO 63 1 rfl dL_isServed_63 ?_
                refine lr_lmul hO 64 dL_isServed_64 ?_
                refine lr_aload_n hO 65 0 rfl dL_isServed_65 ?_
                refine lr_bipush hO 66 (v := (-6)) (by decide) dL_isServed_66 ?_
                refine lr_iload hO 68 2 rfl dL_isServed_68 ?_
                obtain ⟨v26, μa_μ27, μ27, hcall, e_μ27, h⟩ := of_bm h
                refine lr_callI hO 70 (na := 2) (As := [.int ((-6)), .int v7]) (st := [.long (31 * v6)]) (c_X7_at hX hcall) e_μ27 rfl wM_L_18 wI_X7_at wS_X7_at wN_X7 wC_X7_at (by decide +kernel) rfl (by decide) (by decide) (Nat.le_of_ble_eq_true rfl) (by decide) dL_isServed_70 ?_
                refine lr_i2l hO 73 dL_isServed_73 ?_
                refine lr_ladd hO 74 dL_isServed_74 ?_
                refine lr_lconst hO 75 (v := 1) (by decide) dL_isServed_75 ?_
                refine lr_ladd hO 76 dL_isServed_76 ?_
                obtain ⟨v28, e_v28, h⟩ := of_lt h
                refine lr_lstore_n hO 77 (v := v28) e_v28 (lv' := [(2, .long v28), (0, .ref (X.1 18 0)), (4, .int v7)]) hn rfl (by decide) rfl dL_isServed_77 ?_
                obtain ⟨v29, e_v29, h⟩ := of_lt h
                refine lr_iinc hO 78 (q := 2) (v := v29) (lv' := [(4, .int v29), (2, .long v28), (0, .ref (X.1 18 0))]) hn rfl (by rw [e_v29]; rfl) (by decide) rfl dL_isServed_78 ?_
                refine lr_goto hO 81 36 (by decide) dL_isServed_81 ?_
                refine lr_sub [2, 1, 0] rfl ?_
                exact ih _ _ _ h
              · have h := of_f hc h
                refine lr_iconst hO 58 (v := 1) (by decide) dL_isServed_58 ?_
                cases h
                exact lr_iret hO 59 (fun _ h => h) (by decide) hQ (by decide) dL_isServed_59
        refine lr_sub [3, 1, 0] rfl ?_
        exact L36_T _ _ _ _ h
      · have h := of_t hc h
        refine lr_iconst hO 27 (v := 1) (by decide) dL_isServed_27 ?_
        cases h
        exact lr_iret hO 28 (fun _ h => h) (by decide) hQ (by decide) dL_isServed_28
