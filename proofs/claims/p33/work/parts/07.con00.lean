set_option maxHeartbeats 4000000 in
set_option maxRecDepth 100000 in
theorem c_X0_copyFrom {X : xT} (hX : xOK X) {j : Nat} {j2 : Nat} (hj : j < 11) (hj2 : j2 < 11) {μ μ' : mT} {r : Int32} (h : f_X0_copyFrom j j2 μ = some (r, μ')) : CMv X yX0_copyFrom cX0_copyFrom 2 1 26 [.ref (X.1 2 j), .ref (X.1 2 j2)] μ μ' := by
  refine CMv_of hX (by decide +kernel) (lv := [(0, .ref (X.1 2 j)), (1, .ref (X.1 2 j2))]) (Nat.le_of_ble_eq_true rfl) rfl (fun Γ hO hn hQ => ?_)
  have hO : Ok X RX0 cX0_copyFrom 1 26 Γ := hO
  unfold f_X0_copyFrom at h
  refine tr_aload_n hO 0 0 rfl dX0_copyFrom_0 ?_
  refine tr_aload_n hO 1 1 rfl dX0_copyFrom_1 ?_
  refine tr_get hO 2 (k := 0) (x_vy (by decide) hj2) rfl rfl iX0 (by decide) wF_X0_18 rfl rfl dX0_copyFrom_2 ?_
  obtain ⟨μ1, e_μ1, h⟩ := of_lt h
  refine tr_put hO 5 (k := 0) (ty := .int) e_μ1 (x_vy (by decide) hj) rfl rfl rfl iX0 tyX0 tyX0_ok nmX0 (by decide) wF_X0_18 rfl rfl (by decide +kernel) rfl rfl (Nat.le_of_ble_eq_true rfl) dX0_copyFrom_5 ?_
  refine tr_aload_n hO 8 1 rfl dX0_copyFrom_8 ?_
  refine tr_get hO 9 (k := 1) (x_vy (by decide) hj2) rfl rfl iX0 (by decide) wF_X0_9 rfl rfl dX0_copyFrom_9 ?_
  refine tr_iconst hO 12 (v := 0) (by decide) dX0_copyFrom_12 ?_
  refine tr_aload_n hO 13 0 rfl dX0_copyFrom_13 ?_
  refine tr_get hO 14 (k := 1) (x_vy (by decide) hj) rfl rfl iX0 (by decide) wF_X0_9 rfl rfl dX0_copyFrom_14 ?_
  refine tr_iconst hO 17 (v := 0) (by decide) dX0_copyFrom_17 ?_
  refine tr_bipush hO 18 (v := 10) (by decide) dX0_copyFrom_18 ?_
  obtain ⟨μ2, e_μ2, h⟩ := of_lt h
  refine tr_copyi hO 20 e_μ2 wM_X0_22 (x_vy (by decide) hj) (x_vy (by decide) hj2) a_13 a_13 (by decide) (by decide) (by decide) (by decide) (by decide) (Nat.le_of_ble_eq_true rfl) (by decide) (by decide +kernel) dX0_copyFrom_20 ?_
  refine tr_aload_n hO 23 1 rfl dX0_copyFrom_23 ?_
  refine tr_get hO 24 (k := 2) (x_vy (by decide) hj2) rfl rfl iX0 (by decide) wF_X0_15 rfl rfl dX0_copyFrom_24 ?_
  refine tr_iconst hO 27 (v := 0) (by decide) dX0_copyFrom_27 ?_
  refine tr_aload_n hO 28 0 rfl dX0_copyFrom_28 ?_
  refine tr_get hO 29 (k := 2) (x_vy (by decide) hj) rfl rfl iX0 (by decide) wF_X0_15 rfl rfl dX0_copyFrom_29 ?_
  refine tr_iconst hO 32 (v := 0) (by decide) dX0_copyFrom_32 ?_
  refine tr_bipush hO 33 (v := 10) (by decide) dX0_copyFrom_33 ?_
  obtain ⟨μ3, e_μ3, h⟩ := of_lt h
  refine tr_copyi hO 35 e_μ3 wM_X0_22 (x_vy (by decide) hj) (x_vy (by decide) hj2) a_14 a_14 (by decide) (by decide) (by decide) (by decide) (by decide) (Nat.le_of_ble_eq_true rfl) (by decide) (by decide +kernel) dX0_copyFrom_35 ?_
  cases h
  exact tr_vret hO 38 hQ dX0_copyFrom_38
set_option maxHeartbeats 4000000 in
set_option maxRecDepth 100000 in
theorem c_X0_add {X : xT} (hX : xOK X) {j : Nat} {a1 : Int32} {a2 : Int32} (hj : j < 11) {μ μ' : mT} {r : Int32} (h : f_X0_add j a1 a2 μ = some (r, μ')) : CMi X yX0_add cX0_add 3 .int 0 0 [.ref (X.1 2 j), .int a1, .int a2] μ r μ' := by
  refine CMi_of hX (by decide +kernel) (lv := [(0, .ref (X.1 2 j)), (1, .int a1), (2, .int a2)]) (Nat.le_of_ble_eq_true rfl) rfl (fun Γ hO hn hQ => ?_)
  have hO : Ok X RX0 cX0_add 0 0 Γ := hO
  unfold f_X0_add at h
  refine tr_aload_n hO 0 0 rfl dX0_add_0 ?_
  refine tr_get hO 1 (k := 1) (x_vy (by decide) hj) rfl rfl iX0 (by decide) wF_X0_9 rfl rfl dX0_add_1 ?_
  refine tr_aload_n hO 4 0 rfl dX0_add_4 ?_
  refine tr_get hO 5 (k := 0) (x_vy (by decide) hj) rfl rfl iX0 (by decide) wF_X0_18 rfl rfl dX0_add_5 ?_
  refine tr_iload_n hO 8 1 rfl dX0_add_8 ?_
  obtain ⟨hg, h⟩ := of_gd h
  obtain ⟨μ1, e_μ1, h⟩ := of_lt h
  refine tr_iast hO 9 e_μ1 (x_vy (by decide) hj) a_13 hg dX0_add_9 ?_
  refine tr_aload_n hO 10 0 rfl dX0_add_10 ?_
  refine tr_get hO 11 (k := 2) (x_vy (by decide) hj) rfl rfl iX0 (by decide) wF_X0_15 rfl rfl dX0_add_11 ?_
  refine tr_aload_n hO 14 0 rfl dX0_add_14 ?_
  refine tr_get hO 15 (k := 0) (x_vy (by decide) hj) rfl rfl iX0 (by decide) wF_X0_18 rfl rfl dX0_add_15 ?_
  refine tr_iload_n hO 18 2 rfl dX0_add_18 ?_
  obtain ⟨hg, h⟩ := of_gd h
  obtain ⟨μ2, e_μ2, h⟩ := of_lt h
  refine tr_iast hO 19 e_μ2 (x_vy (by decide) hj) a_14 hg dX0_add_19 ?_
  refine tr_aload_n hO 20 0 rfl dX0_add_20 ?_
  refine tr_dup hO 21 rfl dX0_add_21 ?_
  refine tr_get hO 22 (k := 0) (x_vy (by decide) hj) rfl rfl iX0 (by decide) wF_X0_18 rfl rfl dX0_add_22 ?_
  refine tr_iconst hO 25 (v := 1) (by decide) dX0_add_25 ?_
  refine tr_iadd hO 26 dX0_add_26 ?_
  obtain ⟨μ3, e_μ3, h⟩ := of_lt h
  refine tr_put hO 27 (k := 0) (ty := .int) e_μ3 (x_vy (by decide) hj) rfl rfl rfl iX0 tyX0 tyX0_ok nmX0 (by decide) wF_X0_18 rfl rfl (by decide +kernel) rfl rfl (Nat.le_of_ble_eq_true rfl) dX0_add_27 ?_
  refine tr_aload_n hO 30 0 rfl dX0_add_30 ?_
  refine tr_get hO 31 (k := 0) (x_vy (by decide) hj) rfl rfl iX0 (by decide) wF_X0_18 rfl rfl dX0_add_31 ?_
  cases h
  exact tr_iret hO 34 hQ rfl dX0_add_34
set_option maxHeartbeats 4000000 in
set_option maxRecDepth 100000 in
theorem c_X0_dropEnded {X : xT} (hX : xOK X) {j : Nat} {a1 : Int32} (hj : j < 11) {μ μ' : mT} {r : Int32} (h : f_X0_dropEnded j a1 μ = some (r, μ')) : CMv X yX0_dropEnded cX0_dropEnded 4 0 0 [.ref (X.1 2 j), .int a1] μ μ' := by
  refine CMv_of hX (by decide +kernel) (lv := [(0, .ref (X.1 2 j)), (1, .int a1)]) (Nat.le_of_ble_eq_true rfl) rfl (fun Γ hO hn hQ => ?_)
  have hO : Ok X RX0 cX0_dropEnded 0 0 Γ := hO
  unfold f_X0_dropEnded at h
  refine tr_iconst hO 0 (v := 0) (by decide) dX0_dropEnded_0 ?_
  refine tr_istore_n hO 1 (v := 0) rfl (lv' := [(2, .int 0), (0, .ref (X.1 2 j)), (1, .int a1)]) hn rfl (by decide) rfl dX0_dropEnded_1 ?_
  refine tr_iconst hO 2 (v := 0) (by decide) dX0_dropEnded_2 ?_
  refine tr_istore_n hO 3 (v := 0) rfl (lv' := [(3, .int 0), (2, .int 0), (0, .ref (X.1 2 j)), (1, .int a1)]) hn rfl (by decide) rfl dX0_dropEnded_3 ?_
  have L4_T : ∀ (n : Nat) (v1 : Int32) (v2 : Int32) (μ3 : mT), f_X0_dropEnded_L4 j a1 n v1 v2 μ3 = some (r, μ') → tj X Γ μ3 4 [(0, .ref (X.1 2 j)), (1, .int a1), (2, .int v1), (3, .int v2)] [] := by
    intro n
    induction n with
    | zero =>
      intro v1 v2 μ3 h
      rw [f_X0_dropEnded_L4] at h
      cases h
    | succ n ih =>
      intro v1 v2 μ3 h
      rw [f_X0_dropEnded_L4] at h
      refine tr_iload_n hO 4 3 rfl dX0_dropEnded_4 ?_
      refine tr_aload_n hO 5 0 rfl dX0_dropEnded_5 ?_
      refine tr_get hO 6 (k := 0) (x_vy (by decide) hj) rfl rfl iX0 (by decide) wF_X0_18 rfl rfl dX0_dropEnded_6 ?_
      refine tr_icmp_ge hO 9 55 (by decide) dX0_dropEnded_9 (fun hc => ?_) (fun hc => ?_)
      · have h := of_t hc h
        refine tr_aload_n hO 55 0 rfl dX0_dropEnded_55 ?_
        refine tr_iload_n hO 56 2 rfl dX0_dropEnded_56 ?_
        obtain ⟨μ4, e_μ4, h⟩ := of_lt h
        refine tr_put hO 57 (k := 0) (ty := .int) e_μ4 (x_vy (by decide) hj) rfl rfl rfl iX0 tyX0 tyX0_ok nmX0 (by decide) wF_X0_18 rfl rfl (by decide +kernel) rfl rfl (Nat.le_of_ble_eq_true rfl) dX0_dropEnded_57 ?_
        cases h
        exact tr_vret hO 60 hQ dX0_dropEnded_60
      · have h := of_f hc h
        refine tr_aload_n hO 12 0 rfl dX0_dropEnded_12 ?_
        refine tr_get hO 13 (k := 2) (x_vy (by decide) hj) rfl rfl iX0 (by decide) wF_X0_15 rfl rfl dX0_dropEnded_13 ?_
        refine tr_iload_n hO 16 3 rfl dX0_dropEnded_16 ?_
        obtain ⟨hg, h⟩ := of_gd h
        refine tr_iald hO 17 (x_vy (by decide) hj) a_14 hg dX0_dropEnded_17 ?_
        refine tr_iload_n hO 18 1 rfl dX0_dropEnded_18 ?_
        obtain ⟨J5, e_J5, h⟩ := of_lt h
        have J5_T : ∀ (v6 : Int32) (μ7 : mT), J5 v6 μ7 = some (r, μ') → tj X Γ μ7 49 [(0, .ref (X.1 2 j)), (1, .int a1), (2, .int v6), (3, .int v2)] [] := by
          intro v6 μ7 h
          rw [e_J5] at h
          obtain ⟨v8, e_v8, h⟩ := of_lt h
          refine tr_iinc hO 49 (q := 3) (v := v8) (lv' := [(3, .int v8), (0, .ref (X.1 2 j)), (1, .int a1), (2, .int v6)]) hn rfl (by rw [e_v8]; rfl) (by decide) rfl dX0_dropEnded_49 ?_
          refine tr_goto hO 52 4 (by decide) dX0_dropEnded_52 ?_
          refine tr_sub [1, 2, 3, 0] rfl ?_
          exact ih _ _ _ h
        refine tr_icmp_le hO 19 49 (by decide) dX0_dropEnded_19 (fun hc => ?_) (fun hc => ?_)
        · have h := of_t hc h
          exact J5_T _ _ h
        · have h := of_f hc h
          refine tr_aload_n hO 22 0 rfl dX0_dropEnded_22 ?_
          refine tr_get hO 23 (k := 1) (x_vy (by decide) hj) rfl rfl iX0 (by decide) wF_X0_9 rfl rfl dX0_dropEnded_23 ?_
          refine tr_iload_n hO 26 2 rfl dX0_dropEnded_26 ?_
          refine tr_aload_n hO 27 0 rfl dX0_dropEnded_27 ?_
          refine tr_get hO 28 (k := 1) (x_vy (by decide) hj) rfl rfl iX0 (by decide) wF_X0_9 rfl rfl dX0_dropEnded_28 ?_
          refine tr_iload_n hO 31 3 rfl dX0_dropEnded_31 ?_
          obtain ⟨hg, h⟩ := of_gd h
          refine tr_iald hO 32 (x_vy (by decide) hj) a_13 hg dX0_dropEnded_32 ?_
          obtain ⟨hg, h⟩ := of_gd h
          obtain ⟨μ9, e_μ9, h⟩ := of_lt h
          refine tr_iast hO 33 e_μ9 (x_vy (by decide) hj) a_13 hg dX0_dropEnded_33 ?_
          refine tr_aload_n hO 34 0 rfl dX0_dropEnded_34 ?_
          refine tr_get hO 35 (k := 2) (x_vy (by decide) hj) rfl rfl iX0 (by decide) wF_X0_15 rfl rfl dX0_dropEnded_35 ?_
          refine tr_iload_n hO 38 2 rfl dX0_dropEnded_38 ?_
          refine tr_aload_n hO 39 0 rfl dX0_dropEnded_39 ?_
          refine tr_get hO 40 (k := 2) (x_vy (by decide) hj) rfl rfl iX0 (by decide) wF_X0_15 rfl rfl dX0_dropEnded_40 ?_
          refine tr_iload_n hO 43 3 rfl dX0_dropEnded_43 ?_
          obtain ⟨hg, h⟩ := of_gd h
          refine tr_iald hO 44 (x_vy (by decide) hj) a_14 hg dX0_dropEnded_44 ?_
          obtain ⟨hg, h⟩ := of_gd h
          obtain ⟨μ10, e_μ10, h⟩ := of_lt h
          refine tr_iast hO 45 e_μ10 (x_vy (by decide) hj) a_14 hg dX0_dropEnded_45 ?_
          obtain ⟨v11, e_v11, h⟩ := of_lt h
          refine tr_iinc hO 46 (q := 2) (v := v11) (lv' := [(2, .int v11), (0, .ref (X.1 2 j)), (1, .int a1), (3, .int v2)]) hn rfl (by rw [e_v11]; rfl) (by decide) rfl dX0_dropEnded_46 ?_
          refine tr_sub [1, 2, 0, 3] rfl ?_
          exact J5_T _ _ h
  refine tr_sub [2, 3, 1, 0] rfl ?_
  exact L4_T _ _ _ _ h
set_option maxHeartbeats 4000000 in
set_option maxRecDepth 100000 in
theorem c_X0_firstFree {X : xT} (hX : xOK X) {j : Nat} {a1 : Int32} {a2 : Int32} (hj : j < 11) {μ μ' : mT} {r : Int32} (h : f_X0_firstFree j a1 a2 μ = some (r, μ')) : CMi X yX0_firstFree cX0_firstFree 6 .int 0 0 [.ref (X.1 2 j), .int a1, .int a2] μ r μ' := by
  refine CMi_of hX (by decide +kernel) (lv := [(0, .ref (X.1 2 j)), (1, .int a1), (2, .int a2)]) (Nat.le_of_ble_eq_true rfl) rfl (fun Γ hO hn hQ => ?_)
  have hO : Ok X RX0 cX0_firstFree 0 0 Γ := hO
  unfold f_X0_firstFree at h
  refine tr_iload_n hO 0 1 rfl dX0_firstFree_0 ?_
  refine tr_istore_n hO 1 (v := a1) rfl (lv' := [(3, .int a1), (0, .ref (X.1 2 j)), (1, .int a1), (2, .int a2)]) hn rfl (by decide) rfl dX0_firstFree_1 ?_
  refine tr_iconst hO 2 (v := 0) (by decide) dX0_firstFree_2 ?_
  refine tr_istore hO 3 (v := 0) rfl (lv' := [(4, .int 0), (3, .int a1), (0, .ref (X.1 2 j)), (1, .int a1), (2, .int a2)]) hn (by decide) rfl dX0_firstFree_3 ?_
  have L5_T : ∀ (n : Nat) (v1 : Int32) (v2 : Int32) (μ3 : mT), f_X0_firstFree_L5 j a2 n v1 v2 μ3 = some (r, μ') → tj X Γ μ3 5 [(0, .ref (X.1 2 j)), (2, .int a2), (3, .int v1), (4, .int v2)] [] := by
    intro n
    induction n with
    | zero =>
      intro v1 v2 μ3 h
      rw [f_X0_firstFree_L5] at h
      cases h
    | succ n ih =>
      intro v1 v2 μ3 h
      rw [f_X0_firstFree_L5] at h
      refine tr_iload hO 5 3 rfl dX0_firstFree_5 ?_
      refine tr_aload_n hO 7 0 rfl dX0_firstFree_7 ?_
      refine tr_get hO 8 (k := 0) (x_vy (by decide) hj) rfl rfl iX0 (by decide) wF_X0_18 rfl rfl dX0_firstFree_8 ?_
      refine tr_icmp_ge hO 11 70 (by decide) dX0_firstFree_11 (fun hc => ?_) (fun hc => ?_)
      · have h := of_t hc h
        refine tr_iload_n hO 70 2 rfl dX0_firstFree_70 ?_
        cases h
        exact tr_iret hO 71 hQ rfl dX0_firstFree_71
      · have h := of_f hc h
        refine tr_iconst hO 14 (v := 0) (by decide) dX0_firstFree_14 ?_
        refine tr_istore hO 15 (v := 0) rfl (lv' := [(5, .int 0), (0, .ref (X.1 2 j)), (2, .int a2), (3, .int v1), (4, .int v2)]) hn (by decide) rfl dX0_firstFree_15 ?_
        obtain ⟨K7, e_K7, h⟩ := of_lt h
        have K7_T : ∀ (v8 : Int32) (μ9 : mT), K7 v8 μ9 = some (r, μ') → tj X Γ μ9 64 [(0, .ref (X.1 2 j)), (2, .int a2), (3, .int v8), (4, .int v2)] [] := by
          intro v8 μ9 h
          rw [e_K7] at h
          obtain ⟨v10, e_v10, h⟩ := of_lt h
          refine tr_iinc hO 64 (q := 3) (v := v10) (lv' := [(4, .int v10), (0, .ref (X.1 2 j)), (2, .int a2), (3, .int v8)]) hn rfl (by rw [e_v10]; rfl) (by decide) rfl dX0_firstFree_64 ?_
          refine tr_goto hO 67 5 (by decide) dX0_firstFree_67 ?_
          refine tr_sub [1, 2, 3, 0] rfl ?_
          exact ih _ _ _ h
        have L17_T : ∀ (n : Nat) (v4 : Int32) (v5 : Int32) (μ6 : mT), f_X0_firstFree_L17 j a2 v2 K7 n v4 v5 μ6 = some (r, μ') → tj X Γ μ6 17 [(0, .ref (X.1 2 j)), (2, .int a2), (3, .int v4), (4, .int v2), (5, .int v5)] [] := by
          intro n
          induction n with
          | zero =>
            intro v4 v5 μ6 h
            rw [f_X0_firstFree_L17] at h
            cases h
          | succ n ih =>
            intro v4 v5 μ6 h
            rw [f_X0_firstFree_L17] at h
            refine tr_iload hO 17 4 rfl dX0_firstFree_17 ?_
            refine tr_aload_n hO 19 0 rfl dX0_firstFree_19 ?_
            refine tr_get hO 20 (k := 0) (x_vy (by decide) hj) rfl rfl iX0 (by decide) wF_X0_18 rfl rfl dX0_firstFree_20 ?_
            refine tr_icmp_ge hO 23 64 (by decide) dX0_firstFree_23 (fun hc => ?_) (fun hc => ?_)
            · have h := of_t hc h
              refine tr_sub [0, 1, 2, 3] rfl ?_
              exact K7_T _ _ h
            · have h := of_f hc h
              refine tr_aload_n hO 26 0 rfl dX0_firstFree_26 ?_
              refine tr_get hO 27 (k := 1) (x_vy (by decide) hj) rfl rfl iX0 (by decide) wF_X0_9 rfl rfl dX0_firstFree_27 ?_
              refine tr_iload hO 30 4 rfl dX0_firstFree_30 ?_
              obtain ⟨hg, h⟩ := of_gd h
              refine tr_iald hO 32 (x_vy (by decide) hj) a_13 hg dX0_firstFree_32 ?_
              refine tr_iload_n hO 33 2 rfl dX0_firstFree_33 ?_
              refine tr_iload_n hO 34 1 rfl dX0_firstFree_34 ?_
              refine tr_iadd hO 35 dX0_firstFree_35 ?_
              obtain ⟨J11, e_J11, h⟩ := of_lt h
              have J11_T : ∀ (v12 : Int32) (μ13 : mT), J11 v12 μ13 = some (r, μ') → tj X Γ μ13 58 [(0, .ref (X.1 2 j)), (2, .int a2), (3, .int v12), (4, .int v2), (5, .int v5)] [] := by
                intro v12 μ13 h
                rw [e_J11] at h
                obtain ⟨v14, e_v14, h⟩ := of_lt h
                refine tr_iinc hO 58 (q := 4) (v := v14) (lv' := [(5, .int v14), (0, .ref (X.1 2 j)), (2, .int a2), (3, .int v12), (4, .int v2)]) hn rfl (by rw [e_v14]; rfl) (by decide) rfl dX0_firstFree_58 ?_
                refine tr_goto hO 61 17 (by decide) dX0_firstFree_61 ?_
                refine tr_sub [1, 2, 3, 4, 0] rfl ?_
                exact ih _ _ _ h
              refine tr_icmp_ge hO 36 58 (by decide) dX0_firstFree_36 (fun hc => ?_) (fun hc => ?_)
              · have h := of_t hc h
                exact J11_T _ _ h
              · have h := of_f hc h
                refine tr_aload_n hO 39 0 rfl dX0_firstFree_39 ?_
                refine tr_get hO 40 (k := 2) (x_vy (by decide) hj) rfl rfl iX0 (by decide) wF_X0_15 rfl rfl dX0_firstFree_40 ?_
                refine tr_iload hO 43 4 rfl dX0_firstFree_43 ?_
                obtain ⟨hg, h⟩ := of_gd h
                refine tr_iald hO 45 (x_vy (by decide) hj) a_14 hg dX0_firstFree_45 ?_
                refine tr_iload_n hO 46 2 rfl dX0_firstFree_46 ?_
                refine tr_icmp_le hO 47 58 (by decide) dX0_firstFree_47 (fun hc => ?_) (fun hc => ?_)
                · have h := of_t hc h
                  exact J11_T _ _ h
                · have h := of_f hc h
                  refine tr_aload_n hO 50 0 rfl dX0_firstFree_50 ?_
                  refine tr_get hO 51 (k := 2) (x_vy (by decide) hj) rfl rfl iX0 (by decide) wF_X0_15 rfl rfl dX0_firstFree_51 ?_
                  refine tr_iload hO 54 4 rfl dX0_firstFree_54 ?_
                  obtain ⟨hg, h⟩ := of_gd h
                  refine tr_iald hO 56 (x_vy (by decide) hj) a_14 hg dX0_firstFree_56 ?_
                  obtain ⟨v15, e_v15, h⟩ := of_lt h
                  refine tr_istore_n hO 57 (v := v15) e_v15 (lv' := [(3, .int v15), (0, .ref (X.1 2 j)), (2, .int a2), (4, .int v2), (5, .int v5)]) hn rfl (by decide) rfl dX0_firstFree_57 ?_
                  refine tr_sub [1, 2, 0, 3, 4] rfl ?_
                  exact J11_T _ _ h
        refine tr_sub [1, 2, 3, 4, 0] rfl ?_
        exact L17_T _ _ _ _ h
  refine tr_sub [2, 4, 1, 0] rfl ?_
  exact L5_T _ _ _ _ h
set_option maxHeartbeats 4000000 in
set_option maxRecDepth 100000 in
theorem c_X5_copyFrom {X : xT} (hX : xOK X) {j : Nat} {j2 : Nat} (hj : j < 11) (hj2 : j2 < 11) {μ μ' : mT} {r : Int32} (h : f_X5_copyFrom j j2 μ = some (r, μ')) : CMv X yX5_copyFrom cX5_copyFrom 2 1 26 [.ref (X.1 1 j), .ref (X.1 1 j2)] μ μ' := by
  refine CMv_of hX (by decide +kernel) (lv := [(0, .ref (X.1 1 j)), (1, .ref (X.1 1 j2))]) (Nat.le_of_ble_eq_true rfl) rfl (fun Γ hO hn hQ => ?_)
  have hO : Ok X RX5 cX5_copyFrom 1 26 Γ := hO
  unfold f_X5_copyFrom at h
  refine tr_aload_n hO 0 0 rfl dX5_copyFrom_0 ?_
  refine tr_aload_n hO 1 1 rfl dX5_copyFrom_1 ?_
  refine tr_get hO 2 (k := 0) (x_vy (by decide) hj2) rfl rfl iX5 (by decide) wF_X5_27 rfl rfl dX5_copyFrom_2 ?_
  obtain ⟨μ1, e_μ1, h⟩ := of_lt h
  refine tr_put hO 5 (k := 0) (ty := .int) e_μ1 (x_vy (by decide) hj) rfl rfl rfl iX5 tyX5 tyX5_ok nmX5 (by decide) wF_X5_27 rfl rfl (by decide +kernel) rfl rfl (Nat.le_of_ble_eq_true rfl) dX5_copyFrom_5 ?_
  refine tr_aload_n hO 8 0 rfl dX5_copyFrom_8 ?_
  refine tr_aload_n hO 9 1 rfl dX5_copyFrom_9 ?_
  refine tr_get hO 10 (k := 1) (x_vy (by decide) hj2) rfl rfl iX5 (by decide) wF_X5_31 rfl rfl dX5_copyFrom_10 ?_
  obtain ⟨μ2, e_μ2, h⟩ := of_lt h
  refine tr_put hO 13 (k := 1) (ty := .int) e_μ2 (x_vy (by decide) hj) rfl rfl rfl iX5 tyX5 tyX5_ok nmX5 (by decide) wF_X5_31 rfl rfl (by decide +kernel) rfl rfl (Nat.le_of_ble_eq_true rfl) dX5_copyFrom_13 ?_
  refine tr_aload_n hO 16 1 rfl dX5_copyFrom_16 ?_
  refine tr_get hO 17 (k := 2) (x_vy (by decide) hj2) rfl rfl iX5 (by decide) wF_X5_9 rfl rfl dX5_copyFrom_17 ?_
  refine tr_iconst hO 20 (v := 0) (by decide) dX5_copyFrom_20 ?_
  refine tr_aload_n hO 21 0 rfl dX5_copyFrom_21 ?_
  refine tr_get hO 22 (k := 2) (x_vy (by decide) hj) rfl rfl iX5 (by decide) wF_X5_9 rfl rfl dX5_copyFrom_22 ?_
  refine tr_iconst hO 25 (v := 0) (by decide) dX5_copyFrom_25 ?_
  refine tr_bipush hO 26 (v := 30) (by decide) dX5_copyFrom_26 ?_
  obtain ⟨μ3, e_μ3, h⟩ := of_lt h
  refine tr_copyi hO 28 e_μ3 wM_X5_34 (x_vy (by decide) hj) (x_vy (by decide) hj2) a_8 a_8 (by decide) (by decide) (by decide) (by decide) (by decide) (Nat.le_of_ble_eq_true rfl) (by decide) (by decide +kernel) dX5_copyFrom_28 ?_
  refine tr_aload_n hO 31 1 rfl dX5_copyFrom_31 ?_
  refine tr_get hO 32 (k := 3) (x_vy (by decide) hj2) rfl rfl iX5 (by decide) wF_X5_15 rfl rfl dX5_copyFrom_32 ?_
  refine tr_iconst hO 35 (v := 0) (by decide) dX5_copyFrom_35 ?_
  refine tr_aload_n hO 36 0 rfl dX5_copyFrom_36 ?_
  refine tr_get hO 37 (k := 3) (x_vy (by decide) hj) rfl rfl iX5 (by decide) wF_X5_15 rfl rfl dX5_copyFrom_37 ?_
  refine tr_iconst hO 40 (v := 0) (by decide) dX5_copyFrom_40 ?_
  refine tr_bipush hO 41 (v := 30) (by decide) dX5_copyFrom_41 ?_
  obtain ⟨μ4, e_μ4, h⟩ := of_lt h
  refine tr_copyi hO 43 e_μ4 wM_X5_34 (x_vy (by decide) hj) (x_vy (by decide) hj2) a_9 a_9 (by decide) (by decide) (by decide) (by decide) (by decide) (Nat.le_of_ble_eq_true rfl) (by decide) (by decide +kernel) dX5_copyFrom_43 ?_
  refine tr_aload_n hO 46 1 rfl dX5_copyFrom_46 ?_
  refine tr_get hO 47 (k := 4) (x_vy (by decide) hj2) rfl rfl iX5 (by decide) wF_X5_18 rfl rfl dX5_copyFrom_47 ?_
  refine tr_iconst hO 50 (v := 0) (by decide) dX5_copyFrom_50 ?_
  refine tr_aload_n hO 51 0 rfl dX5_copyFrom_51 ?_
  refine tr_get hO 52 (k := 4) (x_vy (by decide) hj) rfl rfl iX5 (by decide) wF_X5_18 rfl rfl dX5_copyFrom_52 ?_
  refine tr_iconst hO 55 (v := 0) (by decide) dX5_copyFrom_55 ?_
  refine tr_bipush hO 56 (v := 30) (by decide) dX5_copyFrom_56 ?_
  obtain ⟨μ5, e_μ5, h⟩ := of_lt h
  refine tr_copyi hO 58 e_μ5 wM_X5_34 (x_vy (by decide) hj) (x_vy (by decide) hj2) a_10 a_10 (by decide) (by decide) (by decide) (by decide) (by decide) (Nat.le_of_ble_eq_true rfl) (by decide) (by decide +kernel) dX5_copyFrom_58 ?_
  refine tr_aload_n hO 61 1 rfl dX5_copyFrom_61 ?_
  refine tr_get hO 62 (k := 5) (x_vy (by decide) hj2) rfl rfl iX5 (by decide) wF_X5_21 rfl rfl dX5_copyFrom_62 ?_
  refine tr_iconst hO 65 (v := 0) (by decide) dX5_copyFrom_65 ?_
  refine tr_aload_n hO 66 0 rfl dX5_copyFrom_66 ?_
  refine tr_get hO 67 (k := 5) (x_vy (by decide) hj) rfl rfl iX5 (by decide) wF_X5_21 rfl rfl dX5_copyFrom_67 ?_
  refine tr_iconst hO 70 (v := 0) (by decide) dX5_copyFrom_70 ?_
  refine tr_bipush hO 71 (v := 9) (by decide) dX5_copyFrom_71 ?_
  obtain ⟨μ6, e_μ6, h⟩ := of_lt h
  refine tr_copyi hO 73 e_μ6 wM_X5_34 (x_vy (by decide) hj) (x_vy (by decide) hj2) a_11 a_11 (by decide) (by decide) (by decide) (by decide) (by decide) (Nat.le_of_ble_eq_true rfl) (by decide) (by decide +kernel) dX5_copyFrom_73 ?_
  refine tr_aload_n hO 76 1 rfl dX5_copyFrom_76 ?_
  refine tr_get hO 77 (k := 6) (x_vy (by decide) hj2) rfl rfl iX5 (by decide) wF_X5_24 rfl rfl dX5_copyFrom_77 ?_
  refine tr_iconst hO 80 (v := 0) (by decide) dX5_copyFrom_80 ?_
  refine tr_aload_n hO 81 0 rfl dX5_copyFrom_81 ?_
  refine tr_get hO 82 (k := 6) (x_vy (by decide) hj) rfl rfl iX5 (by decide) wF_X5_24 rfl rfl dX5_copyFrom_82 ?_
  refine tr_iconst hO 85 (v := 0) (by decide) dX5_copyFrom_85 ?_
  refine tr_sipush hO 86 (v := 270) (by decide) dX5_copyFrom_86 ?_
  obtain ⟨μ7, e_μ7, h⟩ := of_lt h
  refine tr_copyi hO 89 e_μ7 wM_X5_34 (x_vy (by decide) hj) (x_vy (by decide) hj2) a_12 a_12 (by decide) (by decide) (by decide) (by decide) (by decide) (Nat.le_of_ble_eq_true rfl) (by decide) (by decide +kernel) dX5_copyFrom_89 ?_
  cases h
  exact tr_vret hO 92 hQ dX5_copyFrom_92
set_option maxHeartbeats 4000000 in
set_option maxRecDepth 100000 in
theorem c_X3_copyFrom {X : xT} (hX : xOK X) {j : Nat} {j2 : Nat} (hj : j < 11) (hj2 : j2 < 11) {μ μ' : mT} {r : Int32} (h : f_X3_copyFrom j j2 μ = some (r, μ')) : CMv X yX3_copyFrom cX3_copyFrom 2 1 26 [.ref (X.1 3 j), .ref (X.1 3 j2)] μ μ' := by
  refine CMv_of hX (by decide +kernel) (lv := [(0, .ref (X.1 3 j)), (1, .ref (X.1 3 j2))]) (Nat.le_of_ble_eq_true rfl) rfl (fun Γ hO hn hQ => ?_)
  have hO : Ok X RX3 cX3_copyFrom 1 26 Γ := hO
  unfold f_X3_copyFrom at h
  refine tr_aload_n hO 0 0 rfl dX3_copyFrom_0 ?_
  refine tr_aload_n hO 1 1 rfl dX3_copyFrom_1 ?_
  refine tr_get hO 2 (k := 0) (x_vy (by decide) hj2) rfl rfl iX3 (by decide) wF_X3_21 rfl rfl dX3_copyFrom_2 ?_
  obtain ⟨μ1, e_μ1, h⟩ := of_lt h
  refine tr_put hO 5 (k := 0) (ty := .int) e_μ1 (x_vy (by decide) hj) rfl rfl rfl iX3 tyX3 tyX3_ok nmX3 (by decide) wF_X3_21 rfl rfl (by decide +kernel) rfl rfl (Nat.le_of_ble_eq_true rfl) dX3_copyFrom_5 ?_
  refine tr_aload_n hO 8 1 rfl dX3_copyFrom_8 ?_
  refine tr_get hO 9 (k := 1) (x_vy (by decide) hj2) rfl rfl iX3 (by decide) wF_X3_9 rfl rfl dX3_copyFrom_9 ?_
  refine tr_iconst hO 12 (v := 0) (by decide) dX3_copyFrom_12 ?_
  refine tr_aload_n hO 13 0 rfl dX3_copyFrom_13 ?_
  refine tr_get hO 14 (k := 1) (x_vy (by decide) hj) rfl rfl iX3 (by decide) wF_X3_9 rfl rfl dX3_copyFrom_14 ?_
  refine tr_iconst hO 17 (v := 0) (by decide) dX3_copyFrom_17 ?_
  refine tr_bipush hO 18 (v := 8) (by decide) dX3_copyFrom_18 ?_
  obtain ⟨μ2, e_μ2, h⟩ := of_lt h
  refine tr_copyi hO 20 e_μ2 wM_X3_25 (x_vy (by decide) hj) (x_vy (by decide) hj2) a_15 a_15 (by decide) (by decide) (by decide) (by decide) (by decide) (Nat.le_of_ble_eq_true rfl) (by decide) (by decide +kernel) dX3_copyFrom_20 ?_
  refine tr_aload_n hO 23 1 rfl dX3_copyFrom_23 ?_
  refine tr_get hO 24 (k := 2) (x_vy (by decide) hj2) rfl rfl iX3 (by decide) wF_X3_15 rfl rfl dX3_copyFrom_24 ?_
  refine tr_iconst hO 27 (v := 0) (by decide) dX3_copyFrom_27 ?_
  refine tr_aload_n hO 28 0 rfl dX3_copyFrom_28 ?_
  refine tr_get hO 29 (k := 2) (x_vy (by decide) hj) rfl rfl iX3 (by decide) wF_X3_15 rfl rfl dX3_copyFrom_29 ?_
  refine tr_iconst hO 32 (v := 0) (by decide) dX3_copyFrom_32 ?_
  refine tr_bipush hO 33 (v := 8) (by decide) dX3_copyFrom_33 ?_
  obtain ⟨μ3, e_μ3, h⟩ := of_lt h
  refine tr_copyi hO 35 e_μ3 wM_X3_25 (x_vy (by decide) hj) (x_vy (by decide) hj2) a_16 a_16 (by decide) (by decide) (by decide) (by decide) (by decide) (Nat.le_of_ble_eq_true rfl) (by decide) (by decide +kernel) dX3_copyFrom_35 ?_
  refine tr_aload_n hO 38 1 rfl dX3_copyFrom_38 ?_
  refine tr_get hO 39 (k := 3) (x_vy (by decide) hj2) rfl rfl iX3 (by decide) wF_X3_18 rfl rfl dX3_copyFrom_39 ?_
  refine tr_iconst hO 42 (v := 0) (by decide) dX3_copyFrom_42 ?_
  refine tr_aload_n hO 43 0 rfl dX3_copyFrom_43 ?_
  refine tr_get hO 44 (k := 3) (x_vy (by decide) hj) rfl rfl iX3 (by decide) wF_X3_18 rfl rfl dX3_copyFrom_44 ?_
  refine tr_iconst hO 47 (v := 0) (by decide) dX3_copyFrom_47 ?_
  refine tr_bipush hO 48 (v := 64) (by decide) dX3_copyFrom_48 ?_
  obtain ⟨μ4, e_μ4, h⟩ := of_lt h
  refine tr_copyi hO 50 e_μ4 wM_X3_25 (x_vy (by decide) hj) (x_vy (by decide) hj2) a_17 a_17 (by decide) (by decide) (by decide) (by decide) (by decide) (Nat.le_of_ble_eq_true rfl) (by decide) (by decide +kernel) dX3_copyFrom_50 ?_
  cases h
  exact tr_vret hO 53 hQ dX3_copyFrom_53
set_option maxHeartbeats 4000000 in
set_option maxRecDepth 100000 in
theorem c_X6_copyFrom {X : xT} (hX : xOK X) {j : Nat} {j2 : Nat} (hj : j < 11) (hj2 : j2 < 11) {μ μ' : mT} {r : Int32} (h : f_X6_copyFrom j j2 μ = some (r, μ')) : CMv X yX6_copyFrom cX6_copyFrom 2 2 47 [.ref (X.1 0 j), .ref (X.1 0 j2)] μ μ' := by
  refine CMv_of hX (by decide +kernel) (lv := [(0, .ref (X.1 0 j)), (1, .ref (X.1 0 j2))]) (Nat.le_of_ble_eq_true rfl) rfl (fun Γ hO hn hQ => ?_)
  have hO : Ok X RX6 cX6_copyFrom 2 47 Γ := hO
  unfold f_X6_copyFrom at h
  refine tr_aload_n hO 0 0 rfl dX6_copyFrom_0 ?_
  refine tr_aload_n hO 1 1 rfl dX6_copyFrom_1 ?_
  refine tr_get hO 2 (k := 0) (x_vy (by decide) hj2) rfl rfl iX6 (by decide) wF_X6_53 rfl rfl dX6_copyFrom_2 ?_
  obtain ⟨μ1, e_μ1, h⟩ := of_lt h
  refine tr_put hO 5 (k := 0) (ty := .int) e_μ1 (x_vy (by decide) hj) rfl rfl rfl iX6 tyX6 tyX6_ok nmX6 (by decide) wF_X6_53 rfl rfl (by decide +kernel) rfl rfl (Nat.le_of_ble_eq_true rfl) dX6_copyFrom_5 ?_
  refine tr_aload_n hO 8 0 rfl dX6_copyFrom_8 ?_
  refine tr_aload_n hO 9 1 rfl dX6_copyFrom_9 ?_
  refine tr_get hO 10 (k := 1) (x_vy (by decide) hj2) rfl rfl iX6 (by decide) wF_X6_57 rfl rfl dX6_copyFrom_10 ?_
  obtain ⟨μ2, e_μ2, h⟩ := of_lt h
  refine tr_put hO 13 (k := 1) (ty := .int) e_μ2 (x_vy (by decide) hj) rfl rfl rfl iX6 tyX6 tyX6_ok nmX6 (by decide) wF_X6_57 rfl rfl (by decide +kernel) rfl rfl (Nat.le_of_ble_eq_true rfl) dX6_copyFrom_13 ?_
  refine tr_aload_n hO 16 0 rfl dX6_copyFrom_16 ?_
  refine tr_aload_n hO 17 1 rfl dX6_copyFrom_17 ?_
  refine tr_get hO 18 (k := 2) (x_vy (by decide) hj2) rfl rfl iX6 (by decide) wF_X6_60 rfl rfl dX6_copyFrom_18 ?_
  obtain ⟨μ3, e_μ3, h⟩ := of_lt h
  refine tr_put hO 21 (k := 2) (ty := .int) e_μ3 (x_vy (by decide) hj) rfl rfl rfl iX6 tyX6 tyX6_ok nmX6 (by decide) wF_X6_60 rfl rfl (by decide +kernel) rfl rfl (Nat.le_of_ble_eq_true rfl) dX6_copyFrom_21 ?_
  refine tr_aload_n hO 24 0 rfl dX6_copyFrom_24 ?_
  refine tr_aload_n hO 25 1 rfl dX6_copyFrom_25 ?_
  refine tr_get hO 26 (k := 3) (x_vy (by decide) hj2) rfl rfl iX6 (by decide) wF_X6_63 rfl rfl dX6_copyFrom_26 ?_
  obtain ⟨μ4, e_μ4, h⟩ := of_lt h
  refine tr_put hO 29 (k := 3) (ty := .int) e_μ4 (x_vy (by decide) hj) rfl rfl rfl iX6 tyX6 tyX6_ok nmX6 (by decide) wF_X6_63 rfl rfl (by decide +kernel) rfl rfl (Nat.le_of_ble_eq_true rfl) dX6_copyFrom_29 ?_
  refine tr_aload_n hO 32 0 rfl dX6_copyFrom_32 ?_
  refine tr_aload_n hO 33 1 rfl dX6_copyFrom_33 ?_
  refine tr_get hO 34 (k := 4) (x_vy (by decide) hj2) rfl rfl iX6 (by decide) wF_X6_66 rfl rfl dX6_copyFrom_34 ?_
  obtain ⟨μ5, e_μ5, h⟩ := of_lt h
  refine tr_put hO 37 (k := 4) (ty := .int) e_μ5 (x_vy (by decide) hj) rfl rfl rfl iX6 tyX6 tyX6_ok nmX6 (by decide) wF_X6_66 rfl rfl (by decide +kernel) rfl rfl (Nat.le_of_ble_eq_true rfl) dX6_copyFrom_37 ?_
  refine tr_aload_n hO 40 0 rfl dX6_copyFrom_40 ?_
  refine tr_aload_n hO 41 1 rfl dX6_copyFrom_41 ?_
  refine tr_get hO 42 (k := 5) (x_vy (by decide) hj2) rfl rfl iX6 (by decide) wF_X6_69 rfl rfl dX6_copyFrom_42 ?_
  obtain ⟨μ6, e_μ6, h⟩ := of_lt h
  refine tr_put hO 45 (k := 5) (ty := .int) e_μ6 (x_vy (by decide) hj) rfl rfl rfl iX6 tyX6 tyX6_ok nmX6 (by decide) wF_X6_69 rfl rfl (by decide +kernel) rfl rfl (Nat.le_of_ble_eq_true rfl) dX6_copyFrom_45 ?_
  refine tr_aload_n hO 48 1 rfl dX6_copyFrom_48 ?_
  refine tr_get hO 49 (k := 6) (x_vy (by decide) hj2) rfl rfl iX6 (by decide) wF_X6_18 rfl rfl dX6_copyFrom_49 ?_
  refine tr_iconst hO 52 (v := 0) (by decide) dX6_copyFrom_52 ?_
  refine tr_aload_n hO 53 0 rfl dX6_copyFrom_53 ?_
  refine tr_get hO 54 (k := 6) (x_vy (by decide) hj) rfl rfl iX6 (by decide) wF_X6_18 rfl rfl dX6_copyFrom_54 ?_
  refine tr_iconst hO 57 (v := 0) (by decide) dX6_copyFrom_57 ?_
  refine tr_bipush hO 58 (v := 6) (by decide) dX6_copyFrom_58 ?_
  obtain ⟨μ7, e_μ7, h⟩ := of_lt h
  refine tr_copyi hO 60 e_μ7 wM_X6_72 (x_vy (by decide) hj) (x_vy (by decide) hj2) a_4 a_4 (by decide) (by decide) (by decide) (by decide) (by decide) (Nat.le_of_ble_eq_true rfl) (by decide) (by decide +kernel) dX6_copyFrom_60 ?_
  refine tr_aload_n hO 63 0 rfl dX6_copyFrom_63 ?_
  refine tr_aload_n hO 64 1 rfl dX6_copyFrom_64 ?_
  refine tr_get hO 65 (k := 7) (x_vy (by decide) hj2) rfl rfl iX6 (by decide) wF_X6_78 rfl rfl dX6_copyFrom_65 ?_
  obtain ⟨μ8, e_μ8, h⟩ := of_lt h
  refine tr_put hO 68 (k := 7) (ty := .int) e_μ8 (x_vy (by decide) hj) rfl rfl rfl iX6 tyX6 tyX6_ok nmX6 (by decide) wF_X6_78 rfl rfl (by decide +kernel) rfl rfl (Nat.le_of_ble_eq_true rfl) dX6_copyFrom_68 ?_
  refine tr_aload_n hO 71 1 rfl dX6_copyFrom_71 ?_
  refine tr_get hO 72 (k := 8) (x_vy (by decide) hj2) rfl rfl iX6 (by decide) wF_X6_23 rfl rfl dX6_copyFrom_72 ?_
  refine tr_iconst hO 75 (v := 0) (by decide) dX6_copyFrom_75 ?_
  refine tr_aload_n hO 76 0 rfl dX6_copyFrom_76 ?_
  refine tr_get hO 77 (k := 8) (x_vy (by decide) hj) rfl rfl iX6 (by decide) wF_X6_23 rfl rfl dX6_copyFrom_77 ?_
  refine tr_iconst hO 80 (v := 0) (by decide) dX6_copyFrom_80 ?_
  refine tr_bipush hO 81 (v := 8) (by decide) dX6_copyFrom_81 ?_
  obtain ⟨μ9, e_μ9, h⟩ := of_lt h
  refine tr_copyi hO 83 e_μ9 wM_X6_72 (x_vy (by decide) hj) (x_vy (by decide) hj2) a_5 a_5 (by decide) (by decide) (by decide) (by decide) (by decide) (Nat.le_of_ble_eq_true rfl) (by decide) (by decide +kernel) dX6_copyFrom_83 ?_
  refine tr_aload_n hO 86 1 rfl dX6_copyFrom_86 ?_
  refine tr_get hO 87 (k := 9) (x_vy (by decide) hj2) rfl rfl iX6 (by decide) wF_X6_26 rfl rfl dX6_copyFrom_87 ?_
  refine tr_iconst hO 90 (v := 0) (by decide) dX6_copyFrom_90 ?_
  refine tr_aload_n hO 91 0 rfl dX6_copyFrom_91 ?_
  refine tr_get hO 92 (k := 9) (x_vy (by decide) hj) rfl rfl iX6 (by decide) wF_X6_26 rfl rfl dX6_copyFrom_92 ?_
  refine tr_iconst hO 95 (v := 0) (by decide) dX6_copyFrom_95 ?_
  refine tr_bipush hO 96 (v := 8) (by decide) dX6_copyFrom_96 ?_
  obtain ⟨μ10, e_μ10, h⟩ := of_lt h
  refine tr_copyi hO 98 e_μ10 wM_X6_72 (x_vy (by decide) hj) (x_vy (by decide) hj2) a_6 a_6 (by decide) (by decide) (by decide) (by decide) (by decide) (Nat.le_of_ble_eq_true rfl) (by decide) (by decide +kernel) dX6_copyFrom_98 ?_
  refine tr_aload_n hO 101 1 rfl dX6_copyFrom_101 ?_
  refine tr_get hO 102 (k := 10) (x_vy (by decide) hj2) rfl rfl iX6 (by decide) wF_X6_29 rfl rfl dX6_copyFrom_102 ?_
  refine tr_iconst hO 105 (v := 0) (by decide) dX6_copyFrom_105 ?_
  refine tr_aload_n hO 106 0 rfl dX6_copyFrom_106 ?_
  refine tr_get hO 107 (k := 10) (x_vy (by decide) hj) rfl rfl iX6 (by decide) wF_X6_29 rfl rfl dX6_copyFrom_107 ?_
  refine tr_iconst hO 110 (v := 0) (by decide) dX6_copyFrom_110 ?_
  refine tr_bipush hO 111 (v := 8) (by decide) dX6_copyFrom_111 ?_
  obtain ⟨μ11, e_μ11, h⟩ := of_lt h
  refine tr_copyi hO 113 e_μ11 wM_X6_72 (x_vy (by decide) hj) (x_vy (by decide) hj2) a_7 a_7 (by decide) (by decide) (by decide) (by decide) (by decide) (Nat.le_of_ble_eq_true rfl) (by decide) (by decide +kernel) dX6_copyFrom_113 ?_
  refine tr_aload_n hO 116 0 rfl dX6_copyFrom_116 ?_
  refine tr_get hO 117 (k := 11) (x_vy (by decide) hj) rfl rfl iX6 (by decide) wF_X6_35 rfl rfl dX6_copyFrom_117 ?_
  refine tr_aload_n hO 120 1 rfl dX6_copyFrom_120 ?_
  refine tr_get hO 121 (k := 11) (x_vy (by decide) hj2) rfl rfl iX6 (by decide) wF_X6_35 rfl rfl dX6_copyFrom_121 ?_
  obtain ⟨v12, μ13, hcall, h⟩ := of_bd h
  refine tr_callV hO 124 (na := 1) (As := [.ref (X.1 1 j2)]) (st := []) (c_X5_copyFrom hX hj hj2 hcall) rfl (x_vy (by decide) hj) rfl rfl wM_X6_81 wI_X5_copyFrom wS_X5_copyFrom wN_X5 wC_X5_copyFrom (by decide +kernel) rfl (by decide) (by decide) (Nat.le_of_ble_eq_true rfl) dX6_copyFrom_124 ?_
  refine tr_aload_n hO 127 0 rfl dX6_copyFrom_127 ?_
  refine tr_get hO 128 (k := 12) (x_vy (by decide) hj) rfl rfl iX6 (by decide) wF_X6_42 rfl rfl dX6_copyFrom_128 ?_
  refine tr_aload_n hO 131 1 rfl dX6_copyFrom_131 ?_
  refine tr_get hO 132 (k := 12) (x_vy (by decide) hj2) rfl rfl iX6 (by decide) wF_X6_42 rfl rfl dX6_copyFrom_132 ?_
  obtain ⟨v14, μ15, hcall, h⟩ := of_bd h
  refine tr_callV hO 135 (na := 1) (As := [.ref (X.1 2 j2)]) (st := []) (c_X0_copyFrom hX hj hj2 hcall) rfl (x_vy (by decide) hj) rfl rfl wM_X6_85 wI_X0_copyFrom wS_X0_copyFrom wN_X0 wC_X0_copyFrom (by decide +kernel) rfl (by decide) (by decide) (Nat.le_of_ble_eq_true rfl) dX6_copyFrom_135 ?_
  refine tr_aload_n hO 138 0 rfl dX6_copyFrom_138 ?_
  refine tr_get hO 139 (k := 13) (x_vy (by decide) hj) rfl rfl iX6 (by decide) wF_X6_49 rfl rfl dX6_copyFrom_139 ?_
  refine tr_aload_n hO 142 1 rfl dX6_copyFrom_142 ?_
  refine tr_get hO 143 (k := 13) (x_vy (by decide) hj2) rfl rfl iX6 (by decide) wF_X6_49 rfl rfl dX6_copyFrom_143 ?_
  obtain ⟨v16, μ17, hcall, h⟩ := of_bd h
  refine tr_callV hO 146 (na := 1) (As := [.ref (X.1 3 j2)]) (st := []) (c_X3_copyFrom hX hj hj2 hcall) rfl (x_vy (by decide) hj) rfl rfl wM_X6_88 wI_X3_copyFrom wS_X3_copyFrom wN_X3 wC_X3_copyFrom (by decide +kernel) rfl (by decide) (by decide) (Nat.le_of_ble_eq_true rfl) dX6_copyFrom_146 ?_
  cases h
  exact tr_vret hO 149 hQ dX6_copyFrom_149
set_option maxHeartbeats 4000000 in
set_option maxRecDepth 100000 in
theorem c_X1_note {X : xT} (hX : xOK X) {j2 : Nat} (hj2 : j2 < 11) {μ μ' : mT} {r : Int32} (h : f_X1_note j2 μ = some (r, μ')) : CMv X yX1_note cX1_note 2 3 68 [.ref (X.1 19 0), .ref (X.1 0 j2)] μ μ' := by
  refine CMv_of hX (by decide +kernel) (lv := [(0, .ref (X.1 19 0)), (1, .ref (X.1 0 j2))]) (Nat.le_of_ble_eq_true rfl) rfl (fun Γ hO hn hQ => ?_)
  have hO : Ok X RX1 cX1_note 3 68 Γ := hO
  unfold f_X1_note at h
  refine tr_aload_n hO 0 0 rfl dX1_note_0 ?_
  refine tr_get hO 1 (k := 1) (x_v0 (by decide)) rfl rfl iX1 (by decide) wF_X1_11 rfl rfl dX1_note_1 ?_
  refine tr_aload_n hO 4 0 rfl dX1_note_4 ?_
  refine tr_get hO 5 (k := 0) (x_v0 (by decide)) rfl rfl iX1 (by decide) wF_X1_18 rfl rfl dX1_note_5 ?_
  obtain ⟨hg, h⟩ := of_gd h
  obtain ⟨jj1, e_jj1, h⟩ := of_lt h
  obtain ⟨hj_jj1, h⟩ := of_gd h
  have hj_jj1 := of_decide_eq_true hj_jj1
  refine tr_aald hO 8 (j' := jj1) e_jj1 (x_v0 (by decide)) a_22 hg dX1_note_8 ?_
  refine tr_aload_n hO 9 1 rfl dX1_note_9 ?_
  obtain ⟨v2, μ3, hcall, h⟩ := of_bd h
  refine tr_callV hO 10 (na := 1) (As := [.ref (X.1 0 j2)]) (st := []) (c_X6_copyFrom hX hj_jj1 hj2 hcall) rfl (x_vy (by decide) hj_jj1) rfl rfl wM_X1_22 wI_X6_copyFrom wS_X6_copyFrom wN_X6 wC_X6_copyFrom (by decide +kernel) rfl (by decide) (by decide) (Nat.le_of_ble_eq_true rfl) dX1_note_10 ?_
  cases h
  exact tr_vret hO 13 hQ dX1_note_13
set_option maxHeartbeats 4000000 in
set_option maxRecDepth 100000 in
theorem c_X1_dropOldest {X : xT} (hX : xOK X)   {μ μ' : mT} {r : Int32} (h : f_X1_dropOldest μ = some (r, μ')) : CMv X yX1_dropOldest cX1_dropOldest 3 0 0 [.ref (X.1 19 0)] μ μ' := by
  refine CMv_of hX (by decide +kernel) (lv := [(0, .ref (X.1 19 0))]) (Nat.le_of_ble_eq_true rfl) rfl (fun Γ hO hn hQ => ?_)
  have hO : Ok X RX1 cX1_dropOldest 0 0 Γ := hO
  unfold f_X1_dropOldest at h
  refine tr_aload_n hO 0 0 rfl dX1_dropOldest_0 ?_
  refine tr_get hO 1 (k := 1) (x_v0 (by decide)) rfl rfl iX1 (by decide) wF_X1_11 rfl rfl dX1_dropOldest_1 ?_
  refine tr_iconst hO 4 (v := 0) (by decide) dX1_dropOldest_4 ?_
  obtain ⟨jj1, e_jj1, h⟩ := of_lt h
  obtain ⟨hj_jj1, h⟩ := of_gd h
  have hj_jj1 := of_decide_eq_true hj_jj1
  refine tr_aald hO 5 (j' := jj1) e_jj1 (x_v0 (by decide)) a_22 (by decide) dX1_dropOldest_5 ?_
  refine tr_astore_n hO 6 rfl (lv' := [(1, .ref (X.1 0 jj1)), (0, .ref (X.1 19 0))]) hn rfl (by decide) rfl dX1_dropOldest_6 ?_
  refine tr_iconst hO 7 (v := 0) (by decide) dX1_dropOldest_7 ?_
  refine tr_istore_n hO 8 (v := 0) rfl (lv' := [(2, .int 0), (1, .ref (X.1 0 jj1)), (0, .ref (X.1 19 0))]) hn rfl (by decide) rfl dX1_dropOldest_8 ?_
  obtain ⟨K4, e_K4, h⟩ := of_lt h
  have K4_T : ∀ (μ5 : mT), K4 μ5 = some (r, μ') → tj X Γ μ5 35 [(0, .ref (X.1 19 0)), (1, .ref (X.1 0 jj1))] [] := by
    intro μ5 h
    rw [e_K4] at h
    refine tr_aload_n hO 35 0 rfl dX1_dropOldest_35 ?_
    refine tr_get hO 36 (k := 1) (x_v0 (by decide)) rfl rfl iX1 (by decide) wF_X1_11 rfl rfl dX1_dropOldest_36 ?_
    refine tr_bipush hO 39 (v := 6) (by decide) dX1_dropOldest_39 ?_
    refine tr_aload_n hO 41 1 rfl dX1_dropOldest_41 ?_
    obtain ⟨μ6, e_μ6, h⟩ := of_lt h
    refine tr_aast hO 42 e_μ6 hj_jj1 (x_v0 (by decide)) a_22 (by decide) dX1_dropOldest_42 ?_
    cases h
    exact tr_vret hO 43 hQ dX1_dropOldest_43
  have L9_T : ∀ (n : Nat) (v2 : Int32) (μ3 : mT), f_X1_dropOldest_L9 jj1 K4 n v2 μ3 = some (r, μ') → tj X Γ μ3 9 [(0, .ref (X.1 19 0)), (1, .ref (X.1 0 jj1)), (2, .int v2)] [] := by
    intro n
    induction n with
    | zero =>
      intro v2 μ3 h
      rw [f_X1_dropOldest_L9] at h
      cases h
    | succ n ih =>
      intro v2 μ3 h
      rw [f_X1_dropOldest_L9] at h
      refine tr_iload_n hO 9 2 rfl dX1_dropOldest_9 ?_
      refine tr_bipush hO 10 (v := 6) (by decide) dX1_dropOldest_10 ?_
      refine tr_icmp_ge hO 12 35 (by decide) dX1_dropOldest_12 (fun hc => ?_) (fun hc => ?_)
      · have h := of_t hc h
        refine tr_sub [0, 1] rfl ?_
        exact K4_T _ h
      · have h := of_f hc h
        refine tr_aload_n hO 15 0 rfl dX1_dropOldest_15 ?_
        refine tr_get hO 16 (k := 1) (x_v0 (by decide)) rfl rfl iX1 (by decide) wF_X1_11 rfl rfl dX1_dropOldest_16 ?_
        refine tr_iload_n hO 19 2 rfl dX1_dropOldest_19 ?_
        refine tr_aload_n hO 20 0 rfl dX1_dropOldest_20 ?_
        refine tr_get hO 21 (k := 1) (x_v0 (by decide)) rfl rfl iX1 (by decide) wF_X1_11 rfl rfl dX1_dropOldest_21 ?_
        refine tr_iload_n hO 24 2 rfl dX1_dropOldest_24 ?_
        refine tr_iconst hO 25 (v := 1) (by decide) dX1_dropOldest_25 ?_
        refine tr_iadd hO 26 dX1_dropOldest_26 ?_
        obtain ⟨hg, h⟩ := of_gd h
        obtain ⟨jj7, e_jj7, h⟩ := of_lt h
        obtain ⟨hj_jj7, h⟩ := of_gd h
        have hj_jj7 := of_decide_eq_true hj_jj7
        refine tr_aald hO 27 (j' := jj7) e_jj7 (x_v0 (by decide)) a_22 hg dX1_dropOldest_27 ?_
        obtain ⟨hg, h⟩ := of_gd h
        obtain ⟨μ8, e_μ8, h⟩ := of_lt h
        refine tr_aast hO 28 e_μ8 hj_jj7 (x_v0 (by decide)) a_22 hg dX1_dropOldest_28 ?_
        obtain ⟨v9, e_v9, h⟩ := of_lt h
        refine tr_iinc hO 29 (q := 2) (v := v9) (lv' := [(2, .int v9), (0, .ref (X.1 19 0)), (1, .ref (X.1 0 jj1))]) hn rfl (by rw [e_v9]; rfl) (by decide) rfl dX1_dropOldest_29 ?_
        refine tr_goto hO 32 9 (by decide) dX1_dropOldest_32 ?_
        refine tr_sub [1, 2, 0] rfl ?_
        exact ih _ _ h
  refine tr_sub [2, 1, 0] rfl ?_
  exact L9_T _ _ _ h
set_option maxHeartbeats 4000000 in
set_option maxRecDepth 100000 in
theorem c_X1_kept {X : xT} (hX : xOK X) {a1 : Int32}  {μ μ' : mT} {r : Int32} (h : f_X1_kept a1 μ = some (r, μ')) : CMi X yX1_kept cX1_kept 2 .int 1 22 [.ref (X.1 19 0), .int a1] μ r μ' := by
  refine CMi_of hX (by decide +kernel) (lv := [(0, .ref (X.1 19 0)), (1, .int a1)]) (Nat.le_of_ble_eq_true rfl) rfl (fun Γ hO hn hQ => ?_)
  have hO : Ok X RX1 cX1_kept 1 22 Γ := hO
  unfold f_X1_kept at h
  refine tr_iload_n hO 0 1 rfl dX1_kept_0 ?_
  refine tr_if_ge hO 1 6 (by decide) dX1_kept_1 (fun hc => ?_) (fun hc => ?_)
  · have h := of_t hc h
    refine tr_aload_n hO 6 0 rfl dX1_kept_6 ?_
    refine tr_get hO 7 (k := 0) (x_v0 (by decide)) rfl rfl iX1 (by decide) wF_X1_18 rfl rfl dX1_kept_7 ?_
    refine tr_bipush hO 10 (v := 6) (by decide) dX1_kept_10 ?_
    refine tr_icmp_ge hO 12 28 (by decide) dX1_kept_12 (fun hc => ?_) (fun hc => ?_)
    · have h := of_t hc h
      refine tr_aload_n hO 28 0 rfl dX1_kept_28 ?_
      obtain ⟨v1, μ2, hcall, h⟩ := of_bd h
      refine tr_callV hO 29 (na := 0) (As := []) (st := []) (c_X1_dropOldest hX  hcall) rfl (x_v0 (by decide)) rfl rfl wM_X1_26 wI_X1_dropOldest wS_X1_dropOldest wN_X1 wC_X1_dropOldest (by decide +kernel) rfl (by decide) (by decide) (Nat.le_of_ble_eq_true rfl) dX1_kept_29 ?_
      refine tr_iload_n hO 32 1 rfl dX1_kept_32 ?_
      cases h
      exact tr_iret hO 33 hQ rfl dX1_kept_33
    · have h := of_f hc h
      refine tr_aload_n hO 15 0 rfl dX1_kept_15 ?_
      refine tr_dup hO 16 rfl dX1_kept_16 ?_
      refine tr_get hO 17 (k := 0) (x_v0 (by decide)) rfl rfl iX1 (by decide) wF_X1_18 rfl rfl dX1_kept_17 ?_
      refine tr_iconst hO 20 (v := 1) (by decide) dX1_kept_20 ?_
      refine tr_iadd hO 21 dX1_kept_21 ?_
      obtain ⟨μ3, e_μ3, h⟩ := of_lt h
      refine tr_put hO 22 (k := 0) (ty := .int) e_μ3 (x_v0 (by decide)) rfl rfl rfl iX1 tyX1 tyX1_ok nmX1 (by decide) wF_X1_18 rfl rfl (by decide +kernel) rfl rfl (Nat.le_of_ble_eq_true rfl) dX1_kept_22 ?_
      refine tr_goto hO 25 32 (by decide) dX1_kept_25 ?_
      refine tr_iload_n hO 32 1 rfl dX1_kept_32 ?_
      cases h
      exact tr_iret hO 33 hQ rfl dX1_kept_33
  · have h := of_f hc h
    refine tr_iload_n hO 4 1 rfl dX1_kept_4 ?_
    cases h
    exact tr_iret hO 5 hQ rfl dX1_kept_5
set_option maxHeartbeats 4000000 in
set_option maxRecDepth 100000 in
theorem c_X3_has {X : xT} (hX : xOK X) {j : Nat} {a1 : Int32} (hj : j < 11) {μ μ' : mT} {r : Int32} (h : f_X3_has j a1 μ = some (r, μ')) : CMi X yX3_has cX3_has 2 .boolean 0 0 [.ref (X.1 3 j), .int a1] μ r μ' := by
  refine CMi_of hX (by decide +kernel) (lv := [(0, .ref (X.1 3 j)), (1, .int a1)]) (Nat.le_of_ble_eq_true rfl) rfl (fun Γ hO hn hQ => ?_)
  have hO : Ok X RX3 cX3_has 0 0 Γ := hO
  unfold f_X3_has at h
  refine tr_iload_n hO 0 1 rfl dX3_has_0 ?_
  refine tr_if_lt hO 1 16 (by decide) dX3_has_1 (fun hc => ?_) (fun hc => ?_)
  · have h := of_t hc h
    refine tr_iconst hO 16 (v := 0) (by decide) dX3_has_16 ?_
    cases h
    exact tr_iret hO 17 hQ (by decide) dX3_has_17
  · have h := of_f hc h
    refine tr_iload_n hO 4 1 rfl dX3_has_4 ?_
    refine tr_aload_n hO 5 0 rfl dX3_has_5 ?_
    refine tr_get hO 6 (k := 0) (x_vy (by decide) hj) rfl rfl iX3 (by decide) wF_X3_21 rfl rfl dX3_has_6 ?_
    refine tr_icmp_ge hO 9 16 (by decide) dX3_has_9 (fun hc => ?_) (fun hc => ?_)
    · have h := of_t hc h
      refine tr_iconst hO 16 (v := 0) (by decide) dX3_has_16 ?_
      cases h
      exact tr_iret hO 17 hQ (by decide) dX3_has_17
    · have h := of_f hc h
      refine tr_iconst hO 12 (v := 1) (by decide) dX3_has_12 ?_
      refine tr_goto hO 13 17 (by decide) dX3_has_13 ?_
      cases h
      exact tr_iret hO 17 hQ (by decide) dX3_has_17
set_option maxHeartbeats 4000000 in
set_option maxRecDepth 100000 in
theorem c_X3_sizeOf {X : xT} (hX : xOK X) {j : Nat} {a1 : Int32} (hj : j < 11) {μ μ' : mT} {r : Int32} (h : f_X3_sizeOf j a1 μ = some (r, μ')) : CMi X yX3_sizeOf cX3_sizeOf 2 .int 1 21 [.ref (X.1 3 j), .int a1] μ r μ' := by
  refine CMi_of hX (by decide +kernel) (lv := [(0, .ref (X.1 3 j)), (1, .int a1)]) (Nat.le_of_ble_eq_true rfl) rfl (fun Γ hO hn hQ => ?_)
  have hO : Ok X RX3 cX3_sizeOf 1 21 Γ := hO
  unfold f_X3_sizeOf at h
  refine tr_aload_n hO 0 0 rfl dX3_sizeOf_0 ?_
  refine tr_iload_n hO 1 1 rfl dX3_sizeOf_1 ?_
  obtain ⟨v1, μ2, hcall, h⟩ := of_bd h
  refine tr_callI hO 2 (na := 1) (As := [.int a1]) (st := []) (c_X3_has hX hj hcall) rfl (x_vy (by decide) hj) rfl rfl wM_X3_31 wI_X3_has wS_X3_has wN_X3 wC_X3_has (by decide +kernel) rfl (by decide) (by decide) (Nat.le_of_ble_eq_true rfl) dX3_sizeOf_2 ?_
  refine tr_if_eq hO 5 17 (by decide) dX3_sizeOf_5 (fun hc => ?_) (fun hc => ?_)
  · have h := of_t hc h
    refine tr_iconst hO 17 (v := 0) (by decide) dX3_sizeOf_17 ?_
    cases h
    exact tr_iret hO 18 hQ rfl dX3_sizeOf_18
  · have h := of_f hc h
    refine tr_aload_n hO 8 0 rfl dX3_sizeOf_8 ?_
    refine tr_get hO 9 (k := 2) (x_vy (by decide) hj) rfl rfl iX3 (by decide) wF_X3_15 rfl rfl dX3_sizeOf_9 ?_
    refine tr_iload_n hO 12 1 rfl dX3_sizeOf_12 ?_
    obtain ⟨hg, h⟩ := of_gd h
    refine tr_iald hO 13 (x_vy (by decide) hj) a_16 hg dX3_sizeOf_13 ?_
    refine tr_goto hO 14 18 (by decide) dX3_sizeOf_14 ?_
    cases h
    exact tr_iret hO 18 hQ rfl dX3_sizeOf_18
set_option maxHeartbeats 4000000 in
set_option maxRecDepth 100000 in
theorem c_X3_wagonOf {X : xT} (hX : xOK X) {j : Nat} {a1 : Int32} {a2 : Int32} (hj : j < 11) {μ μ' : mT} {r : Int32} (h : f_X3_wagonOf j a1 a2 μ = some (r, μ')) : CMi X yX3_wagonOf cX3_wagonOf 4 .int 1 21 [.ref (X.1 3 j), .int a1, .int a2] μ r μ' := by
  refine CMi_of hX (by decide +kernel) (lv := [(0, .ref (X.1 3 j)), (1, .int a1), (2, .int a2)]) (Nat.le_of_ble_eq_true rfl) rfl (fun Γ hO hn hQ => ?_)
  have hO : Ok X RX3 cX3_wagonOf 1 21 Γ := hO
  unfold f_X3_wagonOf at h
  refine tr_aload_n hO 0 0 rfl dX3_wagonOf_0 ?_
  refine tr_iload_n hO 1 1 rfl dX3_wagonOf_1 ?_
  obtain ⟨v1, μ2, hcall, h⟩ := of_bd h
  refine tr_callI hO 2 (na := 1) (As := [.int a1]) (st := []) (c_X3_has hX hj hcall) rfl (x_vy (by decide) hj) rfl rfl wM_X3_31 wI_X3_has wS_X3_has wN_X3 wC_X3_has (by decide +kernel) rfl (by decide) (by decide) (Nat.le_of_ble_eq_true rfl) dX3_wagonOf_2 ?_
  obtain ⟨J3, e_J3, h⟩ := of_lt h
  have J3_T : ∀ (v4 : Int32) (μ5 : mT), J3 v4 μ5 = some (r, μ') → tj X Γ μ5 27 [(0, .ref (X.1 3 j)), (1, .int a1), (2, .int a2)] [.int v4] := by
    intro v4 μ5 h
    rw [e_J3] at h
    refine tr_istore_n hO 27 (v := v4) rfl (lv' := [(3, .int v4), (0, .ref (X.1 3 j)), (1, .int a1), (2, .int a2)]) hn rfl (by decide) rfl dX3_wagonOf_27 ?_
    refine tr_iload_n hO 28 0 rfl dX3_wagonOf_28 ?_
    refine tr_if_eq hO 29 46 (by decide) dX3_wagonOf_29 (fun hc => ?_) (fun hc => ?_)
    · have h := of_t hc h
      refine tr_bipush hO 46 (v := (-6)) (by decide) dX3_wagonOf_46 ?_
      cases h
      exact tr_iret hO 48 hQ rfl dX3_wagonOf_48
    · have h := of_f hc h
      refine tr_aload_n hO 32 1 rfl dX3_wagonOf_32 ?_
      refine tr_get hO 33 (k := 3) (x_vy (by decide) hj) rfl rfl iX3 (by decide) wF_X3_18 rfl rfl dX3_wagonOf_33 ?_
      refine tr_iload_n hO 36 2 rfl dX3_wagonOf_36 ?_
      refine tr_bipush hO 37 (v := 8) (by decide) dX3_wagonOf_37 ?_
      refine tr_imul hO 39 dX3_wagonOf_39 ?_
      refine tr_iload_n hO 40 3 rfl dX3_wagonOf_40 ?_
      refine tr_iadd hO 41 dX3_wagonOf_41 ?_
      obtain ⟨hg, h⟩ := of_gd h
      refine tr_iald hO 42 (x_vy (by decide) hj) a_17 hg dX3_wagonOf_42 ?_
      refine tr_goto hO 43 48 (by decide) dX3_wagonOf_43 ?_
      cases h
      exact tr_iret hO 48 hQ rfl dX3_wagonOf_48
  obtain ⟨J6, e_J6, h⟩ := of_lt h
  have J6_T : ∀ (μ7 : mT), J6 μ7 = some (r, μ') → tj X Γ μ7 26 [(0, .ref (X.1 3 j)), (1, .int a1), (2, .int a2)] [] := by
    intro μ7 h
    rw [e_J6] at h
    refine tr_iconst hO 26 (v := 0) (by decide) dX3_wagonOf_26 ?_
    exact J3_T _ _ h
  refine tr_if_eq hO 5 26 (by decide) dX3_wagonOf_5 (fun hc => ?_) (fun hc => ?_)
  · have h := of_t hc h
    exact J6_T _ h
  · have h := of_f hc h
    refine tr_iload_n hO 8 2 rfl dX3_wagonOf_8 ?_
    refine tr_if_lt hO 9 26 (by decide) dX3_wagonOf_9 (fun hc => ?_) (fun hc => ?_)
    · have h := of_t hc h
      exact J6_T _ h
    · have h := of_f hc h
      refine tr_iload_n hO 12 2 rfl dX3_wagonOf_12 ?_
      refine tr_aload_n hO 13 0 rfl dX3_wagonOf_13 ?_
      refine tr_get hO 14 (k := 2) (x_vy (by decide) hj) rfl rfl iX3 (by decide) wF_X3_15 rfl rfl dX3_wagonOf_14 ?_
      refine tr_iload_n hO 17 1 rfl dX3_wagonOf_17 ?_
      obtain ⟨hg, h⟩ := of_gd h
      refine tr_iald hO 18 (x_vy (by decide) hj) a_16 hg dX3_wagonOf_18 ?_
      refine tr_icmp_ge hO 19 26 (by decide) dX3_wagonOf_19 (fun hc => ?_) (fun hc => ?_)
      · have h := of_t hc h
        exact J6_T _ h
      · have h := of_f hc h
        refine tr_iconst hO 22 (v := 1) (by decide) dX3_wagonOf_22 ?_
        refine tr_goto hO 23 27 (by decide) dX3_wagonOf_23 ?_
        exact J3_T _ _ h
set_option maxHeartbeats 4000000 in
set_option maxRecDepth 100000 in
theorem c_X3_trainOf {X : xT} (hX : xOK X) {j : Nat} {a1 : Int32} (hj : j < 11) {μ μ' : mT} {r : Int32} (h : f_X3_trainOf j a1 μ = some (r, μ')) : CMi X yX3_trainOf cX3_trainOf 4 .int 0 0 [.ref (X.1 3 j), .int a1] μ r μ' := by
  refine CMi_of hX (by decide +kernel) (lv := [(0, .ref (X.1 3 j)), (1, .int a1)]) (Nat.le_of_ble_eq_true rfl) rfl (fun Γ hO hn hQ => ?_)
  have hO : Ok X RX3 cX3_trainOf 0 0 Γ := hO
  unfold f_X3_trainOf at h
  refine tr_iconst hO 0 (v := 0) (by decide) dX3_trainOf_0 ?_
  refine tr_istore_n hO 1 (v := 0) rfl (lv' := [(2, .int 0), (0, .ref (X.1 3 j)), (1, .int a1)]) hn rfl (by decide) rfl dX3_trainOf_1 ?_
  have L2_T : ∀ (n : Nat) (v1 : Int32) (μ2 : mT), f_X3_trainOf_L2 j a1 n v1 μ2 = some (r, μ') → tj X Γ μ2 2 [(0, .ref (X.1 3 j)), (1, .int a1), (2, .int v1)] [] := by
    intro n
    induction n with
    | zero =>
      intro v1 μ2 h
      rw [f_X3_trainOf_L2] at h
      cases h
    | succ n ih =>
      intro v1 μ2 h
      rw [f_X3_trainOf_L2] at h
      refine tr_iload_n hO 2 2 rfl dX3_trainOf_2 ?_
      refine tr_aload_n hO 3 0 rfl dX3_trainOf_3 ?_
      refine tr_get hO 4 (k := 0) (x_vy (by decide) hj) rfl rfl iX3 (by decide) wF_X3_21 rfl rfl dX3_trainOf_4 ?_
      refine tr_icmp_ge hO 7 51 (by decide) dX3_trainOf_7 (fun hc => ?_) (fun hc => ?_)
      · have h := of_t hc h
        refine tr_bipush hO 51 (v := (-6)) (by decide) dX3_trainOf_51 ?_
        cases h
        exact tr_iret hO 53 hQ rfl dX3_trainOf_53
      · have h := of_f hc h
        refine tr_iconst hO 10 (v := 0) (by decide) dX3_trainOf_10 ?_
        refine tr_istore_n hO 11 (v := 0) rfl (lv' := [(3, .int 0), (0, .ref (X.1 3 j)), (1, .int a1), (2, .int v1)]) hn rfl (by decide) rfl dX3_trainOf_11 ?_
        obtain ⟨K5, e_K5, h⟩ := of_lt h
        have K5_T : ∀ (μ6 : mT), K5 μ6 = some (r, μ') → tj X Γ μ6 45 [(0, .ref (X.1 3 j)), (1, .int a1), (2, .int v1)] [] := by
          intro μ6 h
          rw [e_K5] at h
          obtain ⟨v7, e_v7, h⟩ := of_lt h
          refine tr_iinc hO 45 (q := 2) (v := v7) (lv' := [(2, .int v7), (0, .ref (X.1 3 j)), (1, .int a1)]) hn rfl (by rw [e_v7]; rfl) (by decide) rfl dX3_trainOf_45 ?_
          refine tr_goto hO 48 2 (by decide) dX3_trainOf_48 ?_
          refine tr_sub [1, 2, 0] rfl ?_
          exact ih _ _ h
        have L12_T : ∀ (n : Nat) (v3 : Int32) (μ4 : mT), f_X3_trainOf_L12 j a1 v1 K5 n v3 μ4 = some (r, μ') → tj X Γ μ4 12 [(0, .ref (X.1 3 j)), (1, .int a1), (2, .int v1), (3, .int v3)] [] := by
          intro n
          induction n with
          | zero =>
            intro v3 μ4 h
            rw [f_X3_trainOf_L12] at h
            cases h
          | succ n ih =>
            intro v3 μ4 h
            rw [f_X3_trainOf_L12] at h
            refine tr_iload_n hO 12 3 rfl dX3_trainOf_12 ?_
            refine tr_aload_n hO 13 0 rfl dX3_trainOf_13 ?_
            refine tr_get hO 14 (k := 2) (x_vy (by decide) hj) rfl rfl iX3 (by decide) wF_X3_15 rfl rfl dX3_trainOf_14 ?_
            refine tr_iload_n hO 17 2 rfl dX3_trainOf_17 ?_
            obtain ⟨hg, h⟩ := of_gd h
            refine tr_iald hO 18 (x_vy (by decide) hj) a_16 hg dX3_trainOf_18 ?_
            refine tr_icmp_ge hO 19 45 (by decide) dX3_trainOf_19 (fun hc => ?_) (fun hc => ?_)
            · have h := of_t hc h
              refine tr_sub [0, 1, 2] rfl ?_
              exact K5_T _ h
            · have h := of_f hc h
              refine tr_aload_n hO 22 0 rfl dX3_trainOf_22 ?_
              refine tr_get hO 23 (k := 3) (x_vy (by decide) hj) rfl rfl iX3 (by decide) wF_X3_18 rfl rfl dX3_trainOf_23 ?_
              refine tr_iload_n hO 26 2 rfl dX3_trainOf_26 ?_
              refine tr_bipush hO 27 (v := 8) (by decide) dX3_trainOf_27 ?_
              refine tr_imul hO 29 dX3_trainOf_29 ?_
              refine tr_iload_n hO 30 3 rfl dX3_trainOf_30 ?_
              refine tr_iadd hO 31 dX3_trainOf_31 ?_
              obtain ⟨hg, h⟩ := of_gd h
              refine tr_iald hO 32 (x_vy (by decide) hj) a_17 hg dX3_trainOf_32 ?_
              refine tr_iload_n hO 33 1 rfl dX3_trainOf_33 ?_
              refine tr_icmp_ne hO 34 39 (by decide) dX3_trainOf_34 (fun hc => ?_) (fun hc => ?_)
              · have h := of_f hc h
                obtain ⟨v8, e_v8, h⟩ := of_lt h
                refine tr_iinc hO 39 (q := 3) (v := v8) (lv' := [(3, .int v8), (0, .ref (X.1 3 j)), (1, .int a1), (2, .int v1)]) hn rfl (by rw [e_v8]; rfl) (by decide) rfl dX3_trainOf_39 ?_
                refine tr_goto hO 42 12 (by decide) dX3_trainOf_42 ?_
                refine tr_sub [1, 2, 3, 0] rfl ?_
                exact ih _ _ h
              · have h := of_t hc h
                refine tr_iload_n hO 37 2 rfl dX3_trainOf_37 ?_
                cases h
                exact tr_iret hO 38 hQ rfl dX3_trainOf_38
        refine tr_sub [1, 2, 3, 0] rfl ?_
        exact L12_T _ _ _ h
  refine tr_sub [1, 2, 0] rfl ?_
  exact L2_T _ _ _ h
set_option maxHeartbeats 4000000 in
set_option maxRecDepth 100000 in
theorem c_X3_add {X : xT} (hX : xOK X) {j : Nat} {a2 : Int32} {a3 : Int32} (hj : j < 11) {μ μ' : mT} {r : Int32} (h : f_X3_add j a2 a3 μ = some (r, μ')) : CMi X yX3_add cX3_add 4 .int 1 26 [.ref (X.1 3 j), .ref (X.1 26 0), .int a2, .int a3] μ r μ' := by
  refine CMi_of hX (by decide +kernel) (lv := [(0, .ref (X.1 3 j)), (1, .ref (X.1 26 0)), (2, .int a2), (3, .int a3)]) (Nat.le_of_ble_eq_true rfl) rfl (fun Γ hO hn hQ => ?_)
  have hO : Ok X RX3 cX3_add 1 26 Γ := hO
  unfold f_X3_add at h
  refine tr_aload_n hO 0 0 rfl dX3_add_0 ?_
  refine tr_get hO 1 (k := 1) (x_vy (by decide) hj) rfl rfl iX3 (by decide) wF_X3_9 rfl rfl dX3_add_1 ?_
  refine tr_aload_n hO 4 0 rfl dX3_add_4 ?_
  refine tr_get hO 5 (k := 0) (x_vy (by decide) hj) rfl rfl iX3 (by decide) wF_X3_21 rfl rfl dX3_add_5 ?_
  refine tr_iload_n hO 8 3 rfl dX3_add_8 ?_
  obtain ⟨hg, h⟩ := of_gd h
  obtain ⟨μ1, e_μ1, h⟩ := of_lt h
  refine tr_iast hO 9 e_μ1 (x_vy (by decide) hj) a_15 hg dX3_add_9 ?_
  refine tr_aload_n hO 10 0 rfl dX3_add_10 ?_
  refine tr_get hO 11 (k := 2) (x_vy (by decide) hj) rfl rfl iX3 (by decide) wF_X3_15 rfl rfl dX3_add_11 ?_
  refine tr_aload_n hO 14 0 rfl dX3_add_14 ?_
  refine tr_get hO 15 (k := 0) (x_vy (by decide) hj) rfl rfl iX3 (by decide) wF_X3_21 rfl rfl dX3_add_15 ?_
  refine tr_iload_n hO 18 2 rfl dX3_add_18 ?_
  obtain ⟨hg, h⟩ := of_gd h
  obtain ⟨μ2, e_μ2, h⟩ := of_lt h
  refine tr_iast hO 19 e_μ2 (x_vy (by decide) hj) a_16 hg dX3_add_19 ?_
  refine tr_aload_n hO 20 1 rfl dX3_add_20 ?_
  refine tr_iconst hO 21 (v := 0) (by decide) dX3_add_21 ?_
  refine tr_aload_n hO 22 0 rfl dX3_add_22 ?_
  refine tr_get hO 23 (k := 3) (x_vy (by decide) hj) rfl rfl iX3 (by decide) wF_X3_18 rfl rfl dX3_add_23 ?_
  refine tr_aload_n hO 26 0 rfl dX3_add_26 ?_
  refine tr_get hO 27 (k := 0) (x_vy (by decide) hj) rfl rfl iX3 (by decide) wF_X3_21 rfl rfl dX3_add_27 ?_
  refine tr_bipush hO 30 (v := 8) (by decide) dX3_add_30 ?_
  refine tr_imul hO 32 dX3_add_32 ?_
  refine tr_iload_n hO 33 2 rfl dX3_add_33 ?_
  obtain ⟨hg, h⟩ := of_gd h
  obtain ⟨μ3, e_μ3, h⟩ := of_lt h
  refine tr_copyi hO 34 e_μ3 wM_X3_25 (x_vy (by decide) hj) (x_v0 (by decide)) a_17 a_26 (cpk_1 hg) (cpk_2 hg) (cpk_3 hg) (cpk_4 hg) (cpk_5 hg) (Nat.le_of_ble_eq_true rfl) (by decide) (by decide +kernel) dX3_add_34 ?_
  refine tr_aload_n hO 37 0 rfl dX3_add_37 ?_
  refine tr_dup hO 38 rfl dX3_add_38 ?_
  refine tr_get hO 39 (k := 0) (x_vy (by decide) hj) rfl rfl iX3 (by decide) wF_X3_21 rfl rfl dX3_add_39 ?_
  refine tr_iconst hO 42 (v := 1) (by decide) dX3_add_42 ?_
  refine tr_iadd hO 43 dX3_add_43 ?_
  obtain ⟨μ4, e_μ4, h⟩ := of_lt h
  refine tr_put hO 44 (k := 0) (ty := .int) e_μ4 (x_vy (by decide) hj) rfl rfl rfl iX3 tyX3 tyX3_ok nmX3 (by decide) wF_X3_21 rfl rfl (by decide +kernel) rfl rfl (Nat.le_of_ble_eq_true rfl) dX3_add_44 ?_
  refine tr_aload_n hO 47 0 rfl dX3_add_47 ?_
  refine tr_get hO 48 (k := 0) (x_vy (by decide) hj) rfl rfl iX3 (by decide) wF_X3_21 rfl rfl dX3_add_48 ?_
  refine tr_iconst hO 51 (v := 1) (by decide) dX3_add_51 ?_
  refine tr_isub hO 52 dX3_add_52 ?_
  cases h
  exact tr_iret hO 53 hQ rfl dX3_add_53
set_option maxHeartbeats 4000000 in
set_option maxRecDepth 100000 in
theorem c_X3_remove {X : xT} (hX : xOK X) {j : Nat} {a1 : Int32} (hj : j < 11) {μ μ' : mT} {r : Int32} (h : f_X3_remove j a1 μ = some (r, μ')) : CMv X yX3_remove cX3_remove 3 1 26 [.ref (X.1 3 j), .int a1] μ μ' := by
  refine CMv_of hX (by decide +kernel) (lv := [(0, .ref (X.1 3 j)), (1, .int a1)]) (Nat.le_of_ble_eq_true rfl) rfl (fun Γ hO hn hQ => ?_)
  have hO : Ok X RX3 cX3_remove 1 26 Γ := hO
  unfold f_X3_remove at h
  refine tr_aload_n hO 0 0 rfl dX3_remove_0 ?_
  refine tr_dup hO 1 rfl dX3_remove_1 ?_
  refine tr_get hO 2 (k := 0) (x_vy (by decide) hj) rfl rfl iX3 (by decide) wF_X3_21 rfl rfl dX3_remove_2 ?_
  refine tr_iconst hO 5 (v := 1) (by decide) dX3_remove_5 ?_
  refine tr_isub hO 6 dX3_remove_6 ?_
  obtain ⟨μ1, e_μ1, h⟩ := of_lt h
  refine tr_put hO 7 (k := 0) (ty := .int) e_μ1 (x_vy (by decide) hj) rfl rfl rfl iX3 tyX3 tyX3_ok nmX3 (by decide) wF_X3_21 rfl rfl (by decide +kernel) rfl rfl (Nat.le_of_ble_eq_true rfl) dX3_remove_7 ?_
  refine tr_iload_n hO 10 1 rfl dX3_remove_10 ?_
  refine tr_istore_n hO 11 (v := a1) rfl (lv' := [(2, .int a1), (0, .ref (X.1 3 j)), (1, .int a1)]) hn rfl (by decide) rfl dX3_remove_11 ?_
  have L12_T : ∀ (n : Nat) (v2 : Int32) (μ3 : mT), f_X3_remove_L12 j n v2 μ3 = some (r, μ') → tj X Γ μ3 12 [(0, .ref (X.1 3 j)), (2, .int v2)] [] := by
    intro n
    induction n with
    | zero =>
      intro v2 μ3 h
      rw [f_X3_remove_L12] at h
      cases h
    | succ n ih =>
      intro v2 μ3 h
      rw [f_X3_remove_L12] at h
      refine tr_iload_n hO 12 1 rfl dX3_remove_12 ?_
      refine tr_aload_n hO 13 0 rfl dX3_remove_13 ?_
      refine tr_get hO 14 (k := 0) (x_vy (by decide) hj) rfl rfl iX3 (by decide) wF_X3_21 rfl rfl dX3_remove_14 ?_
      refine tr_icmp_ge hO 17 77 (by decide) dX3_remove_17 (fun hc => ?_) (fun hc => ?_)
      · have h := of_t hc h
        cases h
        exact tr_vret hO 77 hQ dX3_remove_77
      · have h := of_f hc h
        refine tr_aload_n hO 20 0 rfl dX3_remove_20 ?_
        refine tr_get hO 21 (k := 1) (x_vy (by decide) hj) rfl rfl iX3 (by decide) wF_X3_9 rfl rfl dX3_remove_21 ?_
        refine tr_iload_n hO 24 1 rfl dX3_remove_24 ?_
        refine tr_aload_n hO 25 0 rfl dX3_remove_25 ?_
        refine tr_get hO 26 (k := 1) (x_vy (by decide) hj) rfl rfl iX3 (by decide) wF_X3_9 rfl rfl dX3_remove_26 ?_
        refine tr_iload_n hO 29 1 rfl dX3_remove_29 ?_
        refine tr_iconst hO 30 (v := 1) (by decide) dX3_remove_30 ?_
        refine tr_iadd hO 31 dX3_remove_31 ?_
        obtain ⟨hg, h⟩ := of_gd h
        refine tr_iald hO 32 (x_vy (by decide) hj) a_15 hg dX3_remove_32 ?_
        obtain ⟨hg, h⟩ := of_gd h
        obtain ⟨μ4, e_μ4, h⟩ := of_lt h
        refine tr_iast hO 33 e_μ4 (x_vy (by decide) hj) a_15 hg dX3_remove_33 ?_
        refine tr_aload_n hO 34 0 rfl dX3_remove_34 ?_
        refine tr_get hO 35 (k := 2) (x_vy (by decide) hj) rfl rfl iX3 (by decide) wF_X3_15 rfl rfl dX3_remove_35 ?_
        refine tr_iload_n hO 38 1 rfl dX3_remove_38 ?_
        refine tr_aload_n hO 39 0 rfl dX3_remove_39 ?_
        refine tr_get hO 40 (k := 2) (x_vy (by decide) hj) rfl rfl iX3 (by decide) wF_X3_15 rfl rfl dX3_remove_40 ?_
        refine tr_iload_n hO 43 1 rfl dX3_remove_43 ?_
        refine tr_iconst hO 44 (v := 1) (by decide) dX3_remove_44 ?_
        refine tr_iadd hO 45 dX3_remove_45 ?_
        obtain ⟨hg, h⟩ := of_gd h
        refine tr_iald hO 46 (x_vy (by decide) hj) a_16 hg dX3_remove_46 ?_
        obtain ⟨hg, h⟩ := of_gd h
        obtain ⟨μ5, e_μ5, h⟩ := of_lt h
        refine tr_iast hO 47 e_μ5 (x_vy (by decide) hj) a_16 hg dX3_remove_47 ?_
        refine tr_aload_n hO 48 0 rfl dX3_remove_48 ?_
        refine tr_get hO 49 (k := 3) (x_vy (by decide) hj) rfl rfl iX3 (by decide) wF_X3_18 rfl rfl dX3_remove_49 ?_
        refine tr_iload_n hO 52 1 rfl dX3_remove_52 ?_
        refine tr_iconst hO 53 (v := 1) (by decide) dX3_remove_53 ?_
        refine tr_iadd hO 54 dX3_remove_54 ?_
        refine tr_bipush hO 55 (v := 8) (by decide) dX3_remove_55 ?_
        refine tr_imul hO 57 dX3_remove_57 ?_
        refine tr_aload_n hO 58 0 rfl dX3_remove_58 ?_
        refine tr_get hO 59 (k := 3) (x_vy (by decide) hj) rfl rfl iX3 (by decide) wF_X3_18 rfl rfl dX3_remove_59 ?_
        refine tr_iload_n hO 62 1 rfl dX3_remove_62 ?_
        refine tr_bipush hO 63 (v := 8) (by decide) dX3_remove_63 ?_
        refine tr_imul hO 65 dX3_remove_65 ?_
        refine tr_bipush hO 66 (v := 8) (by decide) dX3_remove_66 ?_
        obtain ⟨hg, h⟩ := of_gd h
        obtain ⟨μ6, e_μ6, h⟩ := of_lt h
        refine tr_copyi hO 68 e_μ6 wM_X3_25 (x_vy (by decide) hj) (x_vy (by decide) hj) a_17 a_17 (cpk_1 hg) (cpk_2 hg) (cpk_3 hg) (cpk_4 hg) (cpk_5 hg) (Nat.le_of_ble_eq_true rfl) (by decide) (by decide +kernel) dX3_remove_68 ?_
        obtain ⟨v7, e_v7, h⟩ := of_lt h
        refine tr_iinc hO 71 (q := 1) (v := v7) (lv' := [(2, .int v7), (0, .ref (X.1 3 j))]) hn rfl (by rw [e_v7]; rfl) (by decide) rfl dX3_remove_71 ?_
        refine tr_goto hO 74 12 (by decide) dX3_remove_74 ?_
        refine tr_sub [1, 0] rfl ?_
        exact ih _ _ h
  refine tr_sub [1, 0] rfl ?_
  exact L12_T _ _ _ h
set_option maxHeartbeats 4000000 in
set_option maxRecDepth 100000 in
theorem c_X5_manyIn {X : xT} (hX : xOK X) {j : Nat} {a1 : Int32} (hj : j < 11) {μ μ' : mT} {r : Int32} (h : f_X5_manyIn j a1 μ = some (r, μ')) : CMi X yX5_manyIn cX5_manyIn 2 .int 0 0 [.ref (X.1 1 j), .int a1] μ r μ' := by
  refine CMi_of hX (by decide +kernel) (lv := [(0, .ref (X.1 1 j)), (1, .int a1)]) (Nat.le_of_ble_eq_true rfl) rfl (fun Γ hO hn hQ => ?_)
  have hO : Ok X RX5 cX5_manyIn 0 0 Γ := hO
  unfold f_X5_manyIn at h
  refine tr_aload_n hO 0 0 rfl dX5_manyIn_0 ?_
  refine tr_get hO 1 (k := 5) (x_vy (by decide) hj) rfl rfl iX5 (by decide) wF_X5_21 rfl rfl dX5_manyIn_1 ?_
  refine tr_iload_n hO 4 1 rfl dX5_manyIn_4 ?_
  obtain ⟨hg, h⟩ := of_gd h
  refine tr_iald hO 5 (x_vy (by decide) hj) a_11 hg dX5_manyIn_5 ?_
  cases h
  exact tr_iret hO 6 hQ rfl dX5_manyIn_6
set_option maxHeartbeats 4000000 in
set_option maxRecDepth 100000 in
theorem c_X5_wagonAt {X : xT} (hX : xOK X) {j : Nat} {a1 : Int32} {a2 : Int32} (hj : j < 11) {μ μ' : mT} {r : Int32} (h : f_X5_wagonAt j a1 a2 μ = some (r, μ')) : CMi X yX5_wagonAt cX5_wagonAt 4 .int 0 0 [.ref (X.1 1 j), .int a1, .int a2] μ r μ' := by
  refine CMi_of hX (by decide +kernel) (lv := [(0, .ref (X.1 1 j)), (1, .int a1), (2, .int a2)]) (Nat.le_of_ble_eq_true rfl) rfl (fun Γ hO hn hQ => ?_)
  have hO : Ok X RX5 cX5_wagonAt 0 0 Γ := hO
  unfold f_X5_wagonAt at h
  refine tr_iload_n hO 0 2 rfl dX5_wagonAt_0 ?_
  refine tr_if_lt hO 1 14 (by decide) dX5_wagonAt_1 (fun hc => ?_) (fun hc => ?_)
  · have h := of_t hc h
    refine tr_bipush hO 14 (v := (-6)) (by decide) dX5_wagonAt_14 ?_
    cases h
    exact tr_iret hO 16 hQ rfl dX5_wagonAt_16
  · have h := of_f hc h
    refine tr_iload_n hO 4 2 rfl dX5_wagonAt_4 ?_
    refine tr_aload_n hO 5 0 rfl dX5_wagonAt_5 ?_
    refine tr_get hO 6 (k := 5) (x_vy (by decide) hj) rfl rfl iX5 (by decide) wF_X5_21 rfl rfl dX5_wagonAt_6 ?_
    refine tr_iload_n hO 9 1 rfl dX5_wagonAt_9 ?_
    obtain ⟨hg, h⟩ := of_gd h
    refine tr_iald hO 10 (x_vy (by decide) hj) a_11 hg dX5_wagonAt_10 ?_
    refine tr_icmp_lt hO 11 17 (by decide) dX5_wagonAt_11 (fun hc => ?_) (fun hc => ?_)
    · have h := of_t hc h
      refine tr_iload_n hO 17 1 rfl dX5_wagonAt_17 ?_
      refine tr_bipush hO 18 (v := 8) (by decide) dX5_wagonAt_18 ?_
      obtain ⟨J1, e_J1, h⟩ := of_lt h
      have J1_T : ∀ (v2 : Int32) (μ3 : mT), J1 v2 μ3 = some (r, μ') → tj X Γ μ3 37 [(0, .ref (X.1 1 j)), (1, .int a1)] [.int v2] := by
        intro v2 μ3 h
        rw [e_J1] at h
        refine tr_istore_n hO 37 (v := v2) rfl (lv' := [(3, .int v2), (0, .ref (X.1 1 j)), (1, .int a1)]) hn rfl (by decide) rfl dX5_wagonAt_37 ?_
        refine tr_aload_n hO 38 1 rfl dX5_wagonAt_38 ?_
        refine tr_get hO 39 (k := 6) (x_vy (by decide) hj) rfl rfl iX5 (by decide) wF_X5_24 rfl rfl dX5_wagonAt_39 ?_
        refine tr_iload_n hO 42 2 rfl dX5_wagonAt_42 ?_
        refine tr_bipush hO 43 (v := 30) (by decide) dX5_wagonAt_43 ?_
        refine tr_imul hO 45 dX5_wagonAt_45 ?_
        refine tr_iload_n hO 46 0 rfl dX5_wagonAt_46 ?_
        refine tr_iadd hO 47 dX5_wagonAt_47 ?_
        obtain ⟨hg, h⟩ := of_gd h
        refine tr_iald hO 48 (x_vy (by decide) hj) a_12 hg dX5_wagonAt_48 ?_
        cases h
        exact tr_iret hO 49 hQ rfl dX5_wagonAt_49
      refine tr_icmp_ne hO 20 27 (by decide) dX5_wagonAt_20 (fun hc => ?_) (fun hc => ?_)
      · have h := of_f hc h
        refine tr_aload_n hO 27 0 rfl dX5_wagonAt_27 ?_
        refine tr_get hO 28 (k := 5) (x_vy (by decide) hj) rfl rfl iX5 (by decide) wF_X5_21 rfl rfl dX5_wagonAt_28 ?_
        refine tr_iload_n hO 31 1 rfl dX5_wagonAt_31 ?_
        obtain ⟨hg, h⟩ := of_gd h
        refine tr_iald hO 32 (x_vy (by decide) hj) a_11 hg dX5_wagonAt_32 ?_
        refine tr_iconst hO 33 (v := 1) (by decide) dX5_wagonAt_33 ?_
        refine tr_isub hO 34 dX5_wagonAt_34 ?_
        refine tr_iload_n hO 35 2 rfl dX5_wagonAt_35 ?_
        refine tr_isub hO 36 dX5_wagonAt_36 ?_
        refine tr_sub [0, 1] rfl ?_
        exact J1_T _ _ h
      · have h := of_t hc h
        refine tr_iload_n hO 23 2 rfl dX5_wagonAt_23 ?_
        refine tr_goto hO 24 37 (by decide) dX5_wagonAt_24 ?_
        refine tr_sub [0, 1] rfl ?_
        exact J1_T _ _ h
    · have h := of_f hc h
      refine tr_bipush hO 14 (v := (-6)) (by decide) dX5_wagonAt_14 ?_
      cases h
      exact tr_iret hO 16 hQ rfl dX5_wagonAt_16
set_option maxHeartbeats 4000000 in
set_option maxRecDepth 100000 in
theorem c_X6_manyAlike {X : xT} (hX : xOK X) {j : Nat} {a1 : Int32} (hj : j < 11) {μ μ' : mT} {r : Int32} (h : f_X6_manyAlike j a1 μ = some (r, μ')) : CMi X yX6_manyAlike cX6_manyAlike 4 .int 2 44 [.ref (X.1 0 j), .int a1] μ r μ' := by
  refine CMi_of hX (by decide +kernel) (lv := [(0, .ref (X.1 0 j)), (1, .int a1)]) (Nat.le_of_ble_eq_true rfl) rfl (fun Γ hO hn hQ => ?_)
  have hO : Ok X RX6 cX6_manyAlike 2 44 Γ := hO
  unfold f_X6_manyAlike at h
  refine tr_aload_n hO 0 0 rfl dX6_manyAlike_0 ?_
  refine tr_get hO 1 (k := 11) (x_vy (by decide) hj) rfl rfl iX6 (by decide) wF_X6_35 rfl rfl dX6_manyAlike_1 ?_
  refine tr_bipush hO 4 (v := 8) (by decide) dX6_manyAlike_4 ?_
  obtain ⟨v1, μ2, hcall, h⟩ := of_bd h
  refine tr_callI hO 6 (na := 1) (As := [.int 8]) (st := []) (c_X5_manyIn hX hj hcall) rfl (x_vy (by decide) hj) rfl rfl wM_X6_121 wI_X5_manyIn wS_X5_manyIn wN_X5 wC_X5_manyIn (by decide +kernel) rfl (by decide) (by decide) (Nat.le_of_ble_eq_true rfl) dX6_manyAlike_6 ?_
  refine tr_aload_n hO 9 0 rfl dX6_manyAlike_9 ?_
  refine tr_get hO 10 (k := 13) (x_vy (by decide) hj) rfl rfl iX6 (by decide) wF_X6_49 rfl rfl dX6_manyAlike_10 ?_
  refine tr_iload_n hO 13 1 rfl dX6_manyAlike_13 ?_
  obtain ⟨v3, μ4, hcall, h⟩ := of_bd h
  refine tr_callI hO 14 (na := 1) (As := [.int a1]) (st := [.int v1]) (c_X3_sizeOf hX hj hcall) rfl (x_vy (by decide) hj) rfl rfl wM_X6_194 wI_X3_sizeOf wS_X3_sizeOf wN_X3 wC_X3_sizeOf (by decide +kernel) rfl (by decide) (by decide) (Nat.le_of_ble_eq_true rfl) dX6_manyAlike_14 ?_
  refine tr_min hO 17 wM_X6_200 (Nat.le_of_ble_eq_true rfl) (by decide) (by decide) dX6_manyAlike_17 ?_
  obtain ⟨v5, e_v5, h⟩ := of_lt h
  refine tr_istore_n hO 20 (v := v5) e_v5 (lv' := [(2, .int v5), (0, .ref (X.1 0 j)), (1, .int a1)]) hn rfl (by decide) rfl dX6_manyAlike_20 ?_
  refine tr_iconst hO 21 (v := 0) (by decide) dX6_manyAlike_21 ?_
  refine tr_istore_n hO 22 (v := 0) rfl (lv' := [(3, .int 0), (2, .int v5), (0, .ref (X.1 0 j)), (1, .int a1)]) hn rfl (by decide) rfl dX6_manyAlike_22 ?_
  have L23_T : ∀ (n : Nat) (v6 : Int32) (μ7 : mT), f_X6_manyAlike_L23 j a1 v5 n v6 μ7 = some (r, μ') → tj X Γ μ7 23 [(0, .ref (X.1 0 j)), (1, .int a1), (2, .int v5), (3, .int v6)] [] := by
    intro n
    induction n with
    | zero =>
      intro v6 μ7 h
      rw [f_X6_manyAlike_L23] at h
      cases h
    | succ n ih =>
      intro v6 μ7 h
      rw [f_X6_manyAlike_L23] at h
      refine tr_iload_n hO 23 3 rfl dX6_manyAlike_23 ?_
      refine tr_iload_n hO 24 2 rfl dX6_manyAlike_24 ?_
      refine tr_icmp_ge hO 25 58 (by decide) dX6_manyAlike_25 (fun hc => ?_) (fun hc => ?_)
      · have h := of_t hc h
        refine tr_iload_n hO 58 2 rfl dX6_manyAlike_58 ?_
        cases h
        exact tr_iret hO 59 hQ rfl dX6_manyAlike_59
      · have h := of_f hc h
        refine tr_aload_n hO 28 0 rfl dX6_manyAlike_28 ?_
        refine tr_get hO 29 (k := 11) (x_vy (by decide) hj) rfl rfl iX6 (by decide) wF_X6_35 rfl rfl dX6_manyAlike_29 ?_
        refine tr_bipush hO 32 (v := 8) (by decide) dX6_manyAlike_32 ?_
        refine tr_iload_n hO 34 3 rfl dX6_manyAlike_34 ?_
        obtain ⟨v8, μ9, hcall, h⟩ := of_bd h
        refine tr_callI hO 35 (na := 2) (As := [.int 8, .int v6]) (st := []) (c_X5_wagonAt hX hj hcall) rfl (x_vy (by decide) hj) rfl rfl wM_X6_203 wI_X5_wagonAt wS_X5_wagonAt wN_X5 wC_X5_wagonAt (by decide +kernel) rfl (by decide) (by decide) (Nat.le_of_ble_eq_true rfl) dX6_manyAlike_35 ?_
        refine tr_aload_n hO 38 0 rfl dX6_manyAlike_38 ?_
        refine tr_get hO 39 (k := 13) (x_vy (by decide) hj) rfl rfl iX6 (by decide) wF_X6_49 rfl rfl dX6_manyAlike_39 ?_
        refine tr_iload_n hO 42 1 rfl dX6_manyAlike_42 ?_
        refine tr_iload_n hO 43 3 rfl dX6_manyAlike_43 ?_
        obtain ⟨v10, μ11, hcall, h⟩ := of_bd h
        refine tr_callI hO 44 (na := 2) (As := [.int a1, .int v6]) (st := [.int v8]) (c_X3_wagonOf hX hj hcall) rfl (x_vy (by decide) hj) rfl rfl wM_X6_206 wI_X3_wagonOf wS_X3_wagonOf wN_X3 wC_X3_wagonOf (by decide +kernel) rfl (by decide) (by decide) (Nat.le_of_ble_eq_true rfl) dX6_manyAlike_44 ?_
        refine tr_icmp_eq hO 47 52 (by decide) dX6_manyAlike_47 (fun hc => ?_) (fun hc => ?_)
        · have h := of_t hc h
          obtain ⟨v12, e_v12, h⟩ := of_lt h
          refine tr_iinc hO 52 (q := 3) (v := v12) (lv' := [(3, .int v12), (0, .ref (X.1 0 j)), (1, .int a1), (2, .int v5)]) hn rfl (by rw [e_v12]; rfl) (by decide) rfl dX6_manyAlike_52 ?_
          refine tr_goto hO 55 23 (by decide) dX6_manyAlike_55 ?_
          refine tr_sub [1, 2, 3, 0] rfl ?_
          exact ih _ _ h
        · have h := of_f hc h
          refine tr_iload_n hO 50 3 rfl dX6_manyAlike_50 ?_
          cases h
          exact tr_iret hO 51 hQ rfl dX6_manyAlike_51
  refine tr_sub [2, 3, 1, 0] rfl ?_
  exact L23_T _ _ _ h
set_option maxHeartbeats 4000000 in
set_option maxRecDepth 100000 in
theorem c_X5_placeIn {X : xT} (hX : xOK X) {j : Nat} {a1 : Int32} {a2 : Int32} (hj : j < 11) {μ μ' : mT} {r : Int32} (h : f_X5_placeIn j a1 a2 μ = some (r, μ')) : CMi X yX5_placeIn cX5_placeIn 5 .int 0 0 [.ref (X.1 1 j), .int a1, .int a2] μ r μ' := by
  refine CMi_of hX (by decide +kernel) (lv := [(0, .ref (X.1 1 j)), (1, .int a1), (2, .int a2)]) (Nat.le_of_ble_eq_true rfl) rfl (fun Γ hO hn hQ => ?_)
  have hO : Ok X RX5 cX5_placeIn 0 0 Γ := hO
  unfold f_X5_placeIn at h
  refine tr_aload_n hO 0 0 rfl dX5_placeIn_0 ?_
  refine tr_get hO 1 (k := 5) (x_vy (by decide) hj) rfl rfl iX5 (by decide) wF_X5_21 rfl rfl dX5_placeIn_1 ?_
  refine tr_iload_n hO 4 1 rfl dX5_placeIn_4 ?_
  obtain ⟨hg, h⟩ := of_gd h
  refine tr_iald hO 5 (x_vy (by decide) hj) a_11 hg dX5_placeIn_5 ?_
  obtain ⟨v1, e_v1, h⟩ := of_lt h
  refine tr_istore_n hO 6 (v := v1) e_v1 (lv' := [(3, .int v1), (0, .ref (X.1 1 j)), (1, .int a1), (2, .int a2)]) hn rfl (by decide) rfl dX5_placeIn_6 ?_
  refine tr_iconst hO 7 (v := 0) (by decide) dX5_placeIn_7 ?_
  refine tr_istore hO 8 (v := 0) rfl (lv' := [(4, .int 0), (3, .int v1), (0, .ref (X.1 1 j)), (1, .int a1), (2, .int a2)]) hn (by decide) rfl dX5_placeIn_8 ?_
  obtain ⟨K4, e_K4, h⟩ := of_lt h
  have K4_T : ∀ (v5 : Int32) (μ6 : mT), K4 v5 μ6 = some (r, μ') → tj X Γ μ6 32 [(1, .int a1), (3, .int v1), (4, .int v5)] [] := by
    intro v5 μ6 h
    rw [e_K4] at h
    refine tr_iload_n hO 32 0 rfl dX5_placeIn_32 ?_
    refine tr_bipush hO 33 (v := 8) (by decide) dX5_placeIn_33 ?_
    refine tr_icmp_ne hO 35 43 (by decide) dX5_placeIn_35 (fun hc => ?_) (fun hc => ?_)
    · have h := of_f hc h
      refine tr_iload_n hO 43 1 rfl dX5_placeIn_43 ?_
      refine tr_iconst hO 44 (v := 1) (by decide) dX5_placeIn_44 ?_
      refine tr_isub hO 45 dX5_placeIn_45 ?_
      refine tr_iload hO 46 2 rfl dX5_placeIn_46 ?_
      refine tr_isub hO 48 dX5_placeIn_48 ?_
      cases h
      exact tr_iret hO 49 hQ rfl dX5_placeIn_49
    · have h := of_t hc h
      refine tr_iload hO 38 2 rfl dX5_placeIn_38 ?_
      refine tr_goto hO 40 49 (by decide) dX5_placeIn_40 ?_
      cases h
      exact tr_iret hO 49 hQ rfl dX5_placeIn_49
  have L10_T : ∀ (n : Nat) (v2 : Int32) (μ3 : mT), f_X5_placeIn_L10 j a1 a2 v1 K4 n v2 μ3 = some (r, μ') → tj X Γ μ3 10 [(0, .ref (X.1 1 j)), (1, .int a1), (2, .int a2), (3, .int v1), (4, .int v2)] [] := by
    intro n
    induction n with
    | zero =>
      intro v2 μ3 h
      rw [f_X5_placeIn_L10] at h
      cases h
    | succ n ih =>
      intro v2 μ3 h
      rw [f_X5_placeIn_L10] at h
      refine tr_iload hO 10 4 rfl dX5_placeIn_10 ?_
      refine tr_iload_n hO 12 3 rfl dX5_placeIn_12 ?_
      refine tr_icmp_ge hO 13 56 (by decide) dX5_placeIn_13 (fun hc => ?_) (fun hc => ?_)
      · have h := of_t hc h
        refine tr_bipush hO 56 (v := (-6)) (by decide) dX5_placeIn_56 ?_
        cases h
        exact tr_iret hO 58 hQ rfl dX5_placeIn_58
      · have h := of_f hc h
        refine tr_aload_n hO 16 0 rfl dX5_placeIn_16 ?_
        refine tr_get hO 17 (k := 6) (x_vy (by decide) hj) rfl rfl iX5 (by decide) wF_X5_24 rfl rfl dX5_placeIn_17 ?_
        refine tr_iload_n hO 20 1 rfl dX5_placeIn_20 ?_
        refine tr_bipush hO 21 (v := 30) (by decide) dX5_placeIn_21 ?_
        refine tr_imul hO 23 dX5_placeIn_23 ?_
        refine tr_iload hO 24 4 rfl dX5_placeIn_24 ?_
        refine tr_iadd hO 26 dX5_placeIn_26 ?_
        obtain ⟨hg, h⟩ := of_gd h
        refine tr_iald hO 27 (x_vy (by decide) hj) a_12 hg dX5_placeIn_27 ?_
        refine tr_iload_n hO 28 2 rfl dX5_placeIn_28 ?_
        refine tr_icmp_ne hO 29 50 (by decide) dX5_placeIn_29 (fun hc => ?_) (fun hc => ?_)
        · have h := of_f hc h
          obtain ⟨v7, e_v7, h⟩ := of_lt h
          refine tr_iinc hO 50 (q := 4) (v := v7) (lv' := [(4, .int v7), (0, .ref (X.1 1 j)), (1, .int a1), (2, .int a2), (3, .int v1)]) hn rfl (by rw [e_v7]; rfl) (by decide) rfl dX5_placeIn_50 ?_
          refine tr_goto hO 53 10 (by decide) dX5_placeIn_53 ?_
          refine tr_sub [1, 2, 3, 4, 0] rfl ?_
          exact ih _ _ h
        · have h := of_t hc h
          refine tr_sub [1, 3, 4] rfl ?_
          exact K4_T _ _ h
  refine tr_sub [2, 3, 4, 1, 0] rfl ?_
  exact L10_T _ _ _ h
set_option maxHeartbeats 4000000 in
set_option maxRecDepth 100000 in
theorem c_X5_rowOf {X : xT} (hX : xOK X) {j : Nat} {a1 : Int32} (hj : j < 11) {μ μ' : mT} {r : Int32} (h : f_X5_rowOf j a1 μ = some (r, μ')) : CMi X yX5_rowOf cX5_rowOf 3 .int 1 24 [.ref (X.1 1 j), .int a1] μ r μ' := by
  refine CMi_of hX (by decide +kernel) (lv := [(0, .ref (X.1 1 j)), (1, .int a1)]) (Nat.le_of_ble_eq_true rfl) rfl (fun Γ hO hn hQ => ?_)
  have hO : Ok X RX5 cX5_rowOf 1 24 Γ := hO
  unfold f_X5_rowOf at h
  refine tr_iconst hO 0 (v := 0) (by decide) dX5_rowOf_0 ?_
  refine tr_istore_n hO 1 (v := 0) rfl (lv' := [(2, .int 0), (0, .ref (X.1 1 j)), (1, .int a1)]) hn rfl (by decide) rfl dX5_rowOf_1 ?_
  have L2_T : ∀ (n : Nat) (v1 : Int32) (μ2 : mT), f_X5_rowOf_L2 j a1 n v1 μ2 = some (r, μ') → tj X Γ μ2 2 [(0, .ref (X.1 1 j)), (1, .int a1), (2, .int v1)] [] := by
    intro n
    induction n with
    | zero =>
      intro v1 μ2 h
      rw [f_X5_rowOf_L2] at h
      cases h
    | succ n ih =>
      intro v1 μ2 h
      rw [f_X5_rowOf_L2] at h
      refine tr_iload_n hO 2 2 rfl dX5_rowOf_2 ?_
      refine tr_bipush hO 3 (v := 9) (by decide) dX5_rowOf_3 ?_
      refine tr_icmp_ge hO 5 27 (by decide) dX5_rowOf_5 (fun hc => ?_) (fun hc => ?_)
      · have h := of_t hc h
        refine tr_bipush hO 27 (v := (-6)) (by decide) dX5_rowOf_27 ?_
        cases h
        exact tr_iret hO 29 hQ rfl dX5_rowOf_29
      · have h := of_f hc h
        refine tr_aload_n hO 8 0 rfl dX5_rowOf_8 ?_
        refine tr_iload_n hO 9 2 rfl dX5_rowOf_9 ?_
        refine tr_iload_n hO 10 1 rfl dX5_rowOf_10 ?_
        obtain ⟨v3, μ4, hcall, h⟩ := of_bd h
        refine tr_callI hO 11 (na := 2) (As := [.int v1, .int a1]) (st := []) (c_X5_placeIn hX hj hcall) rfl (x_vy (by decide) hj) rfl rfl wM_X5_40 wI_X5_placeIn wS_X5_placeIn wN_X5 wC_X5_placeIn (by decide +kernel) rfl (by decide) (by decide) (Nat.le_of_ble_eq_true rfl) dX5_rowOf_11 ?_
        refine tr_bipush hO 14 (v := (-6)) (by decide) dX5_rowOf_14 ?_
        refine tr_icmp_eq hO 16 21 (by decide) dX5_rowOf_16 (fun hc => ?_) (fun hc => ?_)
        · have h := of_t hc h
          obtain ⟨v5, e_v5, h⟩ := of_lt h
          refine tr_iinc hO 21 (q := 2) (v := v5) (lv' := [(2, .int v5), (0, .ref (X.1 1 j)), (1, .int a1)]) hn rfl (by rw [e_v5]; rfl) (by decide) rfl dX5_rowOf_21 ?_
          refine tr_goto hO 24 2 (by decide) dX5_rowOf_24 ?_
          refine tr_sub [1, 2, 0] rfl ?_
          exact ih _ _ h
        · have h := of_f hc h
          refine tr_iload_n hO 19 2 rfl dX5_rowOf_19 ?_
          cases h
          exact tr_iret hO 20 hQ rfl dX5_rowOf_20
  refine tr_sub [1, 2, 0] rfl ?_
  exact L2_T _ _ _ h
set_option maxHeartbeats 4000000 in
set_option maxRecDepth 100000 in
theorem c_X4_trackOfNext {X : xT} (hX : xOK X) {a1 : Int32} {a2 : Int32}  {μ μ' : mT} {r : Int32} (h : f_X4_trackOfNext a1 a2 μ = some (r, μ')) : CMi X yX4_trackOfNext cX4_trackOfNext 4 .int 2 46 [.ref (X.1 20 0), .int a1, .int a2] μ r μ' := by
  refine CMi_of hX (by decide +kernel) (lv := [(0, .ref (X.1 20 0)), (1, .int a1), (2, .int a2)]) (Nat.le_of_ble_eq_true rfl) rfl (fun Γ hO hn hQ => ?_)
  have hO : Ok X RX4 cX4_trackOfNext 2 46 Γ := hO
  unfold f_X4_trackOfNext at h
  refine tr_aload_n hO 0 0 rfl dX4_trackOfNext_0 ?_
  refine tr_get hO 1 (k := 0) (x_v0 (by decide)) rfl rfl iX4 (by decide) wF_X4_12 rfl rfl dX4_trackOfNext_1 ?_
  refine tr_getN hO 4 (k := 11) (x_vy (by decide) (by decide)) rfl rfl iX6 (by decide) (host := RX7) (by decide +kernel) rfl rfl dX4_trackOfNext_4 ?_
  refine tr_aload_n hO 7 0 rfl dX4_trackOfNext_7 ?_
  refine tr_get hO 8 (k := 0) (x_v0 (by decide)) rfl rfl iX4 (by decide) wF_X4_12 rfl rfl dX4_trackOfNext_8 ?_
  refine tr_getN hO 11 (k := 13) (x_vy (by decide) (by decide)) rfl rfl iX6 (by decide) (host := RX7) (by decide +kernel) rfl rfl dX4_trackOfNext_11 ?_
  refine tr_iload_n hO 14 1 rfl dX4_trackOfNext_14 ?_
  refine tr_iload_n hO 15 2 rfl dX4_trackOfNext_15 ?_
  obtain ⟨v1, μ2, hcall, h⟩ := of_bd h
  refine tr_callI hO 16 (na := 2) (As := [.int a1, .int a2]) (st := [.ref (X.1 1 1)]) (c_X3_wagonOf hX (by decide) hcall) rfl (x_vy (by decide) (by decide)) rfl rfl wM_X4_55 wI_X3_wagonOf wS_X3_wagonOf wN_X3 wC_X3_wagonOf (by decide +kernel) rfl (by decide) (by decide) (Nat.le_of_ble_eq_true rfl) dX4_trackOfNext_16 ?_
  obtain ⟨v3, μ4, hcall, h⟩ := of_bd h
  refine tr_callI hO 19 (na := 1) (As := [.int v1]) (st := []) (c_X5_rowOf hX (by decide) hcall) rfl (x_vy (by decide) (by decide)) rfl rfl wM_X4_58 wI_X5_rowOf wS_X5_rowOf wN_X5 wC_X5_rowOf (by decide +kernel) rfl (by decide) (by decide) (Nat.le_of_ble_eq_true rfl) dX4_trackOfNext_19 ?_
  refine tr_istore_n hO 22 (v := v3) rfl (lv' := [(3, .int v3), (0, .ref (X.1 20 0)), (1, .int a1), (2, .int a2)]) hn rfl (by decide) rfl dX4_trackOfNext_22 ?_
  refine tr_iload_n hO 23 0 rfl dX4_trackOfNext_23 ?_
  refine tr_bipush hO 24 (v := 8) (by decide) dX4_trackOfNext_24 ?_
  refine tr_icmp_ne hO 26 34 (by decide) dX4_trackOfNext_26 (fun hc => ?_) (fun hc => ?_)
  · have h := of_f hc h
    refine tr_iload_n hO 34 0 rfl dX4_trackOfNext_34 ?_
    cases h
    exact tr_iret hO 35 hQ rfl dX4_trackOfNext_35
  · have h := of_t hc h
    refine tr_bipush hO 29 (v := (-6)) (by decide) dX4_trackOfNext_29 ?_
    refine tr_goto hO 31 35 (by decide) dX4_trackOfNext_31 ?_
    cases h
    exact tr_iret hO 35 hQ rfl dX4_trackOfNext_35
set_option maxHeartbeats 4000000 in
set_option maxRecDepth 100000 in
theorem c_X4_manyNext {X : xT} (hX : xOK X) {a1 : Int32} {a2 : Int32} {a3 : Int32}  {μ μ' : mT} {r : Int32} (h : f_X4_manyNext a1 a2 a3 μ = some (r, μ')) : CMi X yX4_manyNext cX4_manyNext 6 .int 2 44 [.ref (X.1 20 0), .int a1, .int a2, .int a3] μ r μ' := by
  refine CMi_of hX (by decide +kernel) (lv := [(0, .ref (X.1 20 0)), (1, .int a1), (2, .int a2), (3, .int a3)]) (Nat.le_of_ble_eq_true rfl) rfl (fun Γ hO hn hQ => ?_)
  have hO : Ok X RX4 cX4_manyNext 2 44 Γ := hO
  unfold f_X4_manyNext at h
  refine tr_aload_n hO 0 0 rfl dX4_manyNext_0 ?_
  refine tr_get hO 1 (k := 0) (x_v0 (by decide)) rfl rfl iX4 (by decide) wF_X4_12 rfl rfl dX4_manyNext_1 ?_
  refine tr_getN hO 4 (k := 11) (x_vy (by decide) (by decide)) rfl rfl iX6 (by decide) (host := RX7) (by decide +kernel) rfl rfl dX4_manyNext_4 ?_
  refine tr_iload_n hO 7 3 rfl dX4_manyNext_7 ?_
  obtain ⟨v1, μ2, hcall, h⟩ := of_bd h
  refine tr_callI hO 8 (na := 1) (As := [.int a3]) (st := []) (c_X5_manyIn hX (by decide) hcall) rfl (x_vy (by decide) (by decide)) rfl rfl wM_X4_30 wI_X5_manyIn wS_X5_manyIn wN_X5 wC_X5_manyIn (by decide +kernel) rfl (by decide) (by decide) (Nat.le_of_ble_eq_true rfl) dX4_manyNext_8 ?_
  refine tr_aload_n hO 11 0 rfl dX4_manyNext_11 ?_
  refine tr_get hO 12 (k := 0) (x_v0 (by decide)) rfl rfl iX4 (by decide) wF_X4_12 rfl rfl dX4_manyNext_12 ?_
  refine tr_getN hO 15 (k := 13) (x_vy (by decide) (by decide)) rfl rfl iX6 (by decide) (host := RX7) (by decide +kernel) rfl rfl dX4_manyNext_15 ?_
  refine tr_iload_n hO 18 1 rfl dX4_manyNext_18 ?_
  obtain ⟨v3, μ4, hcall, h⟩ := of_bd h
  refine tr_callI hO 19 (na := 1) (As := [.int a1]) (st := [.int v1]) (c_X3_sizeOf hX (by decide) hcall) rfl (x_vy (by decide) (by decide)) rfl rfl wM_X4_39 wI_X3_sizeOf wS_X3_sizeOf wN_X3 wC_X3_sizeOf (by decide +kernel) rfl (by decide) (by decide) (Nat.le_of_ble_eq_true rfl) dX4_manyNext_19 ?_
  refine tr_iload_n hO 22 2 rfl dX4_manyNext_22 ?_
  refine tr_isub hO 23 dX4_manyNext_23 ?_
  refine tr_min hO 24 wM_X4_61 (Nat.le_of_ble_eq_true rfl) (by decide) (by decide) dX4_manyNext_24 ?_
  obtain ⟨v5, e_v5, h⟩ := of_lt h
  refine tr_istore hO 27 (v := v5) e_v5 (lv' := [(4, .int v5), (0, .ref (X.1 20 0)), (1, .int a1), (2, .int a2), (3, .int a3)]) hn (by decide) rfl dX4_manyNext_27 ?_
  refine tr_iconst hO 29 (v := 0) (by decide) dX4_manyNext_29 ?_
  refine tr_istore hO 30 (v := 0) rfl (lv' := [(5, .int 0), (4, .int v5), (0, .ref (X.1 20 0)), (1, .int a1), (2, .int a2), (3, .int a3)]) hn (by decide) rfl dX4_manyNext_30 ?_
  have L32_T : ∀ (n : Nat) (v6 : Int32) (μ7 : mT), f_X4_manyNext_L32 a1 a2 a3 v5 n v6 μ7 = some (r, μ') → tj X Γ μ7 32 [(0, .ref (X.1 20 0)), (1, .int a1), (2, .int a2), (3, .int a3), (4, .int v5), (5, .int v6)] [] := by
    intro n
    induction n with
    | zero =>
      intro v6 μ7 h
      rw [f_X4_manyNext_L32] at h
      cases h
    | succ n ih =>
      intro v6 μ7 h
      rw [f_X4_manyNext_L32] at h
      refine tr_iload hO 32 5 rfl dX4_manyNext_32 ?_
      refine tr_iload hO 34 4 rfl dX4_manyNext_34 ?_
      refine tr_icmp_ge hO 36 79 (by decide) dX4_manyNext_36 (fun hc => ?_) (fun hc => ?_)
      · have h := of_t hc h
        refine tr_iload hO 79 4 rfl dX4_manyNext_79 ?_
        cases h
        exact tr_iret hO 81 hQ rfl dX4_manyNext_81
      · have h := of_f hc h
        refine tr_aload_n hO 39 0 rfl dX4_manyNext_39 ?_
        refine tr_get hO 40 (k := 0) (x_v0 (by decide)) rfl rfl iX4 (by decide) wF_X4_12 rfl rfl dX4_manyNext_40 ?_
        refine tr_getN hO 43 (k := 11) (x_vy (by decide) (by decide)) rfl rfl iX6 (by decide) (host := RX7) (by decide +kernel) rfl rfl dX4_manyNext_43 ?_
        refine tr_iload_n hO 46 3 rfl dX4_manyNext_46 ?_
        refine tr_iload hO 47 5 rfl dX4_manyNext_47 ?_
        obtain ⟨v8, μ9, hcall, h⟩ := of_bd h
        refine tr_callI hO 49 (na := 2) (As := [.int a3, .int v6]) (st := []) (c_X5_wagonAt hX (by decide) hcall) rfl (x_vy (by decide) (by decide)) rfl rfl wM_X4_66 wI_X5_wagonAt wS_X5_wagonAt wN_X5 wC_X5_wagonAt (by decide +kernel) rfl (by decide) (by decide) (Nat.le_of_ble_eq_true rfl) dX4_manyNext_49 ?_
        refine tr_aload_n hO 52 0 rfl dX4_manyNext_52 ?_
        refine tr_get hO 53 (k := 0) (x_v0 (by decide)) rfl rfl iX4 (by decide) wF_X4_12 rfl rfl dX4_manyNext_53 ?_
        refine tr_getN hO 56 (k := 13) (x_vy (by decide) (by decide)) rfl rfl iX6 (by decide) (host := RX7) (by decide +kernel) rfl rfl dX4_manyNext_56 ?_
        refine tr_iload_n hO 59 1 rfl dX4_manyNext_59 ?_
        refine tr_iload_n hO 60 2 rfl dX4_manyNext_60 ?_
        refine tr_iload hO 61 5 rfl dX4_manyNext_61 ?_
        refine tr_iadd hO 63 dX4_manyNext_63 ?_
        obtain ⟨v10, μ11, hcall, h⟩ := of_bd h
        refine tr_callI hO 64 (na := 2) (As := [.int a1, .int (a2 + v6)]) (st := [.int v8]) (c_X3_wagonOf hX (by decide) hcall) rfl (x_vy (by decide) (by decide)) rfl rfl wM_X4_55 wI_X3_wagonOf wS_X3_wagonOf wN_X3 wC_X3_wagonOf (by decide +kernel) rfl (by decide) (by decide) (Nat.le_of_ble_eq_true rfl) dX4_manyNext_64 ?_
        refine tr_icmp_eq hO 67 73 (by decide) dX4_manyNext_67 (fun hc => ?_) (fun hc => ?_)
        · have h := of_t hc h
          obtain ⟨v12, e_v12, h⟩ := of_lt h
          refine tr_iinc hO 73 (q := 5) (v := v12) (lv' := [(5, .int v12), (0, .ref (X.1 20 0)), (1, .int a1), (2, .int a2), (3, .int a3), (4, .int v5)]) hn rfl (by rw [e_v12]; rfl) (by decide) rfl dX4_manyNext_73 ?_
          refine tr_goto hO 76 32 (by decide) dX4_manyNext_76 ?_
          refine tr_sub [1, 2, 3, 4, 5, 0] rfl ?_
          exact ih _ _ h
        · have h := of_f hc h
          refine tr_iload hO 70 5 rfl dX4_manyNext_70 ?_
          cases h
          exact tr_iret hO 72 hQ rfl dX4_manyNext_72
  refine tr_sub [2, 3, 4, 5, 1, 0] rfl ?_
  exact L32_T _ _ _ h
set_option maxHeartbeats 4000000 in
set_option maxRecDepth 100000 in
theorem c_X5_shift {X : xT} (hX : xOK X) {j : Nat} {a1 : Int32} {a2 : Int32} {a3 : Int32} (hj : j < 11) {μ μ' : mT} {r : Int32} (h : f_X5_shift j a1 a2 a3 μ = some (r, μ')) : CMv X yX5_shift cX5_shift 6 1 21 [.ref (X.1 1 j), .int a1, .int a2, .int a3] μ μ' := by
  refine CMv_of hX (by decide +kernel) (lv := [(0, .ref (X.1 1 j)), (1, .int a1), (2, .int a2), (3, .int a3)]) (Nat.le_of_ble_eq_true rfl) rfl (fun Γ hO hn hQ => ?_)
  have hO : Ok X RX5 cX5_shift 1 21 Γ := hO
  unfold f_X5_shift at h
  refine tr_iload_n hO 0 3 rfl dX5_shift_0 ?_
  refine tr_aload_n hO 1 0 rfl dX5_shift_1 ?_
  refine tr_get hO 2 (k := 5) (x_vy (by decide) hj) rfl rfl iX5 (by decide) wF_X5_21 rfl rfl dX5_shift_2 ?_
  refine tr_iload_n hO 5 1 rfl dX5_shift_5 ?_
  obtain ⟨hg, h⟩ := of_gd h
  refine tr_iald hO 6 (x_vy (by decide) hj) a_11 hg dX5_shift_6 ?_
  refine tr_min hO 7 wM_X5_44 (Nat.le_of_ble_eq_true rfl) (by decide) (by decide) dX5_shift_7 ?_
  obtain ⟨v1, e_v1, h⟩ := of_lt h
  refine tr_istore hO 10 (v := v1) e_v1 (lv' := [(4, .int v1), (0, .ref (X.1 1 j)), (1, .int a1), (2, .int a2), (3, .int a3)]) hn (by decide) rfl dX5_shift_10 ?_
  refine tr_iconst hO 12 (v := 0) (by decide) dX5_shift_12 ?_
  refine tr_istore hO 13 (v := 0) rfl (lv' := [(5, .int 0), (4, .int v1), (0, .ref (X.1 1 j)), (1, .int a1), (2, .int a2), (3, .int a3)]) hn (by decide) rfl dX5_shift_13 ?_
  have L15_T : ∀ (n : Nat) (v2 : Int32) (μ3 : mT), f_X5_shift_L15 j a1 a2 v1 n v2 μ3 = some (r, μ') → tj X Γ μ3 15 [(0, .ref (X.1 1 j)), (1, .int a1), (2, .int a2), (4, .int v1), (5, .int v2)] [] := by
    intro n
    induction n with
    | zero =>
      intro v2 μ3 h
      rw [f_X5_shift_L15] at h
      cases h
    | succ n ih =>
      intro v2 μ3 h
      rw [f_X5_shift_L15] at h
      refine tr_iload hO 15 4 rfl dX5_shift_15 ?_
      refine tr_iload hO 17 3 rfl dX5_shift_17 ?_
      refine tr_icmp_ge hO 19 80 (by decide) dX5_shift_19 (fun hc => ?_) (fun hc => ?_)
      · have h := of_t hc h
        cases h
        exact tr_vret hO 80 hQ dX5_shift_80
      · have h := of_f hc h
        refine tr_aload_n hO 22 0 rfl dX5_shift_22 ?_
        refine tr_get hO 23 (k := 5) (x_vy (by decide) hj) rfl rfl iX5 (by decide) wF_X5_21 rfl rfl dX5_shift_23 ?_
        refine tr_iload_n hO 26 1 rfl dX5_shift_26 ?_
        refine tr_dup2 hO 27 rfl rfl dX5_shift_27 ?_
        obtain ⟨hg, h⟩ := of_gd h
        refine tr_iald hO 28 (x_vy (by decide) hj) a_11 hg dX5_shift_28 ?_
        refine tr_iconst hO 29 (v := 1) (by decide) dX5_shift_29 ?_
        refine tr_isub hO 30 dX5_shift_30 ?_
        obtain ⟨hg, h⟩ := of_gd h
        obtain ⟨μ4, e_μ4, h⟩ := of_lt h
        refine tr_iast hO 31 e_μ4 (x_vy (by decide) hj) a_11 hg dX5_shift_31 ?_
        refine tr_aload_n hO 32 0 rfl dX5_shift_32 ?_
        refine tr_get hO 33 (k := 6) (x_vy (by decide) hj) rfl rfl iX5 (by decide) wF_X5_24 rfl rfl dX5_shift_33 ?_
        refine tr_iload_n hO 36 2 rfl dX5_shift_36 ?_
        refine tr_bipush hO 37 (v := 30) (by decide) dX5_shift_37 ?_
        refine tr_imul hO 39 dX5_shift_39 ?_
        refine tr_aload_n hO 40 0 rfl dX5_shift_40 ?_
        refine tr_get hO 41 (k := 5) (x_vy (by decide) hj) rfl rfl iX5 (by decide) wF_X5_21 rfl rfl dX5_shift_41 ?_
        refine tr_iload_n hO 44 2 rfl dX5_shift_44 ?_
        obtain ⟨hg, h⟩ := of_gd h
        refine tr_iald hO 45 (x_vy (by decide) hj) a_11 hg dX5_shift_45 ?_
        refine tr_iadd hO 46 dX5_shift_46 ?_
        refine tr_aload_n hO 47 0 rfl dX5_shift_47 ?_
        refine tr_get hO 48 (k := 6) (x_vy (by decide) hj) rfl rfl iX5 (by decide) wF_X5_24 rfl rfl dX5_shift_48 ?_
        refine tr_iload_n hO 51 1 rfl dX5_shift_51 ?_
        refine tr_bipush hO 52 (v := 30) (by decide) dX5_shift_52 ?_
        refine tr_imul hO 54 dX5_shift_54 ?_
        refine tr_aload_n hO 55 0 rfl dX5_shift_55 ?_
        refine tr_get hO 56 (k := 5) (x_vy (by decide) hj) rfl rfl iX5 (by decide) wF_X5_21 rfl rfl dX5_shift_56 ?_
        refine tr_iload_n hO 59 1 rfl dX5_shift_59 ?_
        obtain ⟨hg, h⟩ := of_gd h
        refine tr_iald hO 60 (x_vy (by decide) hj) a_11 hg dX5_shift_60 ?_
        refine tr_iadd hO 61 dX5_shift_61 ?_
        obtain ⟨hg, h⟩ := of_gd h
        refine tr_iald hO 62 (x_vy (by decide) hj) a_12 hg dX5_shift_62 ?_
        obtain ⟨hg, h⟩ := of_gd h
        obtain ⟨μ5, e_μ5, h⟩ := of_lt h
        refine tr_iast hO 63 e_μ5 (x_vy (by decide) hj) a_12 hg dX5_shift_63 ?_
        refine tr_aload_n hO 64 0 rfl dX5_shift_64 ?_
        refine tr_get hO 65 (k := 5) (x_vy (by decide) hj) rfl rfl iX5 (by decide) wF_X5_21 rfl rfl dX5_shift_65 ?_
        refine tr_iload_n hO 68 2 rfl dX5_shift_68 ?_
        refine tr_dup2 hO 69 rfl rfl dX5_shift_69 ?_
        obtain ⟨hg, h⟩ := of_gd h
        refine tr_iald hO 70 (x_vy (by decide) hj) a_11 hg dX5_shift_70 ?_
        refine tr_iconst hO 71 (v := 1) (by decide) dX5_shift_71 ?_
        refine tr_iadd hO 72 dX5_shift_72 ?_
        obtain ⟨hg, h⟩ := of_gd h
        obtain ⟨μ6, e_μ6, h⟩ := of_lt h
        refine tr_iast hO 73 e_μ6 (x_vy (by decide) hj) a_11 hg dX5_shift_73 ?_
        obtain ⟨v7, e_v7, h⟩ := of_lt h
        refine tr_iinc hO 74 (q := 4) (v := v7) (lv' := [(5, .int v7), (0, .ref (X.1 1 j)), (1, .int a1), (2, .int a2), (4, .int v1)]) hn rfl (by rw [e_v7]; rfl) (by decide) rfl dX5_shift_74 ?_
        refine tr_goto hO 77 15 (by decide) dX5_shift_77 ?_
        refine tr_sub [1, 2, 3, 4, 0] rfl ?_
        exact ih _ _ h
  refine tr_sub [2, 3, 4, 1, 0] rfl ?_
  exact L15_T _ _ _ h
set_option maxHeartbeats 4000000 in
set_option maxRecDepth 100000 in
theorem c_X5_notePulled {X : xT} (hX : xOK X) {j : Nat} {a1 : Int32} (hj : j < 11) {μ μ' : mT} {r : Int32} (h : f_X5_notePulled j a1 μ = some (r, μ')) : CMv X yX5_notePulled cX5_notePulled 4 0 0 [.ref (X.1 1 j), .int a1] μ μ' := by
  refine CMv_of hX (by decide +kernel) (lv := [(0, .ref (X.1 1 j)), (1, .int a1)]) (Nat.le_of_ble_eq_true rfl) rfl (fun Γ hO hn hQ => ?_)
  have hO : Ok X RX5 cX5_notePulled 0 0 Γ := hO
  unfold f_X5_notePulled at h
  refine tr_sipush hO 0 (v := 240) (by decide) dX5_notePulled_0 ?_
  refine tr_aload_n hO 3 0 rfl dX5_notePulled_3 ?_
  refine tr_get hO 4 (k := 5) (x_vy (by decide) hj) rfl rfl iX5 (by decide) wF_X5_21 rfl rfl dX5_notePulled_4 ?_
  refine tr_bipush hO 7 (v := 8) (by decide) dX5_notePulled_7 ?_
  refine tr_iald hO 9 (x_vy (by decide) hj) a_11 (by decide) dX5_notePulled_9 ?_
  refine tr_iadd hO 10 dX5_notePulled_10 ?_
  refine tr_iconst hO 11 (v := 1) (by decide) dX5_notePulled_11 ?_
  refine tr_isub hO 12 dX5_notePulled_12 ?_
  obtain ⟨v1, e_v1, h⟩ := of_lt h
  refine tr_istore_n hO 13 (v := v1) e_v1 (lv' := [(2, .int v1), (0, .ref (X.1 1 j)), (1, .int a1)]) hn rfl (by decide) rfl dX5_notePulled_13 ?_
  refine tr_iconst hO 14 (v := 0) (by decide) dX5_notePulled_14 ?_
  refine tr_istore_n hO 15 (v := 0) rfl (lv' := [(3, .int 0), (2, .int v1), (0, .ref (X.1 1 j)), (1, .int a1)]) hn rfl (by decide) rfl dX5_notePulled_15 ?_
  have L16_T : ∀ (n : Nat) (v2 : Int32) (μ3 : mT), f_X5_notePulled_L16 j a1 v1 n v2 μ3 = some (r, μ') → tj X Γ μ3 16 [(0, .ref (X.1 1 j)), (1, .int a1), (2, .int v1), (3, .int v2)] [] := by
    intro n
    induction n with
    | zero =>
      intro v2 μ3 h
      rw [f_X5_notePulled_L16] at h
      cases h
    | succ n ih =>
      intro v2 μ3 h
      rw [f_X5_notePulled_L16] at h
      refine tr_iload_n hO 16 3 rfl dX5_notePulled_16 ?_
      refine tr_iload_n hO 17 1 rfl dX5_notePulled_17 ?_
      refine tr_icmp_ge hO 18 55 (by decide) dX5_notePulled_18 (fun hc => ?_) (fun hc => ?_)
      · have h := of_t hc h
        cases h
        exact tr_vret hO 55 hQ dX5_notePulled_55
      · have h := of_f hc h
        refine tr_iload_n hO 21 3 rfl dX5_notePulled_21 ?_
        refine tr_aload_n hO 22 0 rfl dX5_notePulled_22 ?_
        refine tr_get hO 23 (k := 5) (x_vy (by decide) hj) rfl rfl iX5 (by decide) wF_X5_21 rfl rfl dX5_notePulled_23 ?_
        refine tr_bipush hO 26 (v := 8) (by decide) dX5_notePulled_26 ?_
        refine tr_iald hO 28 (x_vy (by decide) hj) a_11 (by decide) dX5_notePulled_28 ?_
        refine tr_icmp_ge hO 29 55 (by decide) dX5_notePulled_29 (fun hc => ?_) (fun hc => ?_)
        · have h := of_t hc h
          cases h
          exact tr_vret hO 55 hQ dX5_notePulled_55
        · have h := of_f hc h
          refine tr_aload_n hO 32 0 rfl dX5_notePulled_32 ?_
          refine tr_get hO 33 (k := 4) (x_vy (by decide) hj) rfl rfl iX5 (by decide) wF_X5_18 rfl rfl dX5_notePulled_33 ?_
          refine tr_aload_n hO 36 0 rfl dX5_notePulled_36 ?_
          refine tr_get hO 37 (k := 6) (x_vy (by decide) hj) rfl rfl iX5 (by decide) wF_X5_24 rfl rfl dX5_notePulled_37 ?_
          refine tr_iload_n hO 40 2 rfl dX5_notePulled_40 ?_
          refine tr_iload_n hO 41 3 rfl dX5_notePulled_41 ?_
          refine tr_isub hO 42 dX5_notePulled_42 ?_
          obtain ⟨hg, h⟩ := of_gd h
          refine tr_iald hO 43 (x_vy (by decide) hj) a_12 hg dX5_notePulled_43 ?_
          refine tr_dup2 hO 44 rfl rfl dX5_notePulled_44 ?_
          obtain ⟨hg, h⟩ := of_gd h
          refine tr_iald hO 45 (x_vy (by decide) hj) a_10 hg dX5_notePulled_45 ?_
          refine tr_iconst hO 46 (v := 1) (by decide) dX5_notePulled_46 ?_
          refine tr_iadd hO 47 dX5_notePulled_47 ?_
          obtain ⟨hg, h⟩ := of_gd h
          obtain ⟨μ4, e_μ4, h⟩ := of_lt h
          refine tr_iast hO 48 e_μ4 (x_vy (by decide) hj) a_10 hg dX5_notePulled_48 ?_
          obtain ⟨v5, e_v5, h⟩ := of_lt h
          refine tr_iinc hO 49 (q := 3) (v := v5) (lv' := [(3, .int v5), (0, .ref (X.1 1 j)), (1, .int a1), (2, .int v1)]) hn rfl (by rw [e_v5]; rfl) (by decide) rfl dX5_notePulled_49 ?_
          refine tr_goto hO 52 16 (by decide) dX5_notePulled_52 ?_
          refine tr_sub [1, 2, 3, 0] rfl ?_
          exact ih _ _ h
  refine tr_sub [2, 3, 1, 0] rfl ?_
  exact L16_T _ _ _ h
set_option maxHeartbeats 4000000 in
set_option maxRecDepth 100000 in
theorem c_X6_comeTo {X : xT} (hX : xOK X) {j : Nat} {a1 : Int32} (hj : j < 11) {μ μ' : mT} {r : Int32} (h : f_X6_comeTo j a1 μ = some (r, μ')) : CMv X yX6_comeTo cX6_comeTo 2 1 23 [.ref (X.1 0 j), .int a1] μ μ' := by
  refine CMv_of hX (by decide +kernel) (lv := [(0, .ref (X.1 0 j)), (1, .int a1)]) (Nat.le_of_ble_eq_true rfl) rfl (fun Γ hO hn hQ => ?_)
  have hO : Ok X RX6 cX6_comeTo 1 23 Γ := hO
  unfold f_X6_comeTo at h
  refine tr_aload_n hO 0 0 rfl dX6_comeTo_0 ?_
  refine tr_iload_n hO 1 1 rfl dX6_comeTo_1 ?_
  obtain ⟨μ1, e_μ1, h⟩ := of_lt h
  refine tr_put hO 2 (k := 0) (ty := .int) e_μ1 (x_vy (by decide) hj) rfl rfl rfl iX6 tyX6 tyX6_ok nmX6 (by decide) wF_X6_53 rfl rfl (by decide +kernel) rfl rfl (Nat.le_of_ble_eq_true rfl) dX6_comeTo_2 ?_
  refine tr_aload_n hO 5 0 rfl dX6_comeTo_5 ?_
  refine tr_get hO 6 (k := 12) (x_vy (by decide) hj) rfl rfl iX6 (by decide) wF_X6_42 rfl rfl dX6_comeTo_6 ?_
  refine tr_iload_n hO 9 1 rfl dX6_comeTo_9 ?_
  obtain ⟨v2, μ3, hcall, h⟩ := of_bd h
  refine tr_callV hO 10 (na := 1) (As := [.int a1]) (st := []) (c_X0_dropEnded hX hj hcall) rfl (x_vy (by decide) hj) rfl rfl wM_X6_155 wI_X0_dropEnded wS_X0_dropEnded wN_X0 wC_X0_dropEnded (by decide +kernel) rfl (by decide) (by decide) (Nat.le_of_ble_eq_true rfl) dX6_comeTo_10 ?_
  cases h
  exact tr_vret hO 13 hQ dX6_comeTo_13
set_option maxHeartbeats 4000000 in
set_option maxRecDepth 100000 in
theorem c_X6_makeMove {X : xT} (hX : xOK X) {j : Nat} {a1 : Int32} {a2 : Int32} (hj : j < 11) {μ μ' : mT} {r : Int32} (h : f_X6_makeMove j a1 a2 μ = some (r, μ')) : CMv X yX6_makeMove cX6_makeMove 5 2 44 [.ref (X.1 0 j), .int a1, .int a2] μ μ' := by
  refine CMv_of hX (by decide +kernel) (lv := [(0, .ref (X.1 0 j)), (1, .int a1), (2, .int a2)]) (Nat.le_of_ble_eq_true rfl) rfl (fun Γ hO hn hQ => ?_)
  have hO : Ok X RX6 cX6_makeMove 2 44 Γ := hO
  unfold f_X6_makeMove at h
  refine tr_iload_n hO 0 1 rfl dX6_makeMove_0 ?_
  refine tr_iload_n hO 1 2 rfl dX6_makeMove_1 ?_
  refine tr_aload_n hO 2 0 rfl dX6_makeMove_2 ?_
  refine tr_get hO 3 (k := 6) (x_vy (by decide) hj) rfl rfl iX6 (by decide) wF_X6_18 rfl rfl dX6_makeMove_3 ?_
  refine tr_iconst hO 6 (v := 3) (by decide) dX6_makeMove_6 ?_
  refine tr_iald hO 7 (x_vy (by decide) hj) a_4 (by decide) dX6_makeMove_7 ?_
  refine tr_imul hO 8 dX6_makeMove_8 ?_
  refine tr_iadd hO 9 dX6_makeMove_9 ?_
  obtain ⟨v1, e_v1, h⟩ := of_lt h
  refine tr_istore_n hO 10 (v := v1) e_v1 (lv' := [(3, .int v1), (0, .ref (X.1 0 j)), (1, .int a1), (2, .int a2)]) hn rfl (by decide) rfl dX6_makeMove_10 ?_
  refine tr_aload_n hO 11 1 rfl dX6_makeMove_11 ?_
  refine tr_get hO 12 (k := 12) (x_vy (by decide) hj) rfl rfl iX6 (by decide) wF_X6_42 rfl rfl dX6_makeMove_12 ?_
  refine tr_aload_n hO 15 1 rfl dX6_makeMove_15 ?_
  refine tr_get hO 16 (k := 0) (x_vy (by decide) hj) rfl rfl iX6 (by decide) wF_X6_53 rfl rfl dX6_makeMove_16 ?_
  refine tr_iload_n hO 19 0 rfl dX6_makeMove_19 ?_
  obtain ⟨v2, μ3, hcall, h⟩ := of_bd h
  refine tr_callI hO 20 (na := 2) (As := [.int (μ 0 j 0), .int v1]) (st := []) (c_X0_firstFree hX hj hcall) rfl (x_vy (by decide) hj) rfl rfl wM_X6_149 wI_X0_firstFree wS_X0_firstFree wN_X0 wC_X0_firstFree (by decide +kernel) rfl (by decide) (by decide) (Nat.le_of_ble_eq_true rfl) dX6_makeMove_20 ?_
  refine tr_istore hO 23 (v := v2) rfl (lv' := [(4, .int v2), (3, .int v1), (0, .ref (X.1 0 j)), (1, .int a1), (2, .int a2)]) hn (by decide) rfl dX6_makeMove_23 ?_
  refine tr_aload_n hO 25 2 rfl dX6_makeMove_25 ?_
  refine tr_dup hO 26 rfl dX6_makeMove_26 ?_
  refine tr_get hO 27 (k := 3) (x_vy (by decide) hj) rfl rfl iX6 (by decide) wF_X6_63 rfl rfl dX6_makeMove_27 ?_
  refine tr_iload hO 30 0 rfl dX6_makeMove_30 ?_
  refine tr_aload_n hO 32 2 rfl dX6_makeMove_32 ?_
  refine tr_get hO 33 (k := 0) (x_vy (by decide) hj) rfl rfl iX6 (by decide) wF_X6_53 rfl rfl dX6_makeMove_33 ?_
  refine tr_isub hO 36 dX6_makeMove_36 ?_
  refine tr_iadd hO 37 dX6_makeMove_37 ?_
  obtain ⟨μ4, e_μ4, h⟩ := of_lt h
  refine tr_put hO 38 (k := 3) (ty := .int) e_μ4 (x_vy (by decide) hj) rfl rfl rfl iX6 tyX6 tyX6_ok nmX6 (by decide) wF_X6_63 rfl rfl (by decide +kernel) rfl rfl (Nat.le_of_ble_eq_true rfl) dX6_makeMove_38 ?_
  refine tr_aload_n hO 41 2 rfl dX6_makeMove_41 ?_
  refine tr_dup hO 42 rfl dX6_makeMove_42 ?_
  refine tr_get hO 43 (k := 1) (x_vy (by decide) hj) rfl rfl iX6 (by decide) wF_X6_57 rfl rfl dX6_makeMove_43 ?_
  refine tr_iload_n hO 46 4 rfl dX6_makeMove_46 ?_
  refine tr_iadd hO 47 dX6_makeMove_47 ?_
  obtain ⟨μ5, e_μ5, h⟩ := of_lt h
  refine tr_put hO 48 (k := 1) (ty := .int) e_μ5 (x_vy (by decide) hj) rfl rfl rfl iX6 tyX6 tyX6_ok nmX6 (by decide) wF_X6_57 rfl rfl (by decide +kernel) rfl rfl (Nat.le_of_ble_eq_true rfl) dX6_makeMove_48 ?_
  refine tr_aload_n hO 51 2 rfl dX6_makeMove_51 ?_
  refine tr_dup hO 52 rfl dX6_makeMove_52 ?_
  refine tr_get hO 53 (k := 2) (x_vy (by decide) hj) rfl rfl iX6 (by decide) wF_X6_60 rfl rfl dX6_makeMove_53 ?_
  refine tr_iconst hO 56 (v := 1) (by decide) dX6_makeMove_56 ?_
  refine tr_iadd hO 57 dX6_makeMove_57 ?_
  obtain ⟨μ6, e_μ6, h⟩ := of_lt h
  refine tr_put hO 58 (k := 2) (ty := .int) e_μ6 (x_vy (by decide) hj) rfl rfl rfl iX6 tyX6 tyX6_ok nmX6 (by decide) wF_X6_60 rfl rfl (by decide +kernel) rfl rfl (Nat.le_of_ble_eq_true rfl) dX6_makeMove_58 ?_
  refine tr_aload_n hO 61 2 rfl dX6_makeMove_61 ?_
  refine tr_iload hO 62 0 rfl dX6_makeMove_62 ?_
  refine tr_iload_n hO 64 1 rfl dX6_makeMove_64 ?_
  refine tr_iadd hO 65 dX6_makeMove_65 ?_
  obtain ⟨v7, μ8, hcall, h⟩ := of_bd h
  refine tr_callV hO 66 (na := 1) (As := [.int (v2 + v1)]) (st := []) (c_X6_comeTo hX hj hcall) rfl (x_vy (by decide) hj) rfl rfl wM_X6_152 wI_X6_comeTo wS_X6_comeTo wN_X6 wC_X6_comeTo (by decide +kernel) rfl (by decide) (by decide) (Nat.le_of_ble_eq_true rfl) dX6_makeMove_66 ?_
  cases h
  exact tr_vret hO 69 hQ dX6_makeMove_69
set_option maxHeartbeats 4000000 in
set_option maxRecDepth 100000 in
theorem c_X6_drawOut {X : xT} (hX : xOK X) {j : Nat} {a1 : Int32} {a2 : Int32} (hj : j < 11) {μ μ' : mT} {r : Int32} (h : f_X6_drawOut j a1 a2 μ = some (r, μ')) : CMi X yX6_drawOut cX6_drawOut 3 .int 3 68 [.ref (X.1 0 j), .int a1, .int a2] μ r μ' := by
  refine CMi_of hX (by decide +kernel) (lv := [(0, .ref (X.1 0 j)), (1, .int a1), (2, .int a2)]) (Nat.le_of_ble_eq_true rfl) rfl (fun Γ hO hn hQ => ?_)
  have hO : Ok X RX6 cX6_drawOut 3 68 Γ := hO
  unfold f_X6_drawOut at h
  refine tr_aload_n hO 0 0 rfl dX6_drawOut_0 ?_
  refine tr_get hO 1 (k := 11) (x_vy (by decide) hj) rfl rfl iX6 (by decide) wF_X6_35 rfl rfl dX6_drawOut_1 ?_
  refine tr_iload_n hO 4 1 rfl dX6_drawOut_4 ?_
  refine tr_bipush hO 5 (v := 8) (by decide) dX6_drawOut_5 ?_
  refine tr_iload_n hO 7 2 rfl dX6_drawOut_7 ?_
  obtain ⟨v1, μ2, hcall, h⟩ := of_bd h
  refine tr_callV hO 8 (na := 3) (As := [.int a1, .int 8, .int a2]) (st := []) (c_X5_shift hX hj hcall) rfl (x_vy (by decide) hj) rfl rfl wM_X6_127 wI_X5_shift wS_X5_shift wN_X5 wC_X5_shift (by decide +kernel) rfl (by decide) (by decide) (Nat.le_of_ble_eq_true rfl) dX6_drawOut_8 ?_
  refine tr_aload_n hO 11 0 rfl dX6_drawOut_11 ?_
  refine tr_get hO 12 (k := 11) (x_vy (by decide) hj) rfl rfl iX6 (by decide) wF_X6_35 rfl rfl dX6_drawOut_12 ?_
  refine tr_iload_n hO 15 2 rfl dX6_drawOut_15 ?_
  obtain ⟨v3, μ4, hcall, h⟩ := of_bd h
  refine tr_callV hO 16 (na := 1) (As := [.int a2]) (st := []) (c_X5_notePulled hX hj hcall) rfl (x_vy (by decide) hj) rfl rfl wM_X6_131 wI_X5_notePulled wS_X5_notePulled wN_X5 wC_X5_notePulled (by decide +kernel) rfl (by decide) (by decide) (Nat.le_of_ble_eq_true rfl) dX6_drawOut_16 ?_
  refine tr_aload_n hO 19 0 rfl dX6_drawOut_19 ?_
  refine tr_get hO 20 (k := 9) (x_vy (by decide) hj) rfl rfl iX6 (by decide) wF_X6_26 rfl rfl dX6_drawOut_20 ?_
  refine tr_iload_n hO 23 1 rfl dX6_drawOut_23 ?_
  refine tr_dup2 hO 24 rfl rfl dX6_drawOut_24 ?_
  obtain ⟨hg, h⟩ := of_gd h
  refine tr_iald hO 25 (x_vy (by decide) hj) a_6 hg dX6_drawOut_25 ?_
  refine tr_iload_n hO 26 2 rfl dX6_drawOut_26 ?_
  refine tr_iadd hO 27 dX6_drawOut_27 ?_
  obtain ⟨hg, h⟩ := of_gd h
  obtain ⟨μ5, e_μ5, h⟩ := of_lt h
  refine tr_iast hO 28 e_μ5 (x_vy (by decide) hj) a_6 hg dX6_drawOut_28 ?_
  refine tr_aload_n hO 29 0 rfl dX6_drawOut_29 ?_
  refine tr_aload_n hO 30 0 rfl dX6_drawOut_30 ?_
  refine tr_get hO 31 (k := 6) (x_vy (by decide) hj) rfl rfl iX6 (by decide) wF_X6_18 rfl rfl dX6_drawOut_31 ?_
  refine tr_iconst hO 34 (v := 2) (by decide) dX6_drawOut_34 ?_
  refine tr_iald hO 35 (x_vy (by decide) hj) a_4 (by decide) dX6_drawOut_35 ?_
  refine tr_aload_n hO 36 0 rfl dX6_drawOut_36 ?_
  refine tr_get hO 37 (k := 11) (x_vy (by decide) hj) rfl rfl iX6 (by decide) wF_X6_35 rfl rfl dX6_drawOut_37 ?_
  refine tr_iload_n hO 40 1 rfl dX6_drawOut_40 ?_
  obtain ⟨v6, μ7, hcall, h⟩ := of_bd h
  refine tr_callI hO 41 (na := 1) (As := [.int a1]) (st := [.int (μ5 4 j (2 : Int32).toNatClampNeg), .ref (X.1 0 j)]) (c_X5_manyIn hX hj hcall) rfl (x_vy (by decide) hj) rfl rfl wM_X6_121 wI_X5_manyIn wS_X5_manyIn wN_X5 wC_X5_manyIn (by decide +kernel) rfl (by decide) (by decide) (Nat.le_of_ble_eq_true rfl) dX6_drawOut_41 ?_
  obtain ⟨J8, e_J8, h⟩ := of_lt h
  have J8_T : ∀ (v9 : Int32) (μ10 : mT), J8 v9 μ10 = some (r, μ') → tj X Γ μ10 52 [(0, .ref (X.1 0 j))] [.int v9, .int (μ5 4 j (2 : Int32).toNatClampNeg), .ref (X.1 0 j)] := by
    intro v9 μ10 h
    rw [e_J8] at h
    obtain ⟨v11, μ12, hcall, h⟩ := of_bd h
    refine tr_callV hO 52 (na := 2) (As := [.int (μ5 4 j (2 : Int32).toNatClampNeg), .int v9]) (st := []) (c_X6_makeMove hX hj hcall) rfl (x_vy (by decide) hj) rfl rfl wM_X6_135 wI_X6_makeMove wS_X6_makeMove wN_X6 wC_X6_makeMove (by decide +kernel) rfl (by decide) (by decide) (Nat.le_of_ble_eq_true rfl) dX6_drawOut_52 ?_
    refine tr_aload_n hO 55 0 rfl dX6_drawOut_55 ?_
    refine tr_get hO 56 (k := 11) (x_vy (by decide) hj) rfl rfl iX6 (by decide) wF_X6_35 rfl rfl dX6_drawOut_56 ?_
    refine tr_bipush hO 59 (v := 8) (by decide) dX6_drawOut_59 ?_
    obtain ⟨v13, μ14, hcall, h⟩ := of_bd h
    refine tr_callI hO 61 (na := 1) (As := [.int 8]) (st := []) (c_X5_manyIn hX hj hcall) rfl (x_vy (by decide) hj) rfl rfl wM_X6_121 wI_X5_manyIn wS_X5_manyIn wN_X5 wC_X5_manyIn (by decide +kernel) rfl (by decide) (by decide) (Nat.le_of_ble_eq_true rfl) dX6_drawOut_61 ?_
    cases h
    exact tr_iret hO 64 hQ rfl dX6_drawOut_64
  refine tr_if_le hO 44 51 (by decide) dX6_drawOut_44 (fun hc => ?_) (fun hc => ?_)
  · have h := of_t hc h
    refine tr_iconst hO 51 (v := 1) (by decide) dX6_drawOut_51 ?_
    refine tr_sub [0] rfl ?_
    exact J8_T _ _ h
  · have h := of_f hc h
    refine tr_iconst hO 47 (v := 2) (by decide) dX6_drawOut_47 ?_
    refine tr_goto hO 48 52 (by decide) dX6_drawOut_48 ?_
    refine tr_sub [0] rfl ?_
    exact J8_T _ _ h
set_option maxHeartbeats 4000000 in
set_option maxRecDepth 100000 in
theorem c_X4_fewestPulls {X : xT} (hX : xOK X) {j2 : Nat} {a2 : Int32} (hj2 : j2 < 11) {μ μ' : mT} {r : Int32} (h : f_X4_fewestPulls j2 a2 μ = some (r, μ')) : CMi X yX4_fewestPulls cX4_fewestPulls 7 .int 4 90 [.ref (X.1 20 0), .ref (X.1 0 j2), .int a2] μ r μ' := by
  refine CMi_of hX (by decide +kernel) (lv := [(0, .ref (X.1 20 0)), (1, .ref (X.1 0 j2)), (2, .int a2)]) (Nat.le_of_ble_eq_true rfl) rfl (fun Γ hO hn hQ => ?_)
  have hO : Ok X RX4 cX4_fewestPulls 4 90 Γ := hO
  unfold f_X4_fewestPulls at h
  refine tr_aload_n hO 0 0 rfl dX4_fewestPulls_0 ?_
  refine tr_get hO 1 (k := 0) (x_v0 (by decide)) rfl rfl iX4 (by decide) wF_X4_12 rfl rfl dX4_fewestPulls_1 ?_
  refine tr_aload_n hO 4 1 rfl dX4_fewestPulls_4 ?_
  obtain ⟨v1, μ2, hcall, h⟩ := of_bd h
  refine tr_callV hO 5 (na := 1) (As := [.ref (X.1 0 j2)]) (st := []) (c_X6_copyFrom hX (by decide) hj2 hcall) rfl (x_vy (by decide) (by decide)) rfl rfl wM_X4_18 wI_X6_copyFrom wS_X6_copyFrom wN_X6 wC_X6_copyFrom (by decide +kernel) rfl (by decide) (by decide) (Nat.le_of_ble_eq_true rfl) dX4_fewestPulls_5 ?_
  refine tr_aload_n hO 8 0 rfl dX4_fewestPulls_8 ?_
  refine tr_get hO 9 (k := 0) (x_v0 (by decide)) rfl rfl iX4 (by decide) wF_X4_12 rfl rfl dX4_fewestPulls_9 ?_
  refine tr_iload_n hO 12 2 rfl dX4_fewestPulls_12 ?_
  obtain ⟨v3, μ4, hcall, h⟩ := of_bd h
  refine tr_callI hO 13 (na := 1) (As := [.int a2]) (st := []) (c_X6_manyAlike hX (by decide) hcall) rfl (x_vy (by decide) (by decide)) rfl rfl wM_X4_22 wI_X6_manyAlike wS_X6_manyAlike wN_X6 wC_X6_manyAlike (by decide +kernel) rfl (by decide) (by decide) (Nat.le_of_ble_eq_true rfl) dX4_fewestPulls_13 ?_
  refine tr_aload_n hO 16 0 rfl dX4_fewestPulls_16 ?_
  refine tr_get hO 17 (k := 0) (x_v0 (by decide)) rfl rfl iX4 (by decide) wF_X4_12 rfl rfl dX4_fewestPulls_17 ?_
  refine tr_getN hO 20 (k := 11) (x_vy (by decide) (by decide)) rfl rfl iX6 (by decide) (host := RX7) (by decide +kernel) rfl rfl dX4_fewestPulls_20 ?_
  refine tr_bipush hO 23 (v := 8) (by decide) dX4_fewestPulls_23 ?_
  obtain ⟨v5, μ6, hcall, h⟩ := of_bd h
  refine tr_callI hO 25 (na := 1) (As := [.int 8]) (st := [.int v3]) (c_X5_manyIn hX (by decide) hcall) rfl (x_vy (by decide) (by decide)) rfl rfl wM_X4_30 wI_X5_manyIn wS_X5_manyIn wN_X5 wC_X5_manyIn (by decide +kernel) rfl (by decide) (by decide) (Nat.le_of_ble_eq_true rfl) dX4_fewestPulls_25 ?_
  refine tr_icmp_eq hO 28 34 (by decide) dX4_fewestPulls_28 (fun hc => ?_) (fun hc => ?_)
  · have h := of_t hc h
    refine tr_iconst hO 34 (v := 0) (by decide) dX4_fewestPulls_34 ?_
    refine tr_istore_n hO 35 (v := 0) rfl (lv' := [(3, .int 0), (0, .ref (X.1 20 0)), (1, .ref (X.1 0 j2)), (2, .int a2)]) hn rfl (by decide) rfl dX4_fewestPulls_35 ?_
    have L36_T : ∀ (n : Nat) (v7 : Int32) (μ8 : mT), f_X4_fewestPulls_L36 a2 n v7 μ8 = some (r, μ') → tj X Γ μ8 36 [(0, .ref (X.1 20 0)), (2, .int a2), (3, .int v7)] [] := by
      intro n
      induction n with
      | zero =>
        intro v7 μ8 h
        rw [f_X4_fewestPulls_L36] at h
        cases h
      | succ n ih =>
        intro v7 μ8 h
        rw [f_X4_fewestPulls_L36] at h
        refine tr_iload_n hO 36 2 rfl dX4_fewestPulls_36 ?_
        refine tr_bipush hO 37 (v := 8) (by decide) dX4_fewestPulls_37 ?_
        refine tr_icmp_gt hO 39 131 (by decide) dX4_fewestPulls_39 (fun hc => ?_) (fun hc => ?_)
        · have h := of_t hc h
          refine tr_bipush hO 131 (v := (-6)) (by decide) dX4_fewestPulls_131 ?_
          cases h
          exact tr_iret hO 133 hQ rfl dX4_fewestPulls_133
        · have h := of_f hc h
          refine tr_aload_n hO 42 0 rfl dX4_fewestPulls_42 ?_
          refine tr_get hO 43 (k := 0) (x_v0 (by decide)) rfl rfl iX4 (by decide) wF_X4_12 rfl rfl dX4_fewestPulls_43 ?_
          refine tr_getN hO 46 (k := 11) (x_vy (by decide) (by decide)) rfl rfl iX6 (by decide) (host := RX7) (by decide +kernel) rfl rfl dX4_fewestPulls_46 ?_
          refine tr_bipush hO 49 (v := 8) (by decide) dX4_fewestPulls_49 ?_
          obtain ⟨v9, μ10, hcall, h⟩ := of_bd h
          refine tr_callI hO 51 (na := 1) (As := [.int 8]) (st := []) (c_X5_manyIn hX (by decide) hcall) rfl (x_vy (by decide) (by decide)) rfl rfl wM_X4_30 wI_X5_manyIn wS_X5_manyIn wN_X5 wC_X5_manyIn (by decide +kernel) rfl (by decide) (by decide) (Nat.le_of_ble_eq_true rfl) dX4_fewestPulls_51 ?_
          refine tr_istore hO 54 (v := v9) rfl (lv' := [(4, .int v9), (0, .ref (X.1 20 0)), (2, .int a2), (3, .int v7)]) hn (by decide) rfl dX4_fewestPulls_54 ?_
          refine tr_iload hO 56 0 rfl dX4_fewestPulls_56 ?_
          refine tr_aload_n hO 58 1 rfl dX4_fewestPulls_58 ?_
          refine tr_get hO 59 (k := 0) (x_v0 (by decide)) rfl rfl iX4 (by decide) wF_X4_12 rfl rfl dX4_fewestPulls_59 ?_
          refine tr_getN hO 62 (k := 13) (x_vy (by decide) (by decide)) rfl rfl iX6 (by decide) (host := RX7) (by decide +kernel) rfl rfl dX4_fewestPulls_62 ?_
          refine tr_iload_n hO 65 2 rfl dX4_fewestPulls_65 ?_
          obtain ⟨v11, μ12, hcall, h⟩ := of_bd h
          refine tr_callI hO 66 (na := 1) (As := [.int a2]) (st := [.int v9]) (c_X3_sizeOf hX (by decide) hcall) rfl (x_vy (by decide) (by decide)) rfl rfl wM_X4_39 wI_X3_sizeOf wS_X3_sizeOf wN_X3 wC_X3_sizeOf (by decide +kernel) rfl (by decide) (by decide) (Nat.le_of_ble_eq_true rfl) dX4_fewestPulls_66 ?_
          refine tr_icmp_ne hO 69 74 (by decide) dX4_fewestPulls_69 (fun hc => ?_) (fun hc => ?_)
          · have h := of_f hc h
            refine tr_aload_n hO 74 1 rfl dX4_fewestPulls_74 ?_
            refine tr_iload_n hO 75 2 rfl dX4_fewestPulls_75 ?_
            refine tr_iload hO 76 0 rfl dX4_fewestPulls_76 ?_
            obtain ⟨v13, μ14, hcall, h⟩ := of_bd h
            refine tr_callI hO 78 (na := 2) (As := [.int a2, .int v9]) (st := []) (c_X4_trackOfNext hX  hcall) rfl (x_v0 (by decide)) rfl rfl wM_X4_44 wI_X4_trackOfNext wS_X4_trackOfNext wN_X4 wC_X4_trackOfNext (by decide +kernel) rfl (by decide) (by decide) (Nat.le_of_ble_eq_true rfl) dX4_fewestPulls_78 ?_
            refine tr_istore hO 81 (v := v13) rfl (lv' := [(5, .int v13), (4, .int v9), (0, .ref (X.1 20 0)), (2, .int a2), (3, .int v7)]) hn (by decide) rfl dX4_fewestPulls_81 ?_
            refine tr_iload hO 83 0 rfl dX4_fewestPulls_83 ?_
            refine tr_bipush hO 85 (v := (-6)) (by decide) dX4_fewestPulls_85 ?_
            obtain ⟨J15, e_J15, h⟩ := of_lt h
            have J15_T : ∀ (v16 : Int32) (μ17 : mT), J15 v16 μ17 = some (r, μ') → tj X Γ μ17 103 [(0, .ref (X.1 20 0)), (2, .int a2), (3, .int v7), (5, .int v13)] [.int v16] := by
              intro v16 μ17 h
              rw [e_J15] at h
              refine tr_istore hO 103 (v := v16) rfl (lv' := [(6, .int v16), (0, .ref (X.1 20 0)), (2, .int a2), (3, .int v7), (5, .int v13)]) hn (by decide) rfl dX4_fewestPulls_103 ?_
              refine tr_iload hO 105 0 rfl dX4_fewestPulls_105 ?_
              refine tr_if_ne hO 107 113 (by decide) dX4_fewestPulls_107 (fun hc => ?_) (fun hc => ?_)
              · have h := of_f hc h
                refine tr_aload_n hO 113 1 rfl dX4_fewestPulls_113 ?_
                refine tr_get hO 114 (k := 0) (x_v0 (by decide)) rfl rfl iX4 (by decide) wF_X4_12 rfl rfl dX4_fewestPulls_114 ?_
                refine tr_iload hO 117 4 rfl dX4_fewestPulls_117 ?_
                refine tr_iload hO 119 0 rfl dX4_fewestPulls_119 ?_
                obtain ⟨v18, μ19, hcall, h⟩ := of_bd h
                refine tr_callI hO 121 (na := 2) (As := [.int v13, .int v16]) (st := []) (c_X6_drawOut hX (by decide) hcall) rfl (x_vy (by decide) (by decide)) rfl rfl wM_X4_52 wI_X6_drawOut wS_X6_drawOut wN_X6 wC_X6_drawOut (by decide +kernel) rfl (by decide) (by decide) (Nat.le_of_ble_eq_true rfl) dX4_fewestPulls_121 ?_
                refine tr_pop hO 124 rfl dX4_fewestPulls_124 ?_
                obtain ⟨v20, e_v20, h⟩ := of_lt h
                refine tr_iinc hO 125 (q := 3) (v := v20) (lv' := [(3, .int v20), (6, .int v16), (0, .ref (X.1 20 0)), (2, .int a2), (5, .int v13)]) hn rfl (by rw [e_v20]; rfl) (by decide) rfl dX4_fewestPulls_125 ?_
                refine tr_goto hO 128 36 (by decide) dX4_fewestPulls_128 ?_
                refine tr_sub [2, 3, 0] rfl ?_
                exact ih _ _ h
              · have h := of_t hc h
                refine tr_bipush hO 110 (v := (-6)) (by decide) dX4_fewestPulls_110 ?_
                cases h
                exact tr_iret hO 112 hQ rfl dX4_fewestPulls_112
            refine tr_icmp_ne hO 87 94 (by decide) dX4_fewestPulls_87 (fun hc => ?_) (fun hc => ?_)
            · have h := of_f hc h
              refine tr_aload_n hO 94 2 rfl dX4_fewestPulls_94 ?_
              refine tr_iload_n hO 95 3 rfl dX4_fewestPulls_95 ?_
              refine tr_iload hO 96 1 rfl dX4_fewestPulls_96 ?_
              refine tr_iload hO 98 0 rfl dX4_fewestPulls_98 ?_
              obtain ⟨v21, μ22, hcall, h⟩ := of_bd h
              refine tr_callI hO 100 (na := 3) (As := [.int a2, .int v9, .int v13]) (st := []) (c_X4_manyNext hX  hcall) rfl (x_v0 (by decide)) rfl rfl wM_X4_48 wI_X4_manyNext wS_X4_manyNext wN_X4 wC_X4_manyNext (by decide +kernel) rfl (by decide) (by decide) (Nat.le_of_ble_eq_true rfl) dX4_fewestPulls_100 ?_
              refine tr_sub [2, 3, 4, 0] rfl ?_
              exact J15_T _ _ h
            · have h := of_t hc h
              refine tr_iconst hO 90 (v := 0) (by decide) dX4_fewestPulls_90 ?_
              refine tr_goto hO 91 103 (by decide) dX4_fewestPulls_91 ?_
              refine tr_sub [2, 3, 4, 0] rfl ?_
              exact J15_T _ _ h
          · have h := of_t hc h
            refine tr_iload_n hO 72 3 rfl dX4_fewestPulls_72 ?_
            cases h
            exact tr_iret hO 73 hQ rfl dX4_fewestPulls_73
    refine tr_sub [1, 3, 0] rfl ?_
    exact L36_T _ _ _ h
  · have h := of_f hc h
    refine tr_bipush hO 31 (v := (-6)) (by decide) dX4_fewestPulls_31 ?_
    cases h
    exact tr_iret hO 33 hQ rfl dX4_fewestPulls_33
