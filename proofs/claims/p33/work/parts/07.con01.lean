set_option maxHeartbeats 4000000 in
set_option maxRecDepth 100000 in
theorem c_X6_couldLeave {X : xT} (hX : xOK X) {j : Nat} {a1 : Int32} (hj : j < 11) {μ μ' : mT} {r : Int32} (h : f_X6_couldLeave j a1 μ = some (r, μ')) : CMi X yX6_couldLeave cX6_couldLeave 3 .boolean 3 67 [.ref (X.1 0 j), .int a1] μ r μ' := by
  refine CMi_of hX (by decide +kernel) (lv := [(0, .ref (X.1 0 j)), (1, .int a1)]) (Nat.le_of_ble_eq_true rfl) rfl (fun Γ hO hn hQ => ?_)
  have hO : Ok X RX6 cX6_couldLeave 3 67 Γ := hO
  unfold f_X6_couldLeave at h
  refine tr_aload_n hO 0 0 rfl dX6_couldLeave_0 ?_
  refine tr_get hO 1 (k := 13) (x_vy (by decide) hj) rfl rfl iX6 (by decide) wF_X6_49 rfl rfl dX6_couldLeave_1 ?_
  refine tr_iload_n hO 4 1 rfl dX6_couldLeave_4 ?_
  obtain ⟨v1, μ2, hcall, h⟩ := of_bd h
  refine tr_callI hO 5 (na := 1) (As := [.int a1]) (st := []) (c_X3_sizeOf hX hj hcall) rfl (x_vy (by decide) hj) rfl rfl wM_X6_194 wI_X3_sizeOf wS_X3_sizeOf wN_X3 wC_X3_sizeOf (by decide +kernel) rfl (by decide) (by decide) (Nat.le_of_ble_eq_true rfl) dX6_couldLeave_5 ?_
  refine tr_istore_n hO 8 (v := v1) rfl (lv' := [(2, .int v1), (0, .ref (X.1 0 j)), (1, .int a1)]) hn rfl (by decide) rfl dX6_couldLeave_8 ?_
  refine tr_aload_n hO 9 1 rfl dX6_couldLeave_9 ?_
  refine tr_get hO 10 (k := 11) (x_vy (by decide) hj) rfl rfl iX6 (by decide) wF_X6_35 rfl rfl dX6_couldLeave_10 ?_
  refine tr_bipush hO 13 (v := 8) (by decide) dX6_couldLeave_13 ?_
  obtain ⟨v3, μ4, hcall, h⟩ := of_bd h
  refine tr_callI hO 15 (na := 1) (As := [.int 8]) (st := []) (c_X5_manyIn hX hj hcall) rfl (x_vy (by decide) hj) rfl rfl wM_X6_121 wI_X5_manyIn wS_X5_manyIn wN_X5 wC_X5_manyIn (by decide +kernel) rfl (by decide) (by decide) (Nat.le_of_ble_eq_true rfl) dX6_couldLeave_15 ?_
  refine tr_iload_n hO 18 0 rfl dX6_couldLeave_18 ?_
  refine tr_icmp_ne hO 19 35 (by decide) dX6_couldLeave_19 (fun hc => ?_) (fun hc => ?_)
  · have h := of_f hc h
    refine tr_iconst hO 35 (v := 0) (by decide) dX6_couldLeave_35 ?_
    cases h
    exact tr_iret hO 36 hQ (by decide) dX6_couldLeave_36
  · have h := of_t hc h
    refine tr_aload_n hO 22 1 rfl dX6_couldLeave_22 ?_
    refine tr_iload_n hO 23 2 rfl dX6_couldLeave_23 ?_
    obtain ⟨v5, μ6, hcall, h⟩ := of_bd h
    refine tr_callI hO 24 (na := 1) (As := [.int a1]) (st := []) (c_X6_manyAlike hX hj hcall) rfl (x_vy (by decide) hj) rfl rfl wM_X6_197 wI_X6_manyAlike wS_X6_manyAlike wN_X6 wC_X6_manyAlike (by decide +kernel) rfl (by decide) (by decide) (Nat.le_of_ble_eq_true rfl) dX6_couldLeave_24 ?_
    refine tr_iload_n hO 27 0 rfl dX6_couldLeave_27 ?_
    refine tr_icmp_ne hO 28 35 (by decide) dX6_couldLeave_28 (fun hc => ?_) (fun hc => ?_)
    · have h := of_f hc h
      refine tr_iconst hO 35 (v := 0) (by decide) dX6_couldLeave_35 ?_
      cases h
      exact tr_iret hO 36 hQ (by decide) dX6_couldLeave_36
    · have h := of_t hc h
      refine tr_iconst hO 31 (v := 1) (by decide) dX6_couldLeave_31 ?_
      refine tr_goto hO 32 36 (by decide) dX6_couldLeave_32 ?_
      cases h
      exact tr_iret hO 36 hQ (by decide) dX6_couldLeave_36
set_option maxHeartbeats 4000000 in
set_option maxRecDepth 100000 in
theorem c_X5_lengthOfRow {X : xT} (hX : xOK X) {j : Nat} {a1 : Int32} (hj : j < 11) {μ μ' : mT} {r : Int32} (h : f_X5_lengthOfRow j a1 μ = some (r, μ')) : CMi X yX5_lengthOfRow cX5_lengthOfRow 4 .int 0 0 [.ref (X.1 1 j), .int a1] μ r μ' := by
  refine CMi_of hX (by decide +kernel) (lv := [(0, .ref (X.1 1 j)), (1, .int a1)]) (Nat.le_of_ble_eq_true rfl) rfl (fun Γ hO hn hQ => ?_)
  have hO : Ok X RX5 cX5_lengthOfRow 0 0 Γ := hO
  unfold f_X5_lengthOfRow at h
  refine tr_iconst hO 0 (v := 0) (by decide) dX5_lengthOfRow_0 ?_
  refine tr_istore_n hO 1 (v := 0) rfl (lv' := [(2, .int 0), (0, .ref (X.1 1 j)), (1, .int a1)]) hn rfl (by decide) rfl dX5_lengthOfRow_1 ?_
  refine tr_iconst hO 2 (v := 0) (by decide) dX5_lengthOfRow_2 ?_
  refine tr_istore_n hO 3 (v := 0) rfl (lv' := [(3, .int 0), (2, .int 0), (0, .ref (X.1 1 j)), (1, .int a1)]) hn rfl (by decide) rfl dX5_lengthOfRow_3 ?_
  have L4_T : ∀ (n : Nat) (v1 : Int32) (v2 : Int32) (μ3 : mT), f_X5_lengthOfRow_L4 j a1 n v1 v2 μ3 = some (r, μ') → tj X Γ μ3 4 [(0, .ref (X.1 1 j)), (1, .int a1), (2, .int v1), (3, .int v2)] [] := by
    intro n
    induction n with
    | zero =>
      intro v1 v2 μ3 h
      rw [f_X5_lengthOfRow_L4] at h
      cases h
    | succ n ih =>
      intro v1 v2 μ3 h
      rw [f_X5_lengthOfRow_L4] at h
      refine tr_iload_n hO 4 3 rfl dX5_lengthOfRow_4 ?_
      refine tr_aload_n hO 5 0 rfl dX5_lengthOfRow_5 ?_
      refine tr_get hO 6 (k := 5) (x_vy (by decide) hj) rfl rfl iX5 (by decide) wF_X5_21 rfl rfl dX5_lengthOfRow_6 ?_
      refine tr_iload_n hO 9 1 rfl dX5_lengthOfRow_9 ?_
      obtain ⟨hg, h⟩ := of_gd h
      refine tr_iald hO 10 (x_vy (by decide) hj) a_11 hg dX5_lengthOfRow_10 ?_
      refine tr_icmp_ge hO 11 39 (by decide) dX5_lengthOfRow_11 (fun hc => ?_) (fun hc => ?_)
      · have h := of_t hc h
        refine tr_iload_n hO 39 2 rfl dX5_lengthOfRow_39 ?_
        cases h
        exact tr_iret hO 40 hQ rfl dX5_lengthOfRow_40
      · have h := of_f hc h
        refine tr_iload_n hO 14 2 rfl dX5_lengthOfRow_14 ?_
        refine tr_aload_n hO 15 0 rfl dX5_lengthOfRow_15 ?_
        refine tr_get hO 16 (k := 2) (x_vy (by decide) hj) rfl rfl iX5 (by decide) wF_X5_9 rfl rfl dX5_lengthOfRow_16 ?_
        refine tr_aload_n hO 19 0 rfl dX5_lengthOfRow_19 ?_
        refine tr_get hO 20 (k := 6) (x_vy (by decide) hj) rfl rfl iX5 (by decide) wF_X5_24 rfl rfl dX5_lengthOfRow_20 ?_
        refine tr_iload_n hO 23 1 rfl dX5_lengthOfRow_23 ?_
        refine tr_bipush hO 24 (v := 30) (by decide) dX5_lengthOfRow_24 ?_
        refine tr_imul hO 26 dX5_lengthOfRow_26 ?_
        refine tr_iload_n hO 27 3 rfl dX5_lengthOfRow_27 ?_
        refine tr_iadd hO 28 dX5_lengthOfRow_28 ?_
        obtain ⟨hg, h⟩ := of_gd h
        refine tr_iald hO 29 (x_vy (by decide) hj) a_12 hg dX5_lengthOfRow_29 ?_
        obtain ⟨hg, h⟩ := of_gd h
        refine tr_iald hO 30 (x_vy (by decide) hj) a_8 hg dX5_lengthOfRow_30 ?_
        refine tr_iadd hO 31 dX5_lengthOfRow_31 ?_
        obtain ⟨v4, e_v4, h⟩ := of_lt h
        refine tr_istore_n hO 32 (v := v4) e_v4 (lv' := [(2, .int v4), (0, .ref (X.1 1 j)), (1, .int a1), (3, .int v2)]) hn rfl (by decide) rfl dX5_lengthOfRow_32 ?_
        obtain ⟨v5, e_v5, h⟩ := of_lt h
        refine tr_iinc hO 33 (q := 3) (v := v5) (lv' := [(3, .int v5), (2, .int v4), (0, .ref (X.1 1 j)), (1, .int a1)]) hn rfl (by rw [e_v5]; rfl) (by decide) rfl dX5_lengthOfRow_33 ?_
        refine tr_goto hO 36 4 (by decide) dX5_lengthOfRow_36 ?_
        refine tr_sub [2, 3, 1, 0] rfl ?_
        exact ih _ _ _ h
  refine tr_sub [2, 3, 1, 0] rfl ?_
  exact L4_T _ _ _ _ h
set_option maxHeartbeats 4000000 in
set_option maxRecDepth 100000 in
theorem c_X6_canGoRound {X : xT} (hX : xOK X) {j : Nat} (hj : j < 11) {μ μ' : mT} {r : Int32} (h : f_X6_canGoRound j μ = some (r, μ')) : CMi X yX6_canGoRound cX6_canGoRound 1 .boolean 1 23 [.ref (X.1 0 j)] μ r μ' := by
  refine CMi_of hX (by decide +kernel) (lv := [(0, .ref (X.1 0 j))]) (Nat.le_of_ble_eq_true rfl) rfl (fun Γ hO hn hQ => ?_)
  have hO : Ok X RX6 cX6_canGoRound 1 23 Γ := hO
  unfold f_X6_canGoRound at h
  refine tr_aload_n hO 0 0 rfl dX6_canGoRound_0 ?_
  refine tr_get hO 1 (k := 11) (x_vy (by decide) hj) rfl rfl iX6 (by decide) wF_X6_35 rfl rfl dX6_canGoRound_1 ?_
  refine tr_bipush hO 4 (v := 8) (by decide) dX6_canGoRound_4 ?_
  obtain ⟨v1, μ2, hcall, h⟩ := of_bd h
  refine tr_callI hO 6 (na := 1) (As := [.int 8]) (st := []) (c_X5_manyIn hX hj hcall) rfl (x_vy (by decide) hj) rfl rfl wM_X6_121 wI_X5_manyIn wS_X5_manyIn wN_X5 wC_X5_manyIn (by decide +kernel) rfl (by decide) (by decide) (Nat.le_of_ble_eq_true rfl) dX6_canGoRound_6 ?_
  refine tr_if_le hO 9 34 (by decide) dX6_canGoRound_9 (fun hc => ?_) (fun hc => ?_)
  · have h := of_t hc h
    refine tr_iconst hO 34 (v := 0) (by decide) dX6_canGoRound_34 ?_
    cases h
    exact tr_iret hO 35 hQ (by decide) dX6_canGoRound_35
  · have h := of_f hc h
    refine tr_aload_n hO 12 0 rfl dX6_canGoRound_12 ?_
    refine tr_get hO 13 (k := 11) (x_vy (by decide) hj) rfl rfl iX6 (by decide) wF_X6_35 rfl rfl dX6_canGoRound_13 ?_
    refine tr_bipush hO 16 (v := 8) (by decide) dX6_canGoRound_16 ?_
    obtain ⟨v3, μ4, hcall, h⟩ := of_bd h
    refine tr_callI hO 18 (na := 1) (As := [.int 8]) (st := []) (c_X5_lengthOfRow hX hj hcall) rfl (x_vy (by decide) hj) rfl rfl wM_X6_104 wI_X5_lengthOfRow wS_X5_lengthOfRow wN_X5 wC_X5_lengthOfRow (by decide +kernel) rfl (by decide) (by decide) (Nat.le_of_ble_eq_true rfl) dX6_canGoRound_18 ?_
    refine tr_aload_n hO 21 0 rfl dX6_canGoRound_21 ?_
    refine tr_get hO 22 (k := 6) (x_vy (by decide) hj) rfl rfl iX6 (by decide) wF_X6_18 rfl rfl dX6_canGoRound_22 ?_
    refine tr_iconst hO 25 (v := 1) (by decide) dX6_canGoRound_25 ?_
    refine tr_iald hO 26 (x_vy (by decide) hj) a_4 (by decide) dX6_canGoRound_26 ?_
    refine tr_icmp_gt hO 27 34 (by decide) dX6_canGoRound_27 (fun hc => ?_) (fun hc => ?_)
    · have h := of_t hc h
      refine tr_iconst hO 34 (v := 0) (by decide) dX6_canGoRound_34 ?_
      cases h
      exact tr_iret hO 35 hQ (by decide) dX6_canGoRound_35
    · have h := of_f hc h
      refine tr_iconst hO 30 (v := 1) (by decide) dX6_canGoRound_30 ?_
      refine tr_goto hO 31 35 (by decide) dX6_canGoRound_31 ?_
      cases h
      exact tr_iret hO 35 hQ (by decide) dX6_canGoRound_35
set_option maxHeartbeats 4000000 in
set_option maxRecDepth 100000 in
theorem c_X4_isTurned {X : xT} (hX : xOK X) {a1 : Int32}  {μ μ' : mT} {r : Int32} (h : f_X4_isTurned a1 μ = some (r, μ')) : CMi X yX4_isTurned cX4_isTurned 4 .boolean 2 44 [.ref (X.1 20 0), .int a1] μ r μ' := by
  refine CMi_of hX (by decide +kernel) (lv := [(0, .ref (X.1 20 0)), (1, .int a1)]) (Nat.le_of_ble_eq_true rfl) rfl (fun Γ hO hn hQ => ?_)
  have hO : Ok X RX4 cX4_isTurned 2 44 Γ := hO
  unfold f_X4_isTurned at h
  refine tr_aload_n hO 0 0 rfl dX4_isTurned_0 ?_
  refine tr_get hO 1 (k := 0) (x_v0 (by decide)) rfl rfl iX4 (by decide) wF_X4_12 rfl rfl dX4_isTurned_1 ?_
  refine tr_getN hO 4 (k := 13) (x_vy (by decide) (by decide)) rfl rfl iX6 (by decide) (host := RX7) (by decide +kernel) rfl rfl dX4_isTurned_4 ?_
  refine tr_iload_n hO 7 1 rfl dX4_isTurned_7 ?_
  obtain ⟨v1, μ2, hcall, h⟩ := of_bd h
  refine tr_callI hO 8 (na := 1) (As := [.int a1]) (st := []) (c_X3_sizeOf hX (by decide) hcall) rfl (x_vy (by decide) (by decide)) rfl rfl wM_X4_39 wI_X3_sizeOf wS_X3_sizeOf wN_X3 wC_X3_sizeOf (by decide +kernel) rfl (by decide) (by decide) (Nat.le_of_ble_eq_true rfl) dX4_isTurned_8 ?_
  refine tr_istore_n hO 11 (v := v1) rfl (lv' := [(2, .int v1), (0, .ref (X.1 20 0)), (1, .int a1)]) hn rfl (by decide) rfl dX4_isTurned_11 ?_
  refine tr_iconst hO 12 (v := 0) (by decide) dX4_isTurned_12 ?_
  refine tr_istore_n hO 13 (v := 0) rfl (lv' := [(3, .int 0), (2, .int v1), (0, .ref (X.1 20 0)), (1, .int a1)]) hn rfl (by decide) rfl dX4_isTurned_13 ?_
  have L14_T : ∀ (n : Nat) (v3 : Int32) (μ4 : mT), f_X4_isTurned_L14 a1 v1 n v3 μ4 = some (r, μ') → tj X Γ μ4 14 [(0, .ref (X.1 20 0)), (1, .int a1), (2, .int v1), (3, .int v3)] [] := by
    intro n
    induction n with
    | zero =>
      intro v3 μ4 h
      rw [f_X4_isTurned_L14] at h
      cases h
    | succ n ih =>
      intro v3 μ4 h
      rw [f_X4_isTurned_L14] at h
      refine tr_iload_n hO 14 3 rfl dX4_isTurned_14 ?_
      refine tr_iload_n hO 15 2 rfl dX4_isTurned_15 ?_
      refine tr_icmp_ge hO 16 59 (by decide) dX4_isTurned_16 (fun hc => ?_) (fun hc => ?_)
      · have h := of_t hc h
        refine tr_iconst hO 59 (v := 1) (by decide) dX4_isTurned_59 ?_
        cases h
        exact tr_iret hO 60 hQ (by decide) dX4_isTurned_60
      · have h := of_f hc h
        refine tr_aload_n hO 19 0 rfl dX4_isTurned_19 ?_
        refine tr_get hO 20 (k := 0) (x_v0 (by decide)) rfl rfl iX4 (by decide) wF_X4_12 rfl rfl dX4_isTurned_20 ?_
        refine tr_getN hO 23 (k := 11) (x_vy (by decide) (by decide)) rfl rfl iX6 (by decide) (host := RX7) (by decide +kernel) rfl rfl dX4_isTurned_23 ?_
        refine tr_bipush hO 26 (v := 8) (by decide) dX4_isTurned_26 ?_
        refine tr_iload_n hO 28 2 rfl dX4_isTurned_28 ?_
        refine tr_iconst hO 29 (v := 1) (by decide) dX4_isTurned_29 ?_
        refine tr_isub hO 30 dX4_isTurned_30 ?_
        refine tr_iload_n hO 31 3 rfl dX4_isTurned_31 ?_
        refine tr_isub hO 32 dX4_isTurned_32 ?_
        obtain ⟨v5, μ6, hcall, h⟩ := of_bd h
        refine tr_callI hO 33 (na := 2) (As := [.int 8, .int ((v1 - 1) - v3)]) (st := []) (c_X5_wagonAt hX (by decide) hcall) rfl (x_vy (by decide) (by decide)) rfl rfl wM_X4_66 wI_X5_wagonAt wS_X5_wagonAt wN_X5 wC_X5_wagonAt (by decide +kernel) rfl (by decide) (by decide) (Nat.le_of_ble_eq_true rfl) dX4_isTurned_33 ?_
        refine tr_aload_n hO 36 0 rfl dX4_isTurned_36 ?_
        refine tr_get hO 37 (k := 0) (x_v0 (by decide)) rfl rfl iX4 (by decide) wF_X4_12 rfl rfl dX4_isTurned_37 ?_
        refine tr_getN hO 40 (k := 13) (x_vy (by decide) (by decide)) rfl rfl iX6 (by decide) (host := RX7) (by decide +kernel) rfl rfl dX4_isTurned_40 ?_
        refine tr_iload_n hO 43 1 rfl dX4_isTurned_43 ?_
        refine tr_iload_n hO 44 3 rfl dX4_isTurned_44 ?_
        obtain ⟨v7, μ8, hcall, h⟩ := of_bd h
        refine tr_callI hO 45 (na := 2) (As := [.int a1, .int v3]) (st := [.int v5]) (c_X3_wagonOf hX (by decide) hcall) rfl (x_vy (by decide) (by decide)) rfl rfl wM_X4_55 wI_X3_wagonOf wS_X3_wagonOf wN_X3 wC_X3_wagonOf (by decide +kernel) rfl (by decide) (by decide) (Nat.le_of_ble_eq_true rfl) dX4_isTurned_45 ?_
        refine tr_icmp_eq hO 48 53 (by decide) dX4_isTurned_48 (fun hc => ?_) (fun hc => ?_)
        · have h := of_t hc h
          obtain ⟨v9, e_v9, h⟩ := of_lt h
          refine tr_iinc hO 53 (q := 3) (v := v9) (lv' := [(3, .int v9), (0, .ref (X.1 20 0)), (1, .int a1), (2, .int v1)]) hn rfl (by rw [e_v9]; rfl) (by decide) rfl dX4_isTurned_53 ?_
          refine tr_goto hO 56 14 (by decide) dX4_isTurned_56 ?_
          refine tr_sub [1, 2, 3, 0] rfl ?_
          exact ih _ _ h
        · have h := of_f hc h
          refine tr_iconst hO 51 (v := 0) (by decide) dX4_isTurned_51 ?_
          cases h
          exact tr_iret hO 52 hQ (by decide) dX4_isTurned_52
  refine tr_sub [2, 3, 1, 0] rfl ?_
  exact L14_T _ _ _ h
set_option maxHeartbeats 4000000 in
set_option maxRecDepth 100000 in
theorem c_X5_lengthOfLast {X : xT} (hX : xOK X) {j : Nat} {a1 : Int32} {a2 : Int32} (hj : j < 11) {μ μ' : mT} {r : Int32} (h : f_X5_lengthOfLast j a1 a2 μ = some (r, μ')) : CMi X yX5_lengthOfLast cX5_lengthOfLast 6 .int 0 0 [.ref (X.1 1 j), .int a1, .int a2] μ r μ' := by
  refine CMi_of hX (by decide +kernel) (lv := [(0, .ref (X.1 1 j)), (1, .int a1), (2, .int a2)]) (Nat.le_of_ble_eq_true rfl) rfl (fun Γ hO hn hQ => ?_)
  have hO : Ok X RX5 cX5_lengthOfLast 0 0 Γ := hO
  unfold f_X5_lengthOfLast at h
  refine tr_iload_n hO 0 1 rfl dX5_lengthOfLast_0 ?_
  refine tr_bipush hO 1 (v := 30) (by decide) dX5_lengthOfLast_1 ?_
  refine tr_imul hO 3 dX5_lengthOfLast_3 ?_
  refine tr_aload_n hO 4 0 rfl dX5_lengthOfLast_4 ?_
  refine tr_get hO 5 (k := 5) (x_vy (by decide) hj) rfl rfl iX5 (by decide) wF_X5_21 rfl rfl dX5_lengthOfLast_5 ?_
  refine tr_iload_n hO 8 1 rfl dX5_lengthOfLast_8 ?_
  obtain ⟨hg, h⟩ := of_gd h
  refine tr_iald hO 9 (x_vy (by decide) hj) a_11 hg dX5_lengthOfLast_9 ?_
  refine tr_iadd hO 10 dX5_lengthOfLast_10 ?_
  refine tr_iconst hO 11 (v := 1) (by decide) dX5_lengthOfLast_11 ?_
  refine tr_isub hO 12 dX5_lengthOfLast_12 ?_
  obtain ⟨v1, e_v1, h⟩ := of_lt h
  refine tr_istore_n hO 13 (v := v1) e_v1 (lv' := [(3, .int v1), (0, .ref (X.1 1 j)), (1, .int a1), (2, .int a2)]) hn rfl (by decide) rfl dX5_lengthOfLast_13 ?_
  refine tr_iconst hO 14 (v := 0) (by decide) dX5_lengthOfLast_14 ?_
  refine tr_istore hO 15 (v := 0) rfl (lv' := [(4, .int 0), (3, .int v1), (0, .ref (X.1 1 j)), (1, .int a1), (2, .int a2)]) hn (by decide) rfl dX5_lengthOfLast_15 ?_
  refine tr_iconst hO 17 (v := 0) (by decide) dX5_lengthOfLast_17 ?_
  refine tr_istore hO 18 (v := 0) rfl (lv' := [(5, .int 0), (4, .int 0), (3, .int v1), (0, .ref (X.1 1 j)), (1, .int a1), (2, .int a2)]) hn (by decide) rfl dX5_lengthOfLast_18 ?_
  have L20_T : ∀ (n : Nat) (v2 : Int32) (v3 : Int32) (μ4 : mT), f_X5_lengthOfLast_L20 j a1 a2 v1 n v2 v3 μ4 = some (r, μ') → tj X Γ μ4 20 [(0, .ref (X.1 1 j)), (1, .int a1), (2, .int a2), (3, .int v1), (4, .int v2), (5, .int v3)] [] := by
    intro n
    induction n with
    | zero =>
      intro v2 v3 μ4 h
      rw [f_X5_lengthOfLast_L20] at h
      cases h
    | succ n ih =>
      intro v2 v3 μ4 h
      rw [f_X5_lengthOfLast_L20] at h
      refine tr_iload hO 20 5 rfl dX5_lengthOfLast_20 ?_
      refine tr_iload_n hO 22 2 rfl dX5_lengthOfLast_22 ?_
      refine tr_icmp_ge hO 23 62 (by decide) dX5_lengthOfLast_23 (fun hc => ?_) (fun hc => ?_)
      · have h := of_t hc h
        refine tr_iload hO 62 4 rfl dX5_lengthOfLast_62 ?_
        cases h
        exact tr_iret hO 64 hQ rfl dX5_lengthOfLast_64
      · have h := of_f hc h
        refine tr_iload hO 26 5 rfl dX5_lengthOfLast_26 ?_
        refine tr_aload_n hO 28 0 rfl dX5_lengthOfLast_28 ?_
        refine tr_get hO 29 (k := 5) (x_vy (by decide) hj) rfl rfl iX5 (by decide) wF_X5_21 rfl rfl dX5_lengthOfLast_29 ?_
        refine tr_iload_n hO 32 1 rfl dX5_lengthOfLast_32 ?_
        obtain ⟨hg, h⟩ := of_gd h
        refine tr_iald hO 33 (x_vy (by decide) hj) a_11 hg dX5_lengthOfLast_33 ?_
        refine tr_icmp_ge hO 34 62 (by decide) dX5_lengthOfLast_34 (fun hc => ?_) (fun hc => ?_)
        · have h := of_t hc h
          refine tr_iload hO 62 4 rfl dX5_lengthOfLast_62 ?_
          cases h
          exact tr_iret hO 64 hQ rfl dX5_lengthOfLast_64
        · have h := of_f hc h
          refine tr_iload hO 37 4 rfl dX5_lengthOfLast_37 ?_
          refine tr_aload_n hO 39 0 rfl dX5_lengthOfLast_39 ?_
          refine tr_get hO 40 (k := 2) (x_vy (by decide) hj) rfl rfl iX5 (by decide) wF_X5_9 rfl rfl dX5_lengthOfLast_40 ?_
          refine tr_aload_n hO 43 0 rfl dX5_lengthOfLast_43 ?_
          refine tr_get hO 44 (k := 6) (x_vy (by decide) hj) rfl rfl iX5 (by decide) wF_X5_24 rfl rfl dX5_lengthOfLast_44 ?_
          refine tr_iload_n hO 47 3 rfl dX5_lengthOfLast_47 ?_
          refine tr_iload hO 48 5 rfl dX5_lengthOfLast_48 ?_
          refine tr_isub hO 50 dX5_lengthOfLast_50 ?_
          obtain ⟨hg, h⟩ := of_gd h
          refine tr_iald hO 51 (x_vy (by decide) hj) a_12 hg dX5_lengthOfLast_51 ?_
          obtain ⟨hg, h⟩ := of_gd h
          refine tr_iald hO 52 (x_vy (by decide) hj) a_8 hg dX5_lengthOfLast_52 ?_
          refine tr_iadd hO 53 dX5_lengthOfLast_53 ?_
          obtain ⟨v5, e_v5, h⟩ := of_lt h
          refine tr_istore hO 54 (v := v5) e_v5 (lv' := [(4, .int v5), (0, .ref (X.1 1 j)), (1, .int a1), (2, .int a2), (3, .int v1), (5, .int v3)]) hn (by decide) rfl dX5_lengthOfLast_54 ?_
          obtain ⟨v6, e_v6, h⟩ := of_lt h
          refine tr_iinc hO 56 (q := 5) (v := v6) (lv' := [(5, .int v6), (4, .int v5), (0, .ref (X.1 1 j)), (1, .int a1), (2, .int a2), (3, .int v1)]) hn rfl (by rw [e_v6]; rfl) (by decide) rfl dX5_lengthOfLast_56 ?_
          refine tr_goto hO 59 20 (by decide) dX5_lengthOfLast_59 ?_
          refine tr_sub [2, 3, 4, 5, 1, 0] rfl ?_
          exact ih _ _ _ h
  refine tr_sub [3, 4, 5, 2, 1, 0] rfl ?_
  exact L20_T _ _ _ _ h
set_option maxHeartbeats 4000000 in
set_option maxRecDepth 100000 in
theorem c_X6_canBringIn {X : xT} (hX : xOK X) {j : Nat} {a1 : Int32} {a2 : Int32} (hj : j < 11) {μ μ' : mT} {r : Int32} (h : f_X6_canBringIn j a1 a2 μ = some (r, μ')) : CMi X yX6_canBringIn cX6_canBringIn 3 .boolean 1 25 [.ref (X.1 0 j), .int a1, .int a2] μ r μ' := by
  refine CMi_of hX (by decide +kernel) (lv := [(0, .ref (X.1 0 j)), (1, .int a1), (2, .int a2)]) (Nat.le_of_ble_eq_true rfl) rfl (fun Γ hO hn hQ => ?_)
  have hO : Ok X RX6 cX6_canBringIn 1 25 Γ := hO
  unfold f_X6_canBringIn at h
  refine tr_iload_n hO 0 2 rfl dX6_canBringIn_0 ?_
  refine tr_aload_n hO 1 0 rfl dX6_canBringIn_1 ?_
  refine tr_get hO 2 (k := 11) (x_vy (by decide) hj) rfl rfl iX6 (by decide) wF_X6_35 rfl rfl dX6_canBringIn_2 ?_
  refine tr_bipush hO 5 (v := 8) (by decide) dX6_canBringIn_5 ?_
  obtain ⟨v1, μ2, hcall, h⟩ := of_bd h
  refine tr_callI hO 7 (na := 1) (As := [.int 8]) (st := [.int a2]) (c_X5_manyIn hX hj hcall) rfl (x_vy (by decide) hj) rfl rfl wM_X6_121 wI_X5_manyIn wS_X5_manyIn wN_X5 wC_X5_manyIn (by decide +kernel) rfl (by decide) (by decide) (Nat.le_of_ble_eq_true rfl) dX6_canBringIn_7 ?_
  refine tr_icmp_gt hO 10 45 (by decide) dX6_canBringIn_10 (fun hc => ?_) (fun hc => ?_)
  · have h := of_t hc h
    refine tr_iconst hO 45 (v := 0) (by decide) dX6_canBringIn_45 ?_
    cases h
    exact tr_iret hO 46 hQ (by decide) dX6_canBringIn_46
  · have h := of_f hc h
    refine tr_aload_n hO 13 0 rfl dX6_canBringIn_13 ?_
    refine tr_get hO 14 (k := 11) (x_vy (by decide) hj) rfl rfl iX6 (by decide) wF_X6_35 rfl rfl dX6_canBringIn_14 ?_
    refine tr_iload_n hO 17 1 rfl dX6_canBringIn_17 ?_
    obtain ⟨v3, μ4, hcall, h⟩ := of_bd h
    refine tr_callI hO 18 (na := 1) (As := [.int a1]) (st := []) (c_X5_lengthOfRow hX hj hcall) rfl (x_vy (by decide) hj) rfl rfl wM_X6_104 wI_X5_lengthOfRow wS_X5_lengthOfRow wN_X5 wC_X5_lengthOfRow (by decide +kernel) rfl (by decide) (by decide) (Nat.le_of_ble_eq_true rfl) dX6_canBringIn_18 ?_
    refine tr_aload_n hO 21 0 rfl dX6_canBringIn_21 ?_
    refine tr_get hO 22 (k := 11) (x_vy (by decide) hj) rfl rfl iX6 (by decide) wF_X6_35 rfl rfl dX6_canBringIn_22 ?_
    refine tr_bipush hO 25 (v := 8) (by decide) dX6_canBringIn_25 ?_
    refine tr_iload_n hO 27 2 rfl dX6_canBringIn_27 ?_
    obtain ⟨v5, μ6, hcall, h⟩ := of_bd h
    refine tr_callI hO 28 (na := 2) (As := [.int 8, .int a2]) (st := [.int v3]) (c_X5_lengthOfLast hX hj hcall) rfl (x_vy (by decide) hj) rfl rfl wM_X6_124 wI_X5_lengthOfLast wS_X5_lengthOfLast wN_X5 wC_X5_lengthOfLast (by decide +kernel) rfl (by decide) (by decide) (Nat.le_of_ble_eq_true rfl) dX6_canBringIn_28 ?_
    refine tr_iadd hO 31 dX6_canBringIn_31 ?_
    refine tr_aload_n hO 32 0 rfl dX6_canBringIn_32 ?_
    refine tr_get hO 33 (k := 8) (x_vy (by decide) hj) rfl rfl iX6 (by decide) wF_X6_23 rfl rfl dX6_canBringIn_33 ?_
    refine tr_iload_n hO 36 1 rfl dX6_canBringIn_36 ?_
    obtain ⟨hg, h⟩ := of_gd h
    refine tr_iald hO 37 (x_vy (by decide) hj) a_5 hg dX6_canBringIn_37 ?_
    refine tr_icmp_gt hO 38 45 (by decide) dX6_canBringIn_38 (fun hc => ?_) (fun hc => ?_)
    · have h := of_t hc h
      refine tr_iconst hO 45 (v := 0) (by decide) dX6_canBringIn_45 ?_
      cases h
      exact tr_iret hO 46 hQ (by decide) dX6_canBringIn_46
    · have h := of_f hc h
      refine tr_iconst hO 41 (v := 1) (by decide) dX6_canBringIn_41 ?_
      refine tr_goto hO 42 46 (by decide) dX6_canBringIn_42 ?_
      cases h
      exact tr_iret hO 46 hQ (by decide) dX6_canBringIn_46
set_option maxHeartbeats 4000000 in
set_option maxRecDepth 100000 in
theorem c_X6_tracksFor {X : xT} (hX : xOK X) {j : Nat} {a1 : Int32} (hj : j < 11) {μ μ' : mT} {r : Int32} (h : f_X6_tracksFor j a1 μ = some (r, μ')) : CMi X yX6_tracksFor cX6_tracksFor 4 .int 2 47 [.ref (X.1 0 j), .int a1] μ r μ' := by
  refine CMi_of hX (by decide +kernel) (lv := [(0, .ref (X.1 0 j)), (1, .int a1)]) (Nat.le_of_ble_eq_true rfl) rfl (fun Γ hO hn hQ => ?_)
  have hO : Ok X RX6 cX6_tracksFor 2 47 Γ := hO
  unfold f_X6_tracksFor at h
  refine tr_iconst hO 0 (v := 0) (by decide) dX6_tracksFor_0 ?_
  refine tr_istore_n hO 1 (v := 0) rfl (lv' := [(2, .int 0), (0, .ref (X.1 0 j)), (1, .int a1)]) hn rfl (by decide) rfl dX6_tracksFor_1 ?_
  refine tr_iconst hO 2 (v := 0) (by decide) dX6_tracksFor_2 ?_
  refine tr_istore_n hO 3 (v := 0) rfl (lv' := [(3, .int 0), (2, .int 0), (0, .ref (X.1 0 j)), (1, .int a1)]) hn rfl (by decide) rfl dX6_tracksFor_3 ?_
  have L4_T : ∀ (n : Nat) (v1 : Int32) (v2 : Int32) (μ3 : mT), f_X6_tracksFor_L4 j a1 n v1 v2 μ3 = some (r, μ') → tj X Γ μ3 4 [(0, .ref (X.1 0 j)), (1, .int a1), (2, .int v1), (3, .int v2)] [] := by
    intro n
    induction n with
    | zero =>
      intro v1 v2 μ3 h
      rw [f_X6_tracksFor_L4] at h
      cases h
    | succ n ih =>
      intro v1 v2 μ3 h
      rw [f_X6_tracksFor_L4] at h
      refine tr_iload_n hO 4 3 rfl dX6_tracksFor_4 ?_
      refine tr_aload_n hO 5 0 rfl dX6_tracksFor_5 ?_
      refine tr_get hO 6 (k := 7) (x_vy (by decide) hj) rfl rfl iX6 (by decide) wF_X6_78 rfl rfl dX6_tracksFor_6 ?_
      refine tr_icmp_ge hO 9 37 (by decide) dX6_tracksFor_9 (fun hc => ?_) (fun hc => ?_)
      · have h := of_t hc h
        refine tr_iload_n hO 37 2 rfl dX6_tracksFor_37 ?_
        cases h
        exact tr_iret hO 38 hQ rfl dX6_tracksFor_38
      · have h := of_f hc h
        refine tr_iload_n hO 12 1 rfl dX6_tracksFor_12 ?_
        obtain ⟨J4, e_J4, h⟩ := of_lt h
        have J4_T : ∀ (v5 : Int32) (μ6 : mT), J4 v5 μ6 = some (r, μ') → tj X Γ μ6 31 [(0, .ref (X.1 0 j)), (1, .int a1), (2, .int v5), (3, .int v2)] [] := by
          intro v5 μ6 h
          rw [e_J4] at h
          obtain ⟨v7, e_v7, h⟩ := of_lt h
          refine tr_iinc hO 31 (q := 3) (v := v7) (lv' := [(3, .int v7), (0, .ref (X.1 0 j)), (1, .int a1), (2, .int v5)]) hn rfl (by rw [e_v7]; rfl) (by decide) rfl dX6_tracksFor_31 ?_
          refine tr_goto hO 34 4 (by decide) dX6_tracksFor_34 ?_
          refine tr_sub [1, 2, 3, 0] rfl ?_
          exact ih _ _ _ h
        refine tr_if_le hO 13 31 (by decide) dX6_tracksFor_13 (fun hc => ?_) (fun hc => ?_)
        · have h := of_t hc h
          exact J4_T _ _ h
        · have h := of_f hc h
          refine tr_aload_n hO 16 0 rfl dX6_tracksFor_16 ?_
          refine tr_iload_n hO 17 3 rfl dX6_tracksFor_17 ?_
          refine tr_iload_n hO 18 1 rfl dX6_tracksFor_18 ?_
          obtain ⟨v8, μ9, hcall, h⟩ := of_bd h
          refine tr_callI hO 19 (na := 2) (As := [.int v2, .int a1]) (st := []) (c_X6_canBringIn hX hj hcall) rfl (x_vy (by decide) hj) rfl rfl wM_X6_139 wI_X6_canBringIn wS_X6_canBringIn wN_X6 wC_X6_canBringIn (by decide +kernel) rfl (by decide) (by decide) (Nat.le_of_ble_eq_true rfl) dX6_tracksFor_19 ?_
          refine tr_if_eq hO 22 31 (by decide) dX6_tracksFor_22 (fun hc => ?_) (fun hc => ?_)
          · have h := of_t hc h
            exact J4_T _ _ h
          · have h := of_f hc h
            refine tr_iload_n hO 25 2 rfl dX6_tracksFor_25 ?_
            refine tr_iconst hO 26 (v := 1) (by decide) dX6_tracksFor_26 ?_
            refine tr_iload_n hO 27 3 rfl dX6_tracksFor_27 ?_
            refine tr_ishl hO 28 dX6_tracksFor_28 ?_
            refine tr_ior hO 29 dX6_tracksFor_29 ?_
            obtain ⟨v10, e_v10, h⟩ := of_lt h
            refine tr_istore_n hO 30 (v := v10) e_v10 (lv' := [(2, .int v10), (0, .ref (X.1 0 j)), (1, .int a1), (3, .int v2)]) hn rfl (by decide) rfl dX6_tracksFor_30 ?_
            refine tr_sub [1, 2, 0, 3] rfl ?_
            exact J4_T _ _ h
  refine tr_sub [2, 3, 1, 0] rfl ?_
  exact L4_T _ _ _ _ h
set_option maxHeartbeats 4000000 in
set_option maxRecDepth 100000 in
theorem c_X6_canTakeOut {X : xT} (hX : xOK X) {j : Nat} {a1 : Int32} {a2 : Int32} (hj : j < 11) {μ μ' : mT} {r : Int32} (h : f_X6_canTakeOut j a1 a2 μ = some (r, μ')) : CMi X yX6_canTakeOut cX6_canTakeOut 3 .boolean 1 25 [.ref (X.1 0 j), .int a1, .int a2] μ r μ' := by
  refine CMi_of hX (by decide +kernel) (lv := [(0, .ref (X.1 0 j)), (1, .int a1), (2, .int a2)]) (Nat.le_of_ble_eq_true rfl) rfl (fun Γ hO hn hQ => ?_)
  have hO : Ok X RX6 cX6_canTakeOut 1 25 Γ := hO
  unfold f_X6_canTakeOut at h
  refine tr_iload_n hO 0 2 rfl dX6_canTakeOut_0 ?_
  refine tr_aload_n hO 1 0 rfl dX6_canTakeOut_1 ?_
  refine tr_get hO 2 (k := 11) (x_vy (by decide) hj) rfl rfl iX6 (by decide) wF_X6_35 rfl rfl dX6_canTakeOut_2 ?_
  refine tr_iload_n hO 5 1 rfl dX6_canTakeOut_5 ?_
  obtain ⟨v1, μ2, hcall, h⟩ := of_bd h
  refine tr_callI hO 6 (na := 1) (As := [.int a1]) (st := [.int a2]) (c_X5_manyIn hX hj hcall) rfl (x_vy (by decide) hj) rfl rfl wM_X6_121 wI_X5_manyIn wS_X5_manyIn wN_X5 wC_X5_manyIn (by decide +kernel) rfl (by decide) (by decide) (Nat.le_of_ble_eq_true rfl) dX6_canTakeOut_6 ?_
  refine tr_icmp_gt hO 9 44 (by decide) dX6_canTakeOut_9 (fun hc => ?_) (fun hc => ?_)
  · have h := of_t hc h
    refine tr_iconst hO 44 (v := 0) (by decide) dX6_canTakeOut_44 ?_
    cases h
    exact tr_iret hO 45 hQ (by decide) dX6_canTakeOut_45
  · have h := of_f hc h
    refine tr_aload_n hO 12 0 rfl dX6_canTakeOut_12 ?_
    refine tr_get hO 13 (k := 11) (x_vy (by decide) hj) rfl rfl iX6 (by decide) wF_X6_35 rfl rfl dX6_canTakeOut_13 ?_
    refine tr_bipush hO 16 (v := 8) (by decide) dX6_canTakeOut_16 ?_
    obtain ⟨v3, μ4, hcall, h⟩ := of_bd h
    refine tr_callI hO 18 (na := 1) (As := [.int 8]) (st := []) (c_X5_lengthOfRow hX hj hcall) rfl (x_vy (by decide) hj) rfl rfl wM_X6_104 wI_X5_lengthOfRow wS_X5_lengthOfRow wN_X5 wC_X5_lengthOfRow (by decide +kernel) rfl (by decide) (by decide) (Nat.le_of_ble_eq_true rfl) dX6_canTakeOut_18 ?_
    refine tr_aload_n hO 21 0 rfl dX6_canTakeOut_21 ?_
    refine tr_get hO 22 (k := 11) (x_vy (by decide) hj) rfl rfl iX6 (by decide) wF_X6_35 rfl rfl dX6_canTakeOut_22 ?_
    refine tr_iload_n hO 25 1 rfl dX6_canTakeOut_25 ?_
    refine tr_iload_n hO 26 2 rfl dX6_canTakeOut_26 ?_
    obtain ⟨v5, μ6, hcall, h⟩ := of_bd h
    refine tr_callI hO 27 (na := 2) (As := [.int a1, .int a2]) (st := [.int v3]) (c_X5_lengthOfLast hX hj hcall) rfl (x_vy (by decide) hj) rfl rfl wM_X6_124 wI_X5_lengthOfLast wS_X5_lengthOfLast wN_X5 wC_X5_lengthOfLast (by decide +kernel) rfl (by decide) (by decide) (Nat.le_of_ble_eq_true rfl) dX6_canTakeOut_27 ?_
    refine tr_iadd hO 30 dX6_canTakeOut_30 ?_
    refine tr_aload_n hO 31 0 rfl dX6_canTakeOut_31 ?_
    refine tr_get hO 32 (k := 6) (x_vy (by decide) hj) rfl rfl iX6 (by decide) wF_X6_18 rfl rfl dX6_canTakeOut_32 ?_
    refine tr_iconst hO 35 (v := 0) (by decide) dX6_canTakeOut_35 ?_
    refine tr_iald hO 36 (x_vy (by decide) hj) a_4 (by decide) dX6_canTakeOut_36 ?_
    refine tr_icmp_gt hO 37 44 (by decide) dX6_canTakeOut_37 (fun hc => ?_) (fun hc => ?_)
    · have h := of_t hc h
      refine tr_iconst hO 44 (v := 0) (by decide) dX6_canTakeOut_44 ?_
      cases h
      exact tr_iret hO 45 hQ (by decide) dX6_canTakeOut_45
    · have h := of_f hc h
      refine tr_iconst hO 40 (v := 1) (by decide) dX6_canTakeOut_40 ?_
      refine tr_goto hO 41 45 (by decide) dX6_canTakeOut_41 ?_
      cases h
      exact tr_iret hO 45 hQ (by decide) dX6_canTakeOut_45
set_option maxHeartbeats 4000000 in
set_option maxRecDepth 100000 in
theorem c_X4_couldAfterOne {X : xT} (hX : xOK X) {a1 : Int32}  {μ μ' : mT} {r : Int32} (h : f_X4_couldAfterOne a1 μ = some (r, μ')) : CMi X yX4_couldAfterOne cX4_couldAfterOne 6 .boolean 3 70 [.ref (X.1 20 0), .int a1] μ r μ' := by
  refine CMi_of hX (by decide +kernel) (lv := [(0, .ref (X.1 20 0)), (1, .int a1)]) (Nat.le_of_ble_eq_true rfl) rfl (fun Γ hO hn hQ => ?_)
  have hO : Ok X RX4 cX4_couldAfterOne 3 70 Γ := hO
  unfold f_X4_couldAfterOne at h
  refine tr_aload_n hO 0 0 rfl dX4_couldAfterOne_0 ?_
  refine tr_get hO 1 (k := 0) (x_v0 (by decide)) rfl rfl iX4 (by decide) wF_X4_12 rfl rfl dX4_couldAfterOne_1 ?_
  refine tr_getN hO 4 (k := 11) (x_vy (by decide) (by decide)) rfl rfl iX6 (by decide) (host := RX7) (by decide +kernel) rfl rfl dX4_couldAfterOne_4 ?_
  refine tr_bipush hO 7 (v := 8) (by decide) dX4_couldAfterOne_7 ?_
  obtain ⟨v1, μ2, hcall, h⟩ := of_bd h
  refine tr_callI hO 9 (na := 1) (As := [.int 8]) (st := []) (c_X5_manyIn hX (by decide) hcall) rfl (x_vy (by decide) (by decide)) rfl rfl wM_X4_30 wI_X5_manyIn wS_X5_manyIn wN_X5 wC_X5_manyIn (by decide +kernel) rfl (by decide) (by decide) (Nat.le_of_ble_eq_true rfl) dX4_couldAfterOne_9 ?_
  refine tr_istore_n hO 12 (v := v1) rfl (lv' := [(2, .int v1), (0, .ref (X.1 20 0)), (1, .int a1)]) hn rfl (by decide) rfl dX4_couldAfterOne_12 ?_
  refine tr_aload_n hO 13 1 rfl dX4_couldAfterOne_13 ?_
  refine tr_get hO 14 (k := 0) (x_v0 (by decide)) rfl rfl iX4 (by decide) wF_X4_12 rfl rfl dX4_couldAfterOne_14 ?_
  refine tr_getN hO 17 (k := 13) (x_vy (by decide) (by decide)) rfl rfl iX6 (by decide) (host := RX7) (by decide +kernel) rfl rfl dX4_couldAfterOne_17 ?_
  refine tr_iload_n hO 20 2 rfl dX4_couldAfterOne_20 ?_
  obtain ⟨v3, μ4, hcall, h⟩ := of_bd h
  refine tr_callI hO 21 (na := 1) (As := [.int a1]) (st := []) (c_X3_sizeOf hX (by decide) hcall) rfl (x_vy (by decide) (by decide)) rfl rfl wM_X4_39 wI_X3_sizeOf wS_X3_sizeOf wN_X3 wC_X3_sizeOf (by decide +kernel) rfl (by decide) (by decide) (Nat.le_of_ble_eq_true rfl) dX4_couldAfterOne_21 ?_
  refine tr_istore_n hO 24 (v := v3) rfl (lv' := [(3, .int v3), (2, .int v1), (0, .ref (X.1 20 0)), (1, .int a1)]) hn rfl (by decide) rfl dX4_couldAfterOne_24 ?_
  refine tr_iload_n hO 25 1 rfl dX4_couldAfterOne_25 ?_
  refine tr_iload_n hO 26 0 rfl dX4_couldAfterOne_26 ?_
  refine tr_icmp_ne hO 27 54 (by decide) dX4_couldAfterOne_27 (fun hc => ?_) (fun hc => ?_)
  · have h := of_f hc h
    refine tr_aload_n hO 54 2 rfl dX4_couldAfterOne_54 ?_
    refine tr_get hO 55 (k := 0) (x_v0 (by decide)) rfl rfl iX4 (by decide) wF_X4_12 rfl rfl dX4_couldAfterOne_55 ?_
    refine tr_iload_n hO 58 3 rfl dX4_couldAfterOne_58 ?_
    obtain ⟨v5, μ6, hcall, h⟩ := of_bd h
    refine tr_callI hO 59 (na := 1) (As := [.int a1]) (st := []) (c_X6_manyAlike hX (by decide) hcall) rfl (x_vy (by decide) (by decide)) rfl rfl wM_X4_22 wI_X6_manyAlike wS_X6_manyAlike wN_X6 wC_X6_manyAlike (by decide +kernel) rfl (by decide) (by decide) (Nat.le_of_ble_eq_true rfl) dX4_couldAfterOne_59 ?_
    refine tr_iload_n hO 62 1 rfl dX4_couldAfterOne_62 ?_
    refine tr_iload_n hO 63 0 rfl dX4_couldAfterOne_63 ?_
    refine tr_min hO 64 wM_X4_61 (Nat.le_of_ble_eq_true rfl) (by decide) (by decide) dX4_couldAfterOne_64 ?_
    refine tr_icmp_ge hO 67 72 (by decide) dX4_couldAfterOne_67 (fun hc => ?_) (fun hc => ?_)
    · have h := of_t hc h
      refine tr_iload_n hO 72 1 rfl dX4_couldAfterOne_72 ?_
      refine tr_iload_n hO 73 0 rfl dX4_couldAfterOne_73 ?_
      refine tr_icmp_le hO 74 96 (by decide) dX4_couldAfterOne_74 (fun hc => ?_) (fun hc => ?_)
      · have h := of_t hc h
        refine tr_aload_n hO 96 2 rfl dX4_couldAfterOne_96 ?_
        refine tr_iload_n hO 97 3 rfl dX4_couldAfterOne_97 ?_
        refine tr_iload_n hO 98 1 rfl dX4_couldAfterOne_98 ?_
        obtain ⟨v7, μ8, hcall, h⟩ := of_bd h
        refine tr_callI hO 99 (na := 2) (As := [.int a1, .int v1]) (st := []) (c_X4_trackOfNext hX  hcall) rfl (x_v0 (by decide)) rfl rfl wM_X4_44 wI_X4_trackOfNext wS_X4_trackOfNext wN_X4 wC_X4_trackOfNext (by decide +kernel) rfl (by decide) (by decide) (Nat.le_of_ble_eq_true rfl) dX4_couldAfterOne_99 ?_
        refine tr_istore hO 102 (v := v7) rfl (lv' := [(4, .int v7), (3, .int v3), (2, .int v1), (0, .ref (X.1 20 0)), (1, .int a1)]) hn (by decide) rfl dX4_couldAfterOne_102 ?_
        refine tr_iload_n hO 104 1 rfl dX4_couldAfterOne_104 ?_
        refine tr_iload_n hO 105 2 rfl dX4_couldAfterOne_105 ?_
        refine tr_isub hO 106 dX4_couldAfterOne_106 ?_
        obtain ⟨v9, e_v9, h⟩ := of_lt h
        refine tr_istore hO 107 (v := v9) e_v9 (lv' := [(5, .int v9), (4, .int v7), (3, .int v3), (2, .int v1), (0, .ref (X.1 20 0)), (1, .int a1)]) hn (by decide) rfl dX4_couldAfterOne_107 ?_
        refine tr_iload hO 109 1 rfl dX4_couldAfterOne_109 ?_
        refine tr_bipush hO 111 (v := (-6)) (by decide) dX4_couldAfterOne_111 ?_
        refine tr_icmp_eq hO 113 147 (by decide) dX4_couldAfterOne_113 (fun hc => ?_) (fun hc => ?_)
        · have h := of_t hc h
          refine tr_iconst hO 147 (v := 0) (by decide) dX4_couldAfterOne_147 ?_
          cases h
          exact tr_iret hO 148 hQ (by decide) dX4_couldAfterOne_148
        · have h := of_f hc h
          refine tr_aload_n hO 116 4 rfl dX4_couldAfterOne_116 ?_
          refine tr_iload_n hO 117 5 rfl dX4_couldAfterOne_117 ?_
          refine tr_iload_n hO 118 3 rfl dX4_couldAfterOne_118 ?_
          refine tr_iload hO 119 1 rfl dX4_couldAfterOne_119 ?_
          obtain ⟨v10, μ11, hcall, h⟩ := of_bd h
          refine tr_callI hO 121 (na := 3) (As := [.int a1, .int v1, .int v7]) (st := []) (c_X4_manyNext hX  hcall) rfl (x_v0 (by decide)) rfl rfl wM_X4_48 wI_X4_manyNext wS_X4_manyNext wN_X4 wC_X4_manyNext (by decide +kernel) rfl (by decide) (by decide) (Nat.le_of_ble_eq_true rfl) dX4_couldAfterOne_121 ?_
          refine tr_iload hO 124 0 rfl dX4_couldAfterOne_124 ?_
          refine tr_icmp_ne hO 126 147 (by decide) dX4_couldAfterOne_126 (fun hc => ?_) (fun hc => ?_)
          · have h := of_f hc h
            refine tr_iconst hO 147 (v := 0) (by decide) dX4_couldAfterOne_147 ?_
            cases h
            exact tr_iret hO 148 hQ (by decide) dX4_couldAfterOne_148
          · have h := of_t hc h
            refine tr_aload_n hO 129 4 rfl dX4_couldAfterOne_129 ?_
            refine tr_get hO 130 (k := 0) (x_v0 (by decide)) rfl rfl iX4 (by decide) wF_X4_12 rfl rfl dX4_couldAfterOne_130 ?_
            refine tr_iload hO 133 1 rfl dX4_couldAfterOne_133 ?_
            refine tr_iload hO 135 0 rfl dX4_couldAfterOne_135 ?_
            obtain ⟨v12, μ13, hcall, h⟩ := of_bd h
            refine tr_callI hO 137 (na := 2) (As := [.int v7, .int v9]) (st := []) (c_X6_canTakeOut hX (by decide) hcall) rfl (x_vy (by decide) (by decide)) rfl rfl wM_X4_90 wI_X6_canTakeOut wS_X6_canTakeOut wN_X6 wC_X6_canTakeOut (by decide +kernel) rfl (by decide) (by decide) (Nat.le_of_ble_eq_true rfl) dX4_couldAfterOne_137 ?_
            refine tr_if_eq hO 140 147 (by decide) dX4_couldAfterOne_140 (fun hc => ?_) (fun hc => ?_)
            · have h := of_t hc h
              refine tr_iconst hO 147 (v := 0) (by decide) dX4_couldAfterOne_147 ?_
              cases h
              exact tr_iret hO 148 hQ (by decide) dX4_couldAfterOne_148
            · have h := of_f hc h
              refine tr_iconst hO 143 (v := 1) (by decide) dX4_couldAfterOne_143 ?_
              refine tr_goto hO 144 148 (by decide) dX4_couldAfterOne_144 ?_
              cases h
              exact tr_iret hO 148 hQ (by decide) dX4_couldAfterOne_148
      · have h := of_f hc h
        refine tr_aload_n hO 77 2 rfl dX4_couldAfterOne_77 ?_
        refine tr_get hO 78 (k := 0) (x_v0 (by decide)) rfl rfl iX4 (by decide) wF_X4_12 rfl rfl dX4_couldAfterOne_78 ?_
        refine tr_iload_n hO 81 1 rfl dX4_couldAfterOne_81 ?_
        refine tr_iload_n hO 82 0 rfl dX4_couldAfterOne_82 ?_
        refine tr_isub hO 83 dX4_couldAfterOne_83 ?_
        obtain ⟨v14, μ15, hcall, h⟩ := of_bd h
        refine tr_callI hO 84 (na := 1) (As := [.int (v1 - v3)]) (st := []) (c_X6_tracksFor hX (by decide) hcall) rfl (x_vy (by decide) (by decide)) rfl rfl wM_X4_110 wI_X6_tracksFor wS_X6_tracksFor wN_X6 wC_X6_tracksFor (by decide +kernel) rfl (by decide) (by decide) (Nat.le_of_ble_eq_true rfl) dX4_couldAfterOne_84 ?_
        refine tr_if_eq hO 87 94 (by decide) dX4_couldAfterOne_87 (fun hc => ?_) (fun hc => ?_)
        · have h := of_t hc h
          refine tr_iconst hO 94 (v := 0) (by decide) dX4_couldAfterOne_94 ?_
          cases h
          exact tr_iret hO 95 hQ (by decide) dX4_couldAfterOne_95
        · have h := of_f hc h
          refine tr_iconst hO 90 (v := 1) (by decide) dX4_couldAfterOne_90 ?_
          refine tr_goto hO 91 95 (by decide) dX4_couldAfterOne_91 ?_
          cases h
          exact tr_iret hO 95 hQ (by decide) dX4_couldAfterOne_95
    · have h := of_f hc h
      refine tr_iconst hO 70 (v := 0) (by decide) dX4_couldAfterOne_70 ?_
      cases h
      exact tr_iret hO 71 hQ (by decide) dX4_couldAfterOne_71
  · have h := of_t hc h
    refine tr_aload_n hO 30 2 rfl dX4_couldAfterOne_30 ?_
    refine tr_get hO 31 (k := 0) (x_v0 (by decide)) rfl rfl iX4 (by decide) wF_X4_12 rfl rfl dX4_couldAfterOne_31 ?_
    obtain ⟨v16, μ17, hcall, h⟩ := of_bd h
    refine tr_callI hO 34 (na := 0) (As := []) (st := []) (c_X6_canGoRound hX (by decide) hcall) rfl (x_vy (by decide) (by decide)) rfl rfl wM_X4_100 wI_X6_canGoRound wS_X6_canGoRound wN_X6 wC_X6_canGoRound (by decide +kernel) rfl (by decide) (by decide) (Nat.le_of_ble_eq_true rfl) dX4_couldAfterOne_34 ?_
    refine tr_if_eq hO 37 52 (by decide) dX4_couldAfterOne_37 (fun hc => ?_) (fun hc => ?_)
    · have h := of_t hc h
      refine tr_iconst hO 52 (v := 0) (by decide) dX4_couldAfterOne_52 ?_
      cases h
      exact tr_iret hO 53 hQ (by decide) dX4_couldAfterOne_53
    · have h := of_f hc h
      refine tr_aload_n hO 40 2 rfl dX4_couldAfterOne_40 ?_
      refine tr_iload_n hO 41 3 rfl dX4_couldAfterOne_41 ?_
      obtain ⟨v18, μ19, hcall, h⟩ := of_bd h
      refine tr_callI hO 42 (na := 1) (As := [.int a1]) (st := []) (c_X4_isTurned hX  hcall) rfl (x_v0 (by decide)) rfl rfl wM_X4_107 wI_X4_isTurned wS_X4_isTurned wN_X4 wC_X4_isTurned (by decide +kernel) rfl (by decide) (by decide) (Nat.le_of_ble_eq_true rfl) dX4_couldAfterOne_42 ?_
      refine tr_if_eq hO 45 52 (by decide) dX4_couldAfterOne_45 (fun hc => ?_) (fun hc => ?_)
      · have h := of_t hc h
        refine tr_iconst hO 52 (v := 0) (by decide) dX4_couldAfterOne_52 ?_
        cases h
        exact tr_iret hO 53 hQ (by decide) dX4_couldAfterOne_53
      · have h := of_f hc h
        refine tr_iconst hO 48 (v := 1) (by decide) dX4_couldAfterOne_48 ?_
        refine tr_goto hO 49 53 (by decide) dX4_couldAfterOne_49 ?_
        cases h
        exact tr_iret hO 53 hQ (by decide) dX4_couldAfterOne_53
set_option maxHeartbeats 4000000 in
set_option maxRecDepth 100000 in
theorem c_X4_couldAfterTakingOut {X : xT} (hX : xOK X) {a1 : Int32} {a2 : Int32}  {μ μ' : mT} {r : Int32} (h : f_X4_couldAfterTakingOut a1 a2 μ = some (r, μ')) : CMi X yX4_couldAfterTakingOut cX4_couldAfterTakingOut 6 .boolean 4 95 [.ref (X.1 20 0), .int a1, .int a2] μ r μ' := by
  refine CMi_of hX (by decide +kernel) (lv := [(0, .ref (X.1 20 0)), (1, .int a1), (2, .int a2)]) (Nat.le_of_ble_eq_true rfl) rfl (fun Γ hO hn hQ => ?_)
  have hO : Ok X RX4 cX4_couldAfterTakingOut 4 95 Γ := hO
  unfold f_X4_couldAfterTakingOut at h
  refine tr_aload_n hO 0 0 rfl dX4_couldAfterTakingOut_0 ?_
  refine tr_get hO 1 (k := 0) (x_v0 (by decide)) rfl rfl iX4 (by decide) wF_X4_12 rfl rfl dX4_couldAfterTakingOut_1 ?_
  refine tr_getN hO 4 (k := 11) (x_vy (by decide) (by decide)) rfl rfl iX6 (by decide) (host := RX7) (by decide +kernel) rfl rfl dX4_couldAfterTakingOut_4 ?_
  refine tr_iload_n hO 7 2 rfl dX4_couldAfterTakingOut_7 ?_
  obtain ⟨v1, μ2, hcall, h⟩ := of_bd h
  refine tr_callI hO 8 (na := 1) (As := [.int a2]) (st := []) (c_X5_manyIn hX (by decide) hcall) rfl (x_vy (by decide) (by decide)) rfl rfl wM_X4_30 wI_X5_manyIn wS_X5_manyIn wN_X5 wC_X5_manyIn (by decide +kernel) rfl (by decide) (by decide) (Nat.le_of_ble_eq_true rfl) dX4_couldAfterTakingOut_8 ?_
  refine tr_istore_n hO 11 (v := v1) rfl (lv' := [(3, .int v1), (0, .ref (X.1 20 0)), (1, .int a1), (2, .int a2)]) hn rfl (by decide) rfl dX4_couldAfterTakingOut_11 ?_
  refine tr_iconst hO 12 (v := 0) (by decide) dX4_couldAfterTakingOut_12 ?_
  refine tr_istore hO 13 (v := 0) rfl (lv' := [(4, .int 0), (3, .int v1), (0, .ref (X.1 20 0)), (1, .int a1), (2, .int a2)]) hn (by decide) rfl dX4_couldAfterTakingOut_13 ?_
  refine tr_iconst hO 15 (v := 1) (by decide) dX4_couldAfterTakingOut_15 ?_
  refine tr_istore hO 16 (v := 1) rfl (lv' := [(5, .int 1), (4, .int 0), (3, .int v1), (0, .ref (X.1 20 0)), (1, .int a1), (2, .int a2)]) hn (by decide) rfl dX4_couldAfterTakingOut_16 ?_
  have L18_T : ∀ (n : Nat) (v3 : Int32) (v4 : Int32) (μ5 : mT), f_X4_couldAfterTakingOut_L18 a1 a2 v1 n v3 v4 μ5 = some (r, μ') → tj X Γ μ5 18 [(0, .ref (X.1 20 0)), (1, .int a1), (2, .int a2), (3, .int v1), (4, .int v3), (5, .int v4)] [] := by
    intro n
    induction n with
    | zero =>
      intro v3 v4 μ5 h
      rw [f_X4_couldAfterTakingOut_L18] at h
      cases h
    | succ n ih =>
      intro v3 v4 μ5 h
      rw [f_X4_couldAfterTakingOut_L18] at h
      refine tr_iload hO 18 5 rfl dX4_couldAfterTakingOut_18 ?_
      refine tr_iload_n hO 20 3 rfl dX4_couldAfterTakingOut_20 ?_
      refine tr_icmp_gt hO 21 85 (by decide) dX4_couldAfterTakingOut_21 (fun hc => ?_) (fun hc => ?_)
      · have h := of_t hc h
        refine tr_iload hO 85 4 rfl dX4_couldAfterTakingOut_85 ?_
        obtain ⟨hg, h⟩ := of_gd h
        cases h
        exact tr_iret hO 87 hQ (isB_n hg) dX4_couldAfterTakingOut_87
      · have h := of_f hc h
        refine tr_iload hO 24 4 rfl dX4_couldAfterTakingOut_24 ?_
        refine tr_if_ne hO 26 85 (by decide) dX4_couldAfterTakingOut_26 (fun hc => ?_) (fun hc => ?_)
        · have h := of_f hc h
          refine tr_iload hO 85 4 rfl dX4_couldAfterTakingOut_85 ?_
          obtain ⟨hg, h⟩ := of_gd h
          cases h
          exact tr_iret hO 87 hQ (isB_n hg) dX4_couldAfterTakingOut_87
        · have h := of_t hc h
          refine tr_aload_n hO 29 0 rfl dX4_couldAfterTakingOut_29 ?_
          refine tr_get hO 30 (k := 0) (x_v0 (by decide)) rfl rfl iX4 (by decide) wF_X4_12 rfl rfl dX4_couldAfterTakingOut_30 ?_
          refine tr_iload_n hO 33 2 rfl dX4_couldAfterTakingOut_33 ?_
          refine tr_iload hO 34 5 rfl dX4_couldAfterTakingOut_34 ?_
          obtain ⟨v6, μ7, hcall, h⟩ := of_bd h
          refine tr_callI hO 36 (na := 2) (As := [.int a2, .int v4]) (st := []) (c_X6_canTakeOut hX (by decide) hcall) rfl (x_vy (by decide) (by decide)) rfl rfl wM_X4_90 wI_X6_canTakeOut wS_X6_canTakeOut wN_X6 wC_X6_canTakeOut (by decide +kernel) rfl (by decide) (by decide) (Nat.le_of_ble_eq_true rfl) dX4_couldAfterTakingOut_36 ?_
          obtain ⟨J8, e_J8, h⟩ := of_lt h
          have J8_T : ∀ (v9 : Int32) (μ10 : mT), J8 v9 μ10 = some (r, μ') → tj X Γ μ10 79 [(0, .ref (X.1 20 0)), (1, .int a1), (2, .int a2), (3, .int v1), (4, .int v9), (5, .int v4)] [] := by
            intro v9 μ10 h
            rw [e_J8] at h
            obtain ⟨v11, e_v11, h⟩ := of_lt h
            refine tr_iinc hO 79 (q := 5) (v := v11) (lv' := [(5, .int v11), (0, .ref (X.1 20 0)), (1, .int a1), (2, .int a2), (3, .int v1), (4, .int v9)]) hn rfl (by rw [e_v11]; rfl) (by decide) rfl dX4_couldAfterTakingOut_79 ?_
            refine tr_goto hO 82 18 (by decide) dX4_couldAfterTakingOut_82 ?_
            refine tr_sub [1, 2, 3, 4, 5, 0] rfl ?_
            exact ih _ _ _ h
          refine tr_if_eq hO 39 79 (by decide) dX4_couldAfterTakingOut_39 (fun hc => ?_) (fun hc => ?_)
          · have h := of_t hc h
            exact J8_T _ _ h
          · have h := of_f hc h
            refine tr_aload_n hO 42 0 rfl dX4_couldAfterTakingOut_42 ?_
            refine tr_get hO 43 (k := 0) (x_v0 (by decide)) rfl rfl iX4 (by decide) wF_X4_12 rfl rfl dX4_couldAfterTakingOut_43 ?_
            refine tr_getN hO 46 (k := 11) (x_vy (by decide) (by decide)) rfl rfl iX6 (by decide) (host := RX7) (by decide +kernel) rfl rfl dX4_couldAfterTakingOut_46 ?_
            refine tr_iload_n hO 49 2 rfl dX4_couldAfterTakingOut_49 ?_
            refine tr_bipush hO 50 (v := 8) (by decide) dX4_couldAfterTakingOut_50 ?_
            refine tr_iload hO 52 5 rfl dX4_couldAfterTakingOut_52 ?_
            obtain ⟨v12, μ13, hcall, h⟩ := of_bd h
            refine tr_callV hO 54 (na := 3) (As := [.int a2, .int 8, .int v4]) (st := []) (c_X5_shift hX (by decide) hcall) rfl (x_vy (by decide) (by decide)) rfl rfl wM_X4_93 wI_X5_shift wS_X5_shift wN_X5 wC_X5_shift (by decide +kernel) rfl (by decide) (by decide) (Nat.le_of_ble_eq_true rfl) dX4_couldAfterTakingOut_54 ?_
            refine tr_aload_n hO 57 0 rfl dX4_couldAfterTakingOut_57 ?_
            refine tr_iload_n hO 58 1 rfl dX4_couldAfterTakingOut_58 ?_
            obtain ⟨v14, μ15, hcall, h⟩ := of_bd h
            refine tr_callI hO 59 (na := 1) (As := [.int a1]) (st := []) (c_X4_couldAfterOne hX  hcall) rfl (x_v0 (by decide)) rfl rfl wM_X4_73 wI_X4_couldAfterOne wS_X4_couldAfterOne wN_X4 wC_X4_couldAfterOne (by decide +kernel) rfl (by decide) (by decide) (Nat.le_of_ble_eq_true rfl) dX4_couldAfterTakingOut_59 ?_
            refine tr_istore hO 62 (v := v14) rfl (lv' := [(4, .int v14), (0, .ref (X.1 20 0)), (1, .int a1), (2, .int a2), (3, .int v1), (5, .int v4)]) hn (by decide) rfl dX4_couldAfterTakingOut_62 ?_
            refine tr_aload_n hO 64 1 rfl dX4_couldAfterTakingOut_64 ?_
            refine tr_get hO 65 (k := 0) (x_v0 (by decide)) rfl rfl iX4 (by decide) wF_X4_12 rfl rfl dX4_couldAfterTakingOut_65 ?_
            refine tr_getN hO 68 (k := 11) (x_vy (by decide) (by decide)) rfl rfl iX6 (by decide) (host := RX7) (by decide +kernel) rfl rfl dX4_couldAfterTakingOut_68 ?_
            refine tr_bipush hO 71 (v := 8) (by decide) dX4_couldAfterTakingOut_71 ?_
            refine tr_iload_n hO 73 3 rfl dX4_couldAfterTakingOut_73 ?_
            refine tr_iload hO 74 5 rfl dX4_couldAfterTakingOut_74 ?_
            obtain ⟨v16, μ17, hcall, h⟩ := of_bd h
            refine tr_callV hO 76 (na := 3) (As := [.int 8, .int a2, .int v4]) (st := []) (c_X5_shift hX (by decide) hcall) rfl (x_vy (by decide) (by decide)) rfl rfl wM_X4_93 wI_X5_shift wS_X5_shift wN_X5 wC_X5_shift (by decide +kernel) rfl (by decide) (by decide) (Nat.le_of_ble_eq_true rfl) dX4_couldAfterTakingOut_76 ?_
            refine tr_sub [1, 2, 3, 4, 0, 5] rfl ?_
            exact J8_T _ _ h
  refine tr_sub [3, 4, 5, 2, 1, 0] rfl ?_
  exact L18_T _ _ _ _ h
set_option maxHeartbeats 4000000 in
set_option maxRecDepth 100000 in
theorem c_X4_couldAfterBringingIn {X : xT} (hX : xOK X) {a1 : Int32} {a2 : Int32}  {μ μ' : mT} {r : Int32} (h : f_X4_couldAfterBringingIn a1 a2 μ = some (r, μ')) : CMi X yX4_couldAfterBringingIn cX4_couldAfterBringingIn 6 .boolean 4 95 [.ref (X.1 20 0), .int a1, .int a2] μ r μ' := by
  refine CMi_of hX (by decide +kernel) (lv := [(0, .ref (X.1 20 0)), (1, .int a1), (2, .int a2)]) (Nat.le_of_ble_eq_true rfl) rfl (fun Γ hO hn hQ => ?_)
  have hO : Ok X RX4 cX4_couldAfterBringingIn 4 95 Γ := hO
  unfold f_X4_couldAfterBringingIn at h
  refine tr_aload_n hO 0 0 rfl dX4_couldAfterBringingIn_0 ?_
  refine tr_get hO 1 (k := 0) (x_v0 (by decide)) rfl rfl iX4 (by decide) wF_X4_12 rfl rfl dX4_couldAfterBringingIn_1 ?_
  refine tr_getN hO 4 (k := 11) (x_vy (by decide) (by decide)) rfl rfl iX6 (by decide) (host := RX7) (by decide +kernel) rfl rfl dX4_couldAfterBringingIn_4 ?_
  refine tr_bipush hO 7 (v := 8) (by decide) dX4_couldAfterBringingIn_7 ?_
  obtain ⟨v1, μ2, hcall, h⟩ := of_bd h
  refine tr_callI hO 9 (na := 1) (As := [.int 8]) (st := []) (c_X5_manyIn hX (by decide) hcall) rfl (x_vy (by decide) (by decide)) rfl rfl wM_X4_30 wI_X5_manyIn wS_X5_manyIn wN_X5 wC_X5_manyIn (by decide +kernel) rfl (by decide) (by decide) (Nat.le_of_ble_eq_true rfl) dX4_couldAfterBringingIn_9 ?_
  refine tr_istore_n hO 12 (v := v1) rfl (lv' := [(3, .int v1), (0, .ref (X.1 20 0)), (1, .int a1), (2, .int a2)]) hn rfl (by decide) rfl dX4_couldAfterBringingIn_12 ?_
  refine tr_iconst hO 13 (v := 0) (by decide) dX4_couldAfterBringingIn_13 ?_
  refine tr_istore hO 14 (v := 0) rfl (lv' := [(4, .int 0), (3, .int v1), (0, .ref (X.1 20 0)), (1, .int a1), (2, .int a2)]) hn (by decide) rfl dX4_couldAfterBringingIn_14 ?_
  refine tr_iconst hO 16 (v := 1) (by decide) dX4_couldAfterBringingIn_16 ?_
  refine tr_istore hO 17 (v := 1) rfl (lv' := [(5, .int 1), (4, .int 0), (3, .int v1), (0, .ref (X.1 20 0)), (1, .int a1), (2, .int a2)]) hn (by decide) rfl dX4_couldAfterBringingIn_17 ?_
  have L19_T : ∀ (n : Nat) (v3 : Int32) (v4 : Int32) (μ5 : mT), f_X4_couldAfterBringingIn_L19 a1 a2 v1 n v3 v4 μ5 = some (r, μ') → tj X Γ μ5 19 [(0, .ref (X.1 20 0)), (1, .int a1), (2, .int a2), (3, .int v1), (4, .int v3), (5, .int v4)] [] := by
    intro n
    induction n with
    | zero =>
      intro v3 v4 μ5 h
      rw [f_X4_couldAfterBringingIn_L19] at h
      cases h
    | succ n ih =>
      intro v3 v4 μ5 h
      rw [f_X4_couldAfterBringingIn_L19] at h
      refine tr_iload hO 19 5 rfl dX4_couldAfterBringingIn_19 ?_
      refine tr_iload_n hO 21 3 rfl dX4_couldAfterBringingIn_21 ?_
      refine tr_icmp_gt hO 22 86 (by decide) dX4_couldAfterBringingIn_22 (fun hc => ?_) (fun hc => ?_)
      · have h := of_t hc h
        refine tr_iload hO 86 4 rfl dX4_couldAfterBringingIn_86 ?_
        obtain ⟨hg, h⟩ := of_gd h
        cases h
        exact tr_iret hO 88 hQ (isB_n hg) dX4_couldAfterBringingIn_88
      · have h := of_f hc h
        refine tr_iload hO 25 4 rfl dX4_couldAfterBringingIn_25 ?_
        refine tr_if_ne hO 27 86 (by decide) dX4_couldAfterBringingIn_27 (fun hc => ?_) (fun hc => ?_)
        · have h := of_f hc h
          refine tr_iload hO 86 4 rfl dX4_couldAfterBringingIn_86 ?_
          obtain ⟨hg, h⟩ := of_gd h
          cases h
          exact tr_iret hO 88 hQ (isB_n hg) dX4_couldAfterBringingIn_88
        · have h := of_t hc h
          refine tr_aload_n hO 30 0 rfl dX4_couldAfterBringingIn_30 ?_
          refine tr_get hO 31 (k := 0) (x_v0 (by decide)) rfl rfl iX4 (by decide) wF_X4_12 rfl rfl dX4_couldAfterBringingIn_31 ?_
          refine tr_iload_n hO 34 2 rfl dX4_couldAfterBringingIn_34 ?_
          refine tr_iload hO 35 5 rfl dX4_couldAfterBringingIn_35 ?_
          obtain ⟨v6, μ7, hcall, h⟩ := of_bd h
          refine tr_callI hO 37 (na := 2) (As := [.int a2, .int v4]) (st := []) (c_X6_canBringIn hX (by decide) hcall) rfl (x_vy (by decide) (by decide)) rfl rfl wM_X4_97 wI_X6_canBringIn wS_X6_canBringIn wN_X6 wC_X6_canBringIn (by decide +kernel) rfl (by decide) (by decide) (Nat.le_of_ble_eq_true rfl) dX4_couldAfterBringingIn_37 ?_
          obtain ⟨J8, e_J8, h⟩ := of_lt h
          have J8_T : ∀ (v9 : Int32) (μ10 : mT), J8 v9 μ10 = some (r, μ') → tj X Γ μ10 80 [(0, .ref (X.1 20 0)), (1, .int a1), (2, .int a2), (3, .int v1), (4, .int v9), (5, .int v4)] [] := by
            intro v9 μ10 h
            rw [e_J8] at h
            obtain ⟨v11, e_v11, h⟩ := of_lt h
            refine tr_iinc hO 80 (q := 5) (v := v11) (lv' := [(5, .int v11), (0, .ref (X.1 20 0)), (1, .int a1), (2, .int a2), (3, .int v1), (4, .int v9)]) hn rfl (by rw [e_v11]; rfl) (by decide) rfl dX4_couldAfterBringingIn_80 ?_
            refine tr_goto hO 83 19 (by decide) dX4_couldAfterBringingIn_83 ?_
            refine tr_sub [1, 2, 3, 4, 5, 0] rfl ?_
            exact ih _ _ _ h
          refine tr_if_eq hO 40 80 (by decide) dX4_couldAfterBringingIn_40 (fun hc => ?_) (fun hc => ?_)
          · have h := of_t hc h
            exact J8_T _ _ h
          · have h := of_f hc h
            refine tr_aload_n hO 43 0 rfl dX4_couldAfterBringingIn_43 ?_
            refine tr_get hO 44 (k := 0) (x_v0 (by decide)) rfl rfl iX4 (by decide) wF_X4_12 rfl rfl dX4_couldAfterBringingIn_44 ?_
            refine tr_getN hO 47 (k := 11) (x_vy (by decide) (by decide)) rfl rfl iX6 (by decide) (host := RX7) (by decide +kernel) rfl rfl dX4_couldAfterBringingIn_47 ?_
            refine tr_bipush hO 50 (v := 8) (by decide) dX4_couldAfterBringingIn_50 ?_
            refine tr_iload_n hO 52 2 rfl dX4_couldAfterBringingIn_52 ?_
            refine tr_iload hO 53 5 rfl dX4_couldAfterBringingIn_53 ?_
            obtain ⟨v12, μ13, hcall, h⟩ := of_bd h
            refine tr_callV hO 55 (na := 3) (As := [.int 8, .int a2, .int v4]) (st := []) (c_X5_shift hX (by decide) hcall) rfl (x_vy (by decide) (by decide)) rfl rfl wM_X4_93 wI_X5_shift wS_X5_shift wN_X5 wC_X5_shift (by decide +kernel) rfl (by decide) (by decide) (Nat.le_of_ble_eq_true rfl) dX4_couldAfterBringingIn_55 ?_
            refine tr_aload_n hO 58 0 rfl dX4_couldAfterBringingIn_58 ?_
            refine tr_iload_n hO 59 1 rfl dX4_couldAfterBringingIn_59 ?_
            obtain ⟨v14, μ15, hcall, h⟩ := of_bd h
            refine tr_callI hO 60 (na := 1) (As := [.int a1]) (st := []) (c_X4_couldAfterOne hX  hcall) rfl (x_v0 (by decide)) rfl rfl wM_X4_73 wI_X4_couldAfterOne wS_X4_couldAfterOne wN_X4 wC_X4_couldAfterOne (by decide +kernel) rfl (by decide) (by decide) (Nat.le_of_ble_eq_true rfl) dX4_couldAfterBringingIn_60 ?_
            refine tr_istore hO 63 (v := v14) rfl (lv' := [(4, .int v14), (0, .ref (X.1 20 0)), (1, .int a1), (2, .int a2), (3, .int v1), (5, .int v4)]) hn (by decide) rfl dX4_couldAfterBringingIn_63 ?_
            refine tr_aload_n hO 65 1 rfl dX4_couldAfterBringingIn_65 ?_
            refine tr_get hO 66 (k := 0) (x_v0 (by decide)) rfl rfl iX4 (by decide) wF_X4_12 rfl rfl dX4_couldAfterBringingIn_66 ?_
            refine tr_getN hO 69 (k := 11) (x_vy (by decide) (by decide)) rfl rfl iX6 (by decide) (host := RX7) (by decide +kernel) rfl rfl dX4_couldAfterBringingIn_69 ?_
            refine tr_iload_n hO 72 3 rfl dX4_couldAfterBringingIn_72 ?_
            refine tr_bipush hO 73 (v := 8) (by decide) dX4_couldAfterBringingIn_73 ?_
            refine tr_iload hO 75 5 rfl dX4_couldAfterBringingIn_75 ?_
            obtain ⟨v16, μ17, hcall, h⟩ := of_bd h
            refine tr_callV hO 77 (na := 3) (As := [.int a2, .int 8, .int v4]) (st := []) (c_X5_shift hX (by decide) hcall) rfl (x_vy (by decide) (by decide)) rfl rfl wM_X4_93 wI_X5_shift wS_X5_shift wN_X5 wC_X5_shift (by decide +kernel) rfl (by decide) (by decide) (Nat.le_of_ble_eq_true rfl) dX4_couldAfterBringingIn_77 ?_
            refine tr_sub [1, 2, 3, 4, 0, 5] rfl ?_
            exact J8_T _ _ h
  refine tr_sub [3, 4, 5, 2, 1, 0] rfl ?_
  exact L19_T _ _ _ _ h
set_option maxHeartbeats 4000000 in
set_option maxRecDepth 100000 in
theorem c_X5_turnEngine {X : xT} (hX : xOK X) {j : Nat} (hj : j < 11) {μ μ' : mT} {r : Int32} (h : f_X5_turnEngine j μ = some (r, μ')) : CMv X yX5_turnEngine cX5_turnEngine 5 0 0 [.ref (X.1 1 j)] μ μ' := by
  refine CMv_of hX (by decide +kernel) (lv := [(0, .ref (X.1 1 j))]) (Nat.le_of_ble_eq_true rfl) rfl (fun Γ hO hn hQ => ?_)
  have hO : Ok X RX5 cX5_turnEngine 0 0 Γ := hO
  unfold f_X5_turnEngine at h
  refine tr_sipush hO 0 (v := 240) (by decide) dX5_turnEngine_0 ?_
  refine tr_istore_n hO 3 (v := 240) rfl (lv' := [(1, .int 240), (0, .ref (X.1 1 j))]) hn rfl (by decide) rfl dX5_turnEngine_3 ?_
  refine tr_iload_n hO 4 0 rfl dX5_turnEngine_4 ?_
  refine tr_aload_n hO 5 1 rfl dX5_turnEngine_5 ?_
  refine tr_get hO 6 (k := 5) (x_vy (by decide) hj) rfl rfl iX5 (by decide) wF_X5_21 rfl rfl dX5_turnEngine_6 ?_
  refine tr_bipush hO 9 (v := 8) (by decide) dX5_turnEngine_9 ?_
  refine tr_iald hO 11 (x_vy (by decide) hj) a_11 (by decide) dX5_turnEngine_11 ?_
  refine tr_iadd hO 12 dX5_turnEngine_12 ?_
  refine tr_iconst hO 13 (v := 1) (by decide) dX5_turnEngine_13 ?_
  refine tr_isub hO 14 dX5_turnEngine_14 ?_
  obtain ⟨v1, e_v1, h⟩ := of_lt h
  refine tr_istore_n hO 15 (v := v1) e_v1 (lv' := [(2, .int v1), (1, .int 240), (0, .ref (X.1 1 j))]) hn rfl (by decide) rfl dX5_turnEngine_15 ?_
  refine tr_iconst hO 16 (v := 0) (by decide) dX5_turnEngine_16 ?_
  refine tr_istore_n hO 17 (v := 0) rfl (lv' := [(3, .int 0), (2, .int v1), (1, .int 240), (0, .ref (X.1 1 j))]) hn rfl (by decide) rfl dX5_turnEngine_17 ?_
  have L18_T : ∀ (n : Nat) (v2 : Int32) (μ3 : mT), f_X5_turnEngine_L18 j v1 n v2 μ3 = some (r, μ') → tj X Γ μ3 18 [(0, .ref (X.1 1 j)), (1, .int 240), (2, .int v1), (3, .int v2)] [] := by
    intro n
    induction n with
    | zero =>
      intro v2 μ3 h
      rw [f_X5_turnEngine_L18] at h
      cases h
    | succ n ih =>
      intro v2 μ3 h
      rw [f_X5_turnEngine_L18] at h
      refine tr_iload_n hO 18 3 rfl dX5_turnEngine_18 ?_
      refine tr_aload_n hO 19 0 rfl dX5_turnEngine_19 ?_
      refine tr_get hO 20 (k := 5) (x_vy (by decide) hj) rfl rfl iX5 (by decide) wF_X5_21 rfl rfl dX5_turnEngine_20 ?_
      refine tr_bipush hO 23 (v := 8) (by decide) dX5_turnEngine_23 ?_
      refine tr_iald hO 25 (x_vy (by decide) hj) a_11 (by decide) dX5_turnEngine_25 ?_
      refine tr_iconst hO 26 (v := 2) (by decide) dX5_turnEngine_26 ?_
      refine tr_idiv hO 27 (by decide) dX5_turnEngine_27 ?_
      refine tr_icmp_ge hO 28 73 (by decide) dX5_turnEngine_28 (fun hc => ?_) (fun hc => ?_)
      · have h := of_t hc h
        cases h
        exact tr_vret hO 73 hQ dX5_turnEngine_73
      · have h := of_f hc h
        refine tr_aload_n hO 31 0 rfl dX5_turnEngine_31 ?_
        refine tr_get hO 32 (k := 6) (x_vy (by decide) hj) rfl rfl iX5 (by decide) wF_X5_24 rfl rfl dX5_turnEngine_32 ?_
        refine tr_iload_n hO 35 1 rfl dX5_turnEngine_35 ?_
        refine tr_iload_n hO 36 3 rfl dX5_turnEngine_36 ?_
        refine tr_iadd hO 37 dX5_turnEngine_37 ?_
        obtain ⟨hg, h⟩ := of_gd h
        refine tr_iald hO 38 (x_vy (by decide) hj) a_12 hg dX5_turnEngine_38 ?_
        obtain ⟨v4, e_v4, h⟩ := of_lt h
        refine tr_istore hO 39 (v := v4) e_v4 (lv' := [(4, .int v4), (0, .ref (X.1 1 j)), (1, .int 240), (2, .int v1), (3, .int v2)]) hn (by decide) rfl dX5_turnEngine_39 ?_
        refine tr_aload_n hO 41 1 rfl dX5_turnEngine_41 ?_
        refine tr_get hO 42 (k := 6) (x_vy (by decide) hj) rfl rfl iX5 (by decide) wF_X5_24 rfl rfl dX5_turnEngine_42 ?_
        refine tr_iload_n hO 45 2 rfl dX5_turnEngine_45 ?_
        refine tr_iload_n hO 46 4 rfl dX5_turnEngine_46 ?_
        refine tr_iadd hO 47 dX5_turnEngine_47 ?_
        refine tr_aload_n hO 48 1 rfl dX5_turnEngine_48 ?_
        refine tr_get hO 49 (k := 6) (x_vy (by decide) hj) rfl rfl iX5 (by decide) wF_X5_24 rfl rfl dX5_turnEngine_49 ?_
        refine tr_iload_n hO 52 3 rfl dX5_turnEngine_52 ?_
        refine tr_iload_n hO 53 4 rfl dX5_turnEngine_53 ?_
        refine tr_isub hO 54 dX5_turnEngine_54 ?_
        obtain ⟨hg, h⟩ := of_gd h
        refine tr_iald hO 55 (x_vy (by decide) hj) a_12 hg dX5_turnEngine_55 ?_
        obtain ⟨hg, h⟩ := of_gd h
        obtain ⟨μ5, e_μ5, h⟩ := of_lt h
        refine tr_iast hO 56 e_μ5 (x_vy (by decide) hj) a_12 hg dX5_turnEngine_56 ?_
        refine tr_aload_n hO 57 1 rfl dX5_turnEngine_57 ?_
        refine tr_get hO 58 (k := 6) (x_vy (by decide) hj) rfl rfl iX5 (by decide) wF_X5_24 rfl rfl dX5_turnEngine_58 ?_
        refine tr_iload_n hO 61 3 rfl dX5_turnEngine_61 ?_
        refine tr_iload_n hO 62 4 rfl dX5_turnEngine_62 ?_
        refine tr_isub hO 63 dX5_turnEngine_63 ?_
        refine tr_iload hO 64 0 rfl dX5_turnEngine_64 ?_
        obtain ⟨hg, h⟩ := of_gd h
        obtain ⟨μ6, e_μ6, h⟩ := of_lt h
        refine tr_iast hO 66 e_μ6 (x_vy (by decide) hj) a_12 hg dX5_turnEngine_66 ?_
        obtain ⟨v7, e_v7, h⟩ := of_lt h
        refine tr_iinc hO 67 (q := 4) (v := v7) (lv' := [(3, .int v7), (4, .int v4), (0, .ref (X.1 1 j)), (1, .int 240), (2, .int v1)]) hn rfl (by rw [e_v7]; rfl) (by decide) rfl dX5_turnEngine_67 ?_
        refine tr_goto hO 70 18 (by decide) dX5_turnEngine_70 ?_
        refine tr_sub [2, 3, 4, 0] rfl ?_
        exact ih _ _ h
  refine tr_sub [3, 2, 1, 0] rfl ?_
  exact L18_T _ _ _ h
set_option maxHeartbeats 4000000 in
set_option maxRecDepth 100000 in
theorem c_X4_couldAfterGoingRound {X : xT} (hX : xOK X) {a1 : Int32}  {μ μ' : mT} {r : Int32} (h : f_X4_couldAfterGoingRound a1 μ = some (r, μ')) : CMi X yX4_couldAfterGoingRound cX4_couldAfterGoingRound 3 .boolean 4 95 [.ref (X.1 20 0), .int a1] μ r μ' := by
  refine CMi_of hX (by decide +kernel) (lv := [(0, .ref (X.1 20 0)), (1, .int a1)]) (Nat.le_of_ble_eq_true rfl) rfl (fun Γ hO hn hQ => ?_)
  have hO : Ok X RX4 cX4_couldAfterGoingRound 4 95 Γ := hO
  unfold f_X4_couldAfterGoingRound at h
  refine tr_aload_n hO 0 0 rfl dX4_couldAfterGoingRound_0 ?_
  refine tr_get hO 1 (k := 0) (x_v0 (by decide)) rfl rfl iX4 (by decide) wF_X4_12 rfl rfl dX4_couldAfterGoingRound_1 ?_
  obtain ⟨v1, μ2, hcall, h⟩ := of_bd h
  refine tr_callI hO 4 (na := 0) (As := []) (st := []) (c_X6_canGoRound hX (by decide) hcall) rfl (x_vy (by decide) (by decide)) rfl rfl wM_X4_100 wI_X6_canGoRound wS_X6_canGoRound wN_X6 wC_X6_canGoRound (by decide +kernel) rfl (by decide) (by decide) (Nat.le_of_ble_eq_true rfl) dX4_couldAfterGoingRound_4 ?_
  refine tr_if_ne hO 7 12 (by decide) dX4_couldAfterGoingRound_7 (fun hc => ?_) (fun hc => ?_)
  · have h := of_f hc h
    refine tr_aload_n hO 12 0 rfl dX4_couldAfterGoingRound_12 ?_
    refine tr_get hO 13 (k := 0) (x_v0 (by decide)) rfl rfl iX4 (by decide) wF_X4_12 rfl rfl dX4_couldAfterGoingRound_13 ?_
    refine tr_getN hO 16 (k := 11) (x_vy (by decide) (by decide)) rfl rfl iX6 (by decide) (host := RX7) (by decide +kernel) rfl rfl dX4_couldAfterGoingRound_16 ?_
    obtain ⟨v3, μ4, hcall, h⟩ := of_bd h
    refine tr_callV hO 19 (na := 0) (As := []) (st := []) (c_X5_turnEngine hX (by decide) hcall) rfl (x_vy (by decide) (by decide)) rfl rfl wM_X4_104 wI_X5_turnEngine wS_X5_turnEngine wN_X5 wC_X5_turnEngine (by decide +kernel) rfl (by decide) (by decide) (Nat.le_of_ble_eq_true rfl) dX4_couldAfterGoingRound_19 ?_
    refine tr_aload_n hO 22 0 rfl dX4_couldAfterGoingRound_22 ?_
    refine tr_iload_n hO 23 1 rfl dX4_couldAfterGoingRound_23 ?_
    obtain ⟨v5, μ6, hcall, h⟩ := of_bd h
    refine tr_callI hO 24 (na := 1) (As := [.int a1]) (st := []) (c_X4_couldAfterOne hX  hcall) rfl (x_v0 (by decide)) rfl rfl wM_X4_73 wI_X4_couldAfterOne wS_X4_couldAfterOne wN_X4 wC_X4_couldAfterOne (by decide +kernel) rfl (by decide) (by decide) (Nat.le_of_ble_eq_true rfl) dX4_couldAfterGoingRound_24 ?_
    refine tr_istore_n hO 27 (v := v5) rfl (lv' := [(2, .int v5), (0, .ref (X.1 20 0)), (1, .int a1)]) hn rfl (by decide) rfl dX4_couldAfterGoingRound_27 ?_
    refine tr_aload_n hO 28 1 rfl dX4_couldAfterGoingRound_28 ?_
    refine tr_get hO 29 (k := 0) (x_v0 (by decide)) rfl rfl iX4 (by decide) wF_X4_12 rfl rfl dX4_couldAfterGoingRound_29 ?_
    refine tr_getN hO 32 (k := 11) (x_vy (by decide) (by decide)) rfl rfl iX6 (by decide) (host := RX7) (by decide +kernel) rfl rfl dX4_couldAfterGoingRound_32 ?_
    obtain ⟨v7, μ8, hcall, h⟩ := of_bd h
    refine tr_callV hO 35 (na := 0) (As := []) (st := []) (c_X5_turnEngine hX (by decide) hcall) rfl (x_vy (by decide) (by decide)) rfl rfl wM_X4_104 wI_X5_turnEngine wS_X5_turnEngine wN_X5 wC_X5_turnEngine (by decide +kernel) rfl (by decide) (by decide) (Nat.le_of_ble_eq_true rfl) dX4_couldAfterGoingRound_35 ?_
    refine tr_iload_n hO 38 0 rfl dX4_couldAfterGoingRound_38 ?_
    obtain ⟨hg, h⟩ := of_gd h
    cases h
    exact tr_iret hO 39 hQ (isB_n hg) dX4_couldAfterGoingRound_39
  · have h := of_t hc h
    refine tr_iconst hO 10 (v := 0) (by decide) dX4_couldAfterGoingRound_10 ?_
    cases h
    exact tr_iret hO 11 hQ (by decide) dX4_couldAfterGoingRound_11
set_option maxHeartbeats 4000000 in
set_option maxRecDepth 100000 in
theorem c_X4_fewestMoves {X : xT} (hX : xOK X) {j2 : Nat} {a2 : Int32} (hj2 : j2 < 11) {μ μ' : mT} {r : Int32} (h : f_X4_fewestMoves j2 a2 μ = some (r, μ')) : CMi X yX4_fewestMoves cX4_fewestMoves 4 .int 5 120 [.ref (X.1 20 0), .ref (X.1 0 j2), .int a2] μ r μ' := by
  refine CMi_of hX (by decide +kernel) (lv := [(0, .ref (X.1 20 0)), (1, .ref (X.1 0 j2)), (2, .int a2)]) (Nat.le_of_ble_eq_true rfl) rfl (fun Γ hO hn hQ => ?_)
  have hO : Ok X RX4 cX4_fewestMoves 5 120 Γ := hO
  unfold f_X4_fewestMoves at h
  refine tr_aload_n hO 0 0 rfl dX4_fewestMoves_0 ?_
  refine tr_get hO 1 (k := 0) (x_v0 (by decide)) rfl rfl iX4 (by decide) wF_X4_12 rfl rfl dX4_fewestMoves_1 ?_
  refine tr_aload_n hO 4 1 rfl dX4_fewestMoves_4 ?_
  obtain ⟨v1, μ2, hcall, h⟩ := of_bd h
  refine tr_callV hO 5 (na := 1) (As := [.ref (X.1 0 j2)]) (st := []) (c_X6_copyFrom hX (by decide) hj2 hcall) rfl (x_vy (by decide) (by decide)) rfl rfl wM_X4_18 wI_X6_copyFrom wS_X6_copyFrom wN_X6 wC_X6_copyFrom (by decide +kernel) rfl (by decide) (by decide) (Nat.le_of_ble_eq_true rfl) dX4_fewestMoves_5 ?_
  refine tr_aload_n hO 8 0 rfl dX4_fewestMoves_8 ?_
  refine tr_get hO 9 (k := 0) (x_v0 (by decide)) rfl rfl iX4 (by decide) wF_X4_12 rfl rfl dX4_fewestMoves_9 ?_
  refine tr_iload_n hO 12 2 rfl dX4_fewestMoves_12 ?_
  obtain ⟨v3, μ4, hcall, h⟩ := of_bd h
  refine tr_callI hO 13 (na := 1) (As := [.int a2]) (st := []) (c_X6_couldLeave hX (by decide) hcall) rfl (x_vy (by decide) (by decide)) rfl rfl wM_X4_69 wI_X6_couldLeave wS_X6_couldLeave wN_X6 wC_X6_couldLeave (by decide +kernel) rfl (by decide) (by decide) (Nat.le_of_ble_eq_true rfl) dX4_fewestMoves_13 ?_
  refine tr_if_eq hO 16 21 (by decide) dX4_fewestMoves_16 (fun hc => ?_) (fun hc => ?_)
  · have h := of_t hc h
    refine tr_aload_n hO 21 0 rfl dX4_fewestMoves_21 ?_
    refine tr_iload_n hO 22 2 rfl dX4_fewestMoves_22 ?_
    obtain ⟨v5, μ6, hcall, h⟩ := of_bd h
    refine tr_callI hO 23 (na := 1) (As := [.int a2]) (st := []) (c_X4_couldAfterOne hX  hcall) rfl (x_v0 (by decide)) rfl rfl wM_X4_73 wI_X4_couldAfterOne wS_X4_couldAfterOne wN_X4 wC_X4_couldAfterOne (by decide +kernel) rfl (by decide) (by decide) (Nat.le_of_ble_eq_true rfl) dX4_fewestMoves_23 ?_
    refine tr_if_eq hO 26 31 (by decide) dX4_fewestMoves_26 (fun hc => ?_) (fun hc => ?_)
    · have h := of_t hc h
      refine tr_iconst hO 31 (v := 0) (by decide) dX4_fewestMoves_31 ?_
      refine tr_istore_n hO 32 (v := 0) rfl (lv' := [(3, .int 0), (0, .ref (X.1 20 0)), (1, .ref (X.1 0 j2)), (2, .int a2)]) hn rfl (by decide) rfl dX4_fewestMoves_32 ?_
      obtain ⟨K9, e_K9, h⟩ := of_lt h
      have K9_T : ∀ (μ10 : mT), K9 μ10 = some (r, μ') → tj X Γ μ10 70 [(0, .ref (X.1 20 0)), (2, .int a2)] [] := by
        intro μ10 h
        rw [e_K9] at h
        refine tr_aload_n hO 70 0 rfl dX4_fewestMoves_70 ?_
        refine tr_iload_n hO 71 1 rfl dX4_fewestMoves_71 ?_
        obtain ⟨v11, μ12, hcall, h⟩ := of_bd h
        refine tr_callI hO 72 (na := 1) (As := [.int a2]) (st := []) (c_X4_couldAfterGoingRound hX  hcall) rfl (x_v0 (by decide)) rfl rfl wM_X4_87 wI_X4_couldAfterGoingRound wS_X4_couldAfterGoingRound wN_X4 wC_X4_couldAfterGoingRound (by decide +kernel) rfl (by decide) (by decide) (Nat.le_of_ble_eq_true rfl) dX4_fewestMoves_72 ?_
        refine tr_if_eq hO 75 82 (by decide) dX4_fewestMoves_75 (fun hc => ?_) (fun hc => ?_)
        · have h := of_t hc h
          refine tr_bipush hO 82 (v := (-6)) (by decide) dX4_fewestMoves_82 ?_
          cases h
          exact tr_iret hO 84 hQ rfl dX4_fewestMoves_84
        · have h := of_f hc h
          refine tr_iconst hO 78 (v := 2) (by decide) dX4_fewestMoves_78 ?_
          refine tr_goto hO 79 84 (by decide) dX4_fewestMoves_79 ?_
          cases h
          exact tr_iret hO 84 hQ rfl dX4_fewestMoves_84
      have L33_T : ∀ (n : Nat) (v7 : Int32) (μ8 : mT), f_X4_fewestMoves_L33 a2 K9 n v7 μ8 = some (r, μ') → tj X Γ μ8 33 [(0, .ref (X.1 20 0)), (2, .int a2), (3, .int v7)] [] := by
        intro n
        induction n with
        | zero =>
          intro v7 μ8 h
          rw [f_X4_fewestMoves_L33] at h
          cases h
        | succ n ih =>
          intro v7 μ8 h
          rw [f_X4_fewestMoves_L33] at h
          refine tr_iload_n hO 33 2 rfl dX4_fewestMoves_33 ?_
          refine tr_aload_n hO 34 0 rfl dX4_fewestMoves_34 ?_
          refine tr_get hO 35 (k := 0) (x_v0 (by decide)) rfl rfl iX4 (by decide) wF_X4_12 rfl rfl dX4_fewestMoves_35 ?_
          refine tr_getN hO 38 (k := 7) (x_vy (by decide) (by decide)) rfl rfl iX6 (by decide) (host := RX7) (by decide +kernel) rfl rfl dX4_fewestMoves_38 ?_
          refine tr_icmp_ge hO 41 70 (by decide) dX4_fewestMoves_41 (fun hc => ?_) (fun hc => ?_)
          · have h := of_t hc h
            refine tr_sub [0, 1] rfl ?_
            exact K9_T _ h
          · have h := of_f hc h
            refine tr_aload_n hO 44 0 rfl dX4_fewestMoves_44 ?_
            refine tr_iload_n hO 45 1 rfl dX4_fewestMoves_45 ?_
            refine tr_iload_n hO 46 2 rfl dX4_fewestMoves_46 ?_
            obtain ⟨v13, μ14, hcall, h⟩ := of_bd h
            refine tr_callI hO 47 (na := 2) (As := [.int a2, .int v7]) (st := []) (c_X4_couldAfterTakingOut hX  hcall) rfl (x_v0 (by decide)) rfl rfl wM_X4_80 wI_X4_couldAfterTakingOut wS_X4_couldAfterTakingOut wN_X4 wC_X4_couldAfterTakingOut (by decide +kernel) rfl (by decide) (by decide) (Nat.le_of_ble_eq_true rfl) dX4_fewestMoves_47 ?_
            refine tr_if_ne hO 50 62 (by decide) dX4_fewestMoves_50 (fun hc => ?_) (fun hc => ?_)
            · have h := of_f hc h
              refine tr_iconst hO 62 (v := 2) (by decide) dX4_fewestMoves_62 ?_
              cases h
              exact tr_iret hO 63 hQ rfl dX4_fewestMoves_63
            · have h := of_t hc h
              refine tr_aload_n hO 53 0 rfl dX4_fewestMoves_53 ?_
              refine tr_iload_n hO 54 1 rfl dX4_fewestMoves_54 ?_
              refine tr_iload_n hO 55 2 rfl dX4_fewestMoves_55 ?_
              obtain ⟨v15, μ16, hcall, h⟩ := of_bd h
              refine tr_callI hO 56 (na := 2) (As := [.int a2, .int v7]) (st := []) (c_X4_couldAfterBringingIn hX  hcall) rfl (x_v0 (by decide)) rfl rfl wM_X4_84 wI_X4_couldAfterBringingIn wS_X4_couldAfterBringingIn wN_X4 wC_X4_couldAfterBringingIn (by decide +kernel) rfl (by decide) (by decide) (Nat.le_of_ble_eq_true rfl) dX4_fewestMoves_56 ?_
              refine tr_if_eq hO 59 64 (by decide) dX4_fewestMoves_59 (fun hc => ?_) (fun hc => ?_)
              · have h := of_t hc h
                obtain ⟨v17, e_v17, h⟩ := of_lt h
                refine tr_iinc hO 64 (q := 2) (v := v17) (lv' := [(3, .int v17), (0, .ref (X.1 20 0)), (2, .int a2)]) hn rfl (by rw [e_v17]; rfl) (by decide) rfl dX4_fewestMoves_64 ?_
                refine tr_goto hO 67 33 (by decide) dX4_fewestMoves_67 ?_
                refine tr_sub [1, 2, 0] rfl ?_
                exact ih _ _ h
              · have h := of_f hc h
                refine tr_iconst hO 62 (v := 2) (by decide) dX4_fewestMoves_62 ?_
                cases h
                exact tr_iret hO 63 hQ rfl dX4_fewestMoves_63
      refine tr_sub [1, 3, 0] rfl ?_
      exact L33_T _ _ _ h
    · have h := of_f hc h
      refine tr_iconst hO 29 (v := 1) (by decide) dX4_fewestMoves_29 ?_
      cases h
      exact tr_iret hO 30 hQ rfl dX4_fewestMoves_30
  · have h := of_f hc h
    refine tr_iconst hO 19 (v := 0) (by decide) dX4_fewestMoves_19 ?_
    cases h
    exact tr_iret hO 20 hQ rfl dX4_fewestMoves_20
set_option maxHeartbeats 4000000 in
set_option maxRecDepth 100000 in
theorem c_X5_add {X : xT} (hX : xOK X) {j : Nat} {a1 : Int32} {a2 : Int32} (hj : j < 11) {μ μ' : mT} {r : Int32} (h : f_X5_add j a1 a2 μ = some (r, μ')) : CMi X yX5_add cX5_add 3 .int 0 0 [.ref (X.1 1 j), .int a1, .int a2] μ r μ' := by
  refine CMi_of hX (by decide +kernel) (lv := [(0, .ref (X.1 1 j)), (1, .int a1), (2, .int a2)]) (Nat.le_of_ble_eq_true rfl) rfl (fun Γ hO hn hQ => ?_)
  have hO : Ok X RX5 cX5_add 0 0 Γ := hO
  unfold f_X5_add at h
  refine tr_aload_n hO 0 0 rfl dX5_add_0 ?_
  refine tr_get hO 1 (k := 2) (x_vy (by decide) hj) rfl rfl iX5 (by decide) wF_X5_9 rfl rfl dX5_add_1 ?_
  refine tr_aload_n hO 4 0 rfl dX5_add_4 ?_
  refine tr_get hO 5 (k := 0) (x_vy (by decide) hj) rfl rfl iX5 (by decide) wF_X5_27 rfl rfl dX5_add_5 ?_
  refine tr_iload_n hO 8 2 rfl dX5_add_8 ?_
  obtain ⟨hg, h⟩ := of_gd h
  obtain ⟨μ1, e_μ1, h⟩ := of_lt h
  refine tr_iast hO 9 e_μ1 (x_vy (by decide) hj) a_8 hg dX5_add_9 ?_
  refine tr_aload_n hO 10 0 rfl dX5_add_10 ?_
  refine tr_get hO 11 (k := 6) (x_vy (by decide) hj) rfl rfl iX5 (by decide) wF_X5_24 rfl rfl dX5_add_11 ?_
  refine tr_iload_n hO 14 1 rfl dX5_add_14 ?_
  refine tr_bipush hO 15 (v := 30) (by decide) dX5_add_15 ?_
  refine tr_imul hO 17 dX5_add_17 ?_
  refine tr_aload_n hO 18 0 rfl dX5_add_18 ?_
  refine tr_get hO 19 (k := 5) (x_vy (by decide) hj) rfl rfl iX5 (by decide) wF_X5_21 rfl rfl dX5_add_19 ?_
  refine tr_iload_n hO 22 1 rfl dX5_add_22 ?_
  obtain ⟨hg, h⟩ := of_gd h
  refine tr_iald hO 23 (x_vy (by decide) hj) a_11 hg dX5_add_23 ?_
  refine tr_iadd hO 24 dX5_add_24 ?_
  refine tr_aload_n hO 25 0 rfl dX5_add_25 ?_
  refine tr_get hO 26 (k := 0) (x_vy (by decide) hj) rfl rfl iX5 (by decide) wF_X5_27 rfl rfl dX5_add_26 ?_
  obtain ⟨hg, h⟩ := of_gd h
  obtain ⟨μ2, e_μ2, h⟩ := of_lt h
  refine tr_iast hO 29 e_μ2 (x_vy (by decide) hj) a_12 hg dX5_add_29 ?_
  refine tr_aload_n hO 30 0 rfl dX5_add_30 ?_
  refine tr_get hO 31 (k := 5) (x_vy (by decide) hj) rfl rfl iX5 (by decide) wF_X5_21 rfl rfl dX5_add_31 ?_
  refine tr_iload_n hO 34 1 rfl dX5_add_34 ?_
  refine tr_dup2 hO 35 rfl rfl dX5_add_35 ?_
  obtain ⟨hg, h⟩ := of_gd h
  refine tr_iald hO 36 (x_vy (by decide) hj) a_11 hg dX5_add_36 ?_
  refine tr_iconst hO 37 (v := 1) (by decide) dX5_add_37 ?_
  refine tr_iadd hO 38 dX5_add_38 ?_
  obtain ⟨hg, h⟩ := of_gd h
  obtain ⟨μ3, e_μ3, h⟩ := of_lt h
  refine tr_iast hO 39 e_μ3 (x_vy (by decide) hj) a_11 hg dX5_add_39 ?_
  refine tr_aload_n hO 40 0 rfl dX5_add_40 ?_
  refine tr_dup hO 41 rfl dX5_add_41 ?_
  refine tr_get hO 42 (k := 0) (x_vy (by decide) hj) rfl rfl iX5 (by decide) wF_X5_27 rfl rfl dX5_add_42 ?_
  refine tr_iconst hO 45 (v := 1) (by decide) dX5_add_45 ?_
  refine tr_iadd hO 46 dX5_add_46 ?_
  obtain ⟨μ4, e_μ4, h⟩ := of_lt h
  refine tr_put hO 47 (k := 0) (ty := .int) e_μ4 (x_vy (by decide) hj) rfl rfl rfl iX5 tyX5 tyX5_ok nmX5 (by decide) wF_X5_27 rfl rfl (by decide +kernel) rfl rfl (Nat.le_of_ble_eq_true rfl) dX5_add_47 ?_
  refine tr_aload_n hO 50 0 rfl dX5_add_50 ?_
  refine tr_get hO 51 (k := 0) (x_vy (by decide) hj) rfl rfl iX5 (by decide) wF_X5_27 rfl rfl dX5_add_51 ?_
  refine tr_iconst hO 54 (v := 1) (by decide) dX5_add_54 ?_
  refine tr_isub hO 55 dX5_add_55 ?_
  cases h
  exact tr_iret hO 56 hQ rfl dX5_add_56
set_option maxHeartbeats 4000000 in
set_option maxRecDepth 100000 in
theorem c_X5_lengthOfWagon {X : xT} (hX : xOK X) {j : Nat} {a1 : Int32} (hj : j < 11) {μ μ' : mT} {r : Int32} (h : f_X5_lengthOfWagon j a1 μ = some (r, μ')) : CMi X yX5_lengthOfWagon cX5_lengthOfWagon 2 .int 0 0 [.ref (X.1 1 j), .int a1] μ r μ' := by
  refine CMi_of hX (by decide +kernel) (lv := [(0, .ref (X.1 1 j)), (1, .int a1)]) (Nat.le_of_ble_eq_true rfl) rfl (fun Γ hO hn hQ => ?_)
  have hO : Ok X RX5 cX5_lengthOfWagon 0 0 Γ := hO
  unfold f_X5_lengthOfWagon at h
  refine tr_iload_n hO 0 1 rfl dX5_lengthOfWagon_0 ?_
  refine tr_if_lt hO 1 21 (by decide) dX5_lengthOfWagon_1 (fun hc => ?_) (fun hc => ?_)
  · have h := of_t hc h
    refine tr_iconst hO 21 (v := 0) (by decide) dX5_lengthOfWagon_21 ?_
    cases h
    exact tr_iret hO 22 hQ rfl dX5_lengthOfWagon_22
  · have h := of_f hc h
    refine tr_iload_n hO 4 1 rfl dX5_lengthOfWagon_4 ?_
    refine tr_aload_n hO 5 0 rfl dX5_lengthOfWagon_5 ?_
    refine tr_get hO 6 (k := 0) (x_vy (by decide) hj) rfl rfl iX5 (by decide) wF_X5_27 rfl rfl dX5_lengthOfWagon_6 ?_
    refine tr_icmp_ge hO 9 21 (by decide) dX5_lengthOfWagon_9 (fun hc => ?_) (fun hc => ?_)
    · have h := of_t hc h
      refine tr_iconst hO 21 (v := 0) (by decide) dX5_lengthOfWagon_21 ?_
      cases h
      exact tr_iret hO 22 hQ rfl dX5_lengthOfWagon_22
    · have h := of_f hc h
      refine tr_aload_n hO 12 0 rfl dX5_lengthOfWagon_12 ?_
      refine tr_get hO 13 (k := 2) (x_vy (by decide) hj) rfl rfl iX5 (by decide) wF_X5_9 rfl rfl dX5_lengthOfWagon_13 ?_
      refine tr_iload_n hO 16 1 rfl dX5_lengthOfWagon_16 ?_
      obtain ⟨hg, h⟩ := of_gd h
      refine tr_iald hO 17 (x_vy (by decide) hj) a_8 hg dX5_lengthOfWagon_17 ?_
      refine tr_goto hO 18 22 (by decide) dX5_lengthOfWagon_18 ?_
      cases h
      exact tr_iret hO 22 hQ rfl dX5_lengthOfWagon_22
set_option maxHeartbeats 4000000 in
set_option maxRecDepth 100000 in
theorem c_X5_engineLeaves {X : xT} (hX : xOK X) {j : Nat} {a1 : Int32} (hj : j < 11) {μ μ' : mT} {r : Int32} (h : f_X5_engineLeaves j a1 μ = some (r, μ')) : CMv X yX5_engineLeaves cX5_engineLeaves 4 0 0 [.ref (X.1 1 j), .int a1] μ μ' := by
  refine CMv_of hX (by decide +kernel) (lv := [(0, .ref (X.1 1 j)), (1, .int a1)]) (Nat.le_of_ble_eq_true rfl) rfl (fun Γ hO hn hQ => ?_)
  have hO : Ok X RX5 cX5_engineLeaves 0 0 Γ := hO
  unfold f_X5_engineLeaves at h
  refine tr_aload_n hO 0 0 rfl dX5_engineLeaves_0 ?_
  refine tr_get hO 1 (k := 5) (x_vy (by decide) hj) rfl rfl iX5 (by decide) wF_X5_21 rfl rfl dX5_engineLeaves_1 ?_
  refine tr_bipush hO 4 (v := 8) (by decide) dX5_engineLeaves_4 ?_
  refine tr_iald hO 6 (x_vy (by decide) hj) a_11 (by decide) dX5_engineLeaves_6 ?_
  obtain ⟨v1, e_v1, h⟩ := of_lt h
  refine tr_istore_n hO 7 (v := v1) e_v1 (lv' := [(2, .int v1), (0, .ref (X.1 1 j)), (1, .int a1)]) hn rfl (by decide) rfl dX5_engineLeaves_7 ?_
  refine tr_iconst hO 8 (v := 0) (by decide) dX5_engineLeaves_8 ?_
  refine tr_istore_n hO 9 (v := 0) rfl (lv' := [(3, .int 0), (2, .int v1), (0, .ref (X.1 1 j)), (1, .int a1)]) hn rfl (by decide) rfl dX5_engineLeaves_9 ?_
  obtain ⟨K4, e_K4, h⟩ := of_lt h
  have K4_T : ∀ (μ5 : mT), K4 μ5 = some (r, μ') → tj X Γ μ5 37 [(0, .ref (X.1 1 j)), (2, .int v1)] [] := by
    intro μ5 h
    rw [e_K4] at h
    refine tr_aload_n hO 37 0 rfl dX5_engineLeaves_37 ?_
    refine tr_dup hO 38 rfl dX5_engineLeaves_38 ?_
    refine tr_get hO 39 (k := 1) (x_vy (by decide) hj) rfl rfl iX5 (by decide) wF_X5_31 rfl rfl dX5_engineLeaves_39 ?_
    refine tr_iload_n hO 42 1 rfl dX5_engineLeaves_42 ?_
    refine tr_iadd hO 43 dX5_engineLeaves_43 ?_
    obtain ⟨μ6, e_μ6, h⟩ := of_lt h
    refine tr_put hO 44 (k := 1) (ty := .int) e_μ6 (x_vy (by decide) hj) rfl rfl rfl iX5 tyX5 tyX5_ok nmX5 (by decide) wF_X5_31 rfl rfl (by decide +kernel) rfl rfl (Nat.le_of_ble_eq_true rfl) dX5_engineLeaves_44 ?_
    refine tr_aload_n hO 47 0 rfl dX5_engineLeaves_47 ?_
    refine tr_get hO 48 (k := 5) (x_vy (by decide) hj) rfl rfl iX5 (by decide) wF_X5_21 rfl rfl dX5_engineLeaves_48 ?_
    refine tr_bipush hO 51 (v := 8) (by decide) dX5_engineLeaves_51 ?_
    refine tr_iconst hO 53 (v := 0) (by decide) dX5_engineLeaves_53 ?_
    obtain ⟨μ7, e_μ7, h⟩ := of_lt h
    refine tr_iast hO 54 e_μ7 (x_vy (by decide) hj) a_11 (by decide) dX5_engineLeaves_54 ?_
    cases h
    exact tr_vret hO 55 hQ dX5_engineLeaves_55
  have L10_T : ∀ (n : Nat) (v2 : Int32) (μ3 : mT), f_X5_engineLeaves_L10 j a1 v1 K4 n v2 μ3 = some (r, μ') → tj X Γ μ3 10 [(0, .ref (X.1 1 j)), (1, .int a1), (2, .int v1), (3, .int v2)] [] := by
    intro n
    induction n with
    | zero =>
      intro v2 μ3 h
      rw [f_X5_engineLeaves_L10] at h
      cases h
    | succ n ih =>
      intro v2 μ3 h
      rw [f_X5_engineLeaves_L10] at h
      refine tr_iload_n hO 10 3 rfl dX5_engineLeaves_10 ?_
      refine tr_iload_n hO 11 2 rfl dX5_engineLeaves_11 ?_
      refine tr_icmp_ge hO 12 37 (by decide) dX5_engineLeaves_12 (fun hc => ?_) (fun hc => ?_)
      · have h := of_t hc h
        refine tr_sub [0, 2] rfl ?_
        exact K4_T _ h
      · have h := of_f hc h
        refine tr_aload_n hO 15 0 rfl dX5_engineLeaves_15 ?_
        refine tr_get hO 16 (k := 3) (x_vy (by decide) hj) rfl rfl iX5 (by decide) wF_X5_15 rfl rfl dX5_engineLeaves_16 ?_
        refine tr_aload_n hO 19 0 rfl dX5_engineLeaves_19 ?_
        refine tr_get hO 20 (k := 6) (x_vy (by decide) hj) rfl rfl iX5 (by decide) wF_X5_24 rfl rfl dX5_engineLeaves_20 ?_
        refine tr_sipush hO 23 (v := 240) (by decide) dX5_engineLeaves_23 ?_
        refine tr_iload_n hO 26 3 rfl dX5_engineLeaves_26 ?_
        refine tr_iadd hO 27 dX5_engineLeaves_27 ?_
        obtain ⟨hg, h⟩ := of_gd h
        refine tr_iald hO 28 (x_vy (by decide) hj) a_12 hg dX5_engineLeaves_28 ?_
        refine tr_iload_n hO 29 1 rfl dX5_engineLeaves_29 ?_
        obtain ⟨hg, h⟩ := of_gd h
        obtain ⟨μ8, e_μ8, h⟩ := of_lt h
        refine tr_iast hO 30 e_μ8 (x_vy (by decide) hj) a_9 hg dX5_engineLeaves_30 ?_
        obtain ⟨v9, e_v9, h⟩ := of_lt h
        refine tr_iinc hO 31 (q := 3) (v := v9) (lv' := [(3, .int v9), (0, .ref (X.1 1 j)), (1, .int a1), (2, .int v1)]) hn rfl (by rw [e_v9]; rfl) (by decide) rfl dX5_engineLeaves_31 ?_
        refine tr_goto hO 34 10 (by decide) dX5_engineLeaves_34 ?_
        refine tr_sub [1, 2, 3, 0] rfl ?_
        exact ih _ _ h
  refine tr_sub [2, 3, 1, 0] rfl ?_
  exact L10_T _ _ _ h
set_option maxHeartbeats 4000000 in
set_option maxRecDepth 100000 in
theorem c_X6_changeSetting {X : xT} (hX : xOK X) {j : Nat} {a1 : Int32} {a2 : Int32} (hj : j < 11) {μ μ' : mT} {r : Int32} (h : f_X6_changeSetting j a1 a2 μ = some (r, μ')) : CMi X yX6_changeSetting cX6_changeSetting 4 .int 0 0 [.ref (X.1 0 j), .int a1, .int a2] μ r μ' := by
  refine CMi_of hX (by decide +kernel) (lv := [(0, .ref (X.1 0 j)), (1, .int a1), (2, .int a2)]) (Nat.le_of_ble_eq_true rfl) rfl (fun Γ hO hn hQ => ?_)
  have hO : Ok X RX6 cX6_changeSetting 0 0 Γ := hO
  unfold f_X6_changeSetting at h
  refine tr_iload_n hO 0 1 rfl dX6_changeSetting_0 ?_
  refine tr_if_lt hO 1 10 (by decide) dX6_changeSetting_1 (fun hc => ?_) (fun hc => ?_)
  · have h := of_t hc h
    refine tr_bipush hO 10 (v := (-2)) (by decide) dX6_changeSetting_10 ?_
    cases h
    exact tr_iret hO 12 hQ rfl dX6_changeSetting_12
  · have h := of_f hc h
    refine tr_iload_n hO 4 1 rfl dX6_changeSetting_4 ?_
    refine tr_bipush hO 5 (v := 6) (by decide) dX6_changeSetting_5 ?_
    refine tr_icmp_lt hO 7 13 (by decide) dX6_changeSetting_7 (fun hc => ?_) (fun hc => ?_)
    · have h := of_t hc h
      refine tr_iload_n hO 13 2 rfl dX6_changeSetting_13 ?_
      refine tr_gets hO 14 (κ := 40) (n := "LEAST_VALUES") (by decide) (host := RX7) (by decide +kernel) dX6_changeSetting_14 ?_
      refine tr_iload_n hO 17 1 rfl dX6_changeSetting_17 ?_
      obtain ⟨hg, h⟩ := of_gd h
      refine tr_sald hO 18 (by decide) hg dX6_changeSetting_18 ?_
      refine tr_icmp_lt hO 19 31 (by decide) dX6_changeSetting_19 (fun hc => ?_) (fun hc => ?_)
      · have h := of_t hc h
        refine tr_bipush hO 31 (v := (-2)) (by decide) dX6_changeSetting_31 ?_
        cases h
        exact tr_iret hO 33 hQ rfl dX6_changeSetting_33
      · have h := of_f hc h
        refine tr_iload_n hO 22 2 rfl dX6_changeSetting_22 ?_
        refine tr_gets hO 23 (κ := 41) (n := "MOST_VALUES") (by decide) (host := RX7) (by decide +kernel) dX6_changeSetting_23 ?_
        refine tr_iload_n hO 26 1 rfl dX6_changeSetting_26 ?_
        obtain ⟨hg, h⟩ := of_gd h
        refine tr_sald hO 27 (by decide) hg dX6_changeSetting_27 ?_
        refine tr_icmp_le hO 28 34 (by decide) dX6_changeSetting_28 (fun hc => ?_) (fun hc => ?_)
        · have h := of_t hc h
          refine tr_aload_n hO 34 0 rfl dX6_changeSetting_34 ?_
          refine tr_get hO 35 (k := 6) (x_vy (by decide) hj) rfl rfl iX6 (by decide) wF_X6_18 rfl rfl dX6_changeSetting_35 ?_
          refine tr_iload_n hO 38 1 rfl dX6_changeSetting_38 ?_
          obtain ⟨hg, h⟩ := of_gd h
          refine tr_iald hO 39 (x_vy (by decide) hj) a_4 hg dX6_changeSetting_39 ?_
          obtain ⟨v1, e_v1, h⟩ := of_lt h
          refine tr_istore_n hO 40 (v := v1) e_v1 (lv' := [(3, .int v1), (0, .ref (X.1 0 j)), (1, .int a1), (2, .int a2)]) hn rfl (by decide) rfl dX6_changeSetting_40 ?_
          refine tr_aload_n hO 41 1 rfl dX6_changeSetting_41 ?_
          refine tr_get hO 42 (k := 6) (x_vy (by decide) hj) rfl rfl iX6 (by decide) wF_X6_18 rfl rfl dX6_changeSetting_42 ?_
          refine tr_iload_n hO 45 2 rfl dX6_changeSetting_45 ?_
          refine tr_iload_n hO 46 3 rfl dX6_changeSetting_46 ?_
          obtain ⟨hg, h⟩ := of_gd h
          obtain ⟨μ2, e_μ2, h⟩ := of_lt h
          refine tr_iast hO 47 e_μ2 (x_vy (by decide) hj) a_4 hg dX6_changeSetting_47 ?_
          refine tr_iload_n hO 48 0 rfl dX6_changeSetting_48 ?_
          cases h
          exact tr_iret hO 49 hQ rfl dX6_changeSetting_49
        · have h := of_f hc h
          refine tr_bipush hO 31 (v := (-2)) (by decide) dX6_changeSetting_31 ?_
          cases h
          exact tr_iret hO 33 hQ rfl dX6_changeSetting_33
    · have h := of_f hc h
      refine tr_bipush hO 10 (v := (-2)) (by decide) dX6_changeSetting_10 ?_
      cases h
      exact tr_iret hO 12 hQ rfl dX6_changeSetting_12
set_option maxHeartbeats 4000000 in
set_option maxRecDepth 100000 in
theorem c_X6_hasTrack {X : xT} (hX : xOK X) {j : Nat} {a1 : Int32} (hj : j < 11) {μ μ' : mT} {r : Int32} (h : f_X6_hasTrack j a1 μ = some (r, μ')) : CMi X yX6_hasTrack cX6_hasTrack 2 .boolean 0 0 [.ref (X.1 0 j), .int a1] μ r μ' := by
  refine CMi_of hX (by decide +kernel) (lv := [(0, .ref (X.1 0 j)), (1, .int a1)]) (Nat.le_of_ble_eq_true rfl) rfl (fun Γ hO hn hQ => ?_)
  have hO : Ok X RX6 cX6_hasTrack 0 0 Γ := hO
  unfold f_X6_hasTrack at h
  refine tr_iload_n hO 0 1 rfl dX6_hasTrack_0 ?_
  refine tr_if_lt hO 1 16 (by decide) dX6_hasTrack_1 (fun hc => ?_) (fun hc => ?_)
  · have h := of_t hc h
    refine tr_iconst hO 16 (v := 0) (by decide) dX6_hasTrack_16 ?_
    cases h
    exact tr_iret hO 17 hQ (by decide) dX6_hasTrack_17
  · have h := of_f hc h
    refine tr_iload_n hO 4 1 rfl dX6_hasTrack_4 ?_
    refine tr_aload_n hO 5 0 rfl dX6_hasTrack_5 ?_
    refine tr_get hO 6 (k := 7) (x_vy (by decide) hj) rfl rfl iX6 (by decide) wF_X6_78 rfl rfl dX6_hasTrack_6 ?_
    refine tr_icmp_ge hO 9 16 (by decide) dX6_hasTrack_9 (fun hc => ?_) (fun hc => ?_)
    · have h := of_t hc h
      refine tr_iconst hO 16 (v := 0) (by decide) dX6_hasTrack_16 ?_
      cases h
      exact tr_iret hO 17 hQ (by decide) dX6_hasTrack_17
    · have h := of_f hc h
      refine tr_iconst hO 12 (v := 1) (by decide) dX6_hasTrack_12 ?_
      refine tr_goto hO 13 17 (by decide) dX6_hasTrack_13 ?_
      cases h
      exact tr_iret hO 17 hQ (by decide) dX6_hasTrack_17
set_option maxHeartbeats 4000000 in
set_option maxRecDepth 100000 in
theorem c_X6_addTrack {X : xT} (hX : xOK X) {j : Nat} {a1 : Int32} (hj : j < 11) {μ μ' : mT} {r : Int32} (h : f_X6_addTrack j a1 μ = some (r, μ')) : CMi X yX6_addTrack cX6_addTrack 2 .int 0 0 [.ref (X.1 0 j), .int a1] μ r μ' := by
  refine CMi_of hX (by decide +kernel) (lv := [(0, .ref (X.1 0 j)), (1, .int a1)]) (Nat.le_of_ble_eq_true rfl) rfl (fun Γ hO hn hQ => ?_)
  have hO : Ok X RX6 cX6_addTrack 0 0 Γ := hO
  unfold f_X6_addTrack at h
  refine tr_iload_n hO 0 1 rfl dX6_addTrack_0 ?_
  refine tr_iconst hO 1 (v := 4) (by decide) dX6_addTrack_1 ?_
  refine tr_icmp_lt hO 2 11 (by decide) dX6_addTrack_2 (fun hc => ?_) (fun hc => ?_)
  · have h := of_t hc h
    refine tr_bipush hO 11 (v := (-2)) (by decide) dX6_addTrack_11 ?_
    cases h
    exact tr_iret hO 13 hQ rfl dX6_addTrack_13
  · have h := of_f hc h
    refine tr_iload_n hO 5 1 rfl dX6_addTrack_5 ?_
    refine tr_bipush hO 6 (v := 60) (by decide) dX6_addTrack_6 ?_
    refine tr_icmp_le hO 8 14 (by decide) dX6_addTrack_8 (fun hc => ?_) (fun hc => ?_)
    · have h := of_t hc h
      refine tr_aload_n hO 14 0 rfl dX6_addTrack_14 ?_
      refine tr_get hO 15 (k := 7) (x_vy (by decide) hj) rfl rfl iX6 (by decide) wF_X6_78 rfl rfl dX6_addTrack_15 ?_
      refine tr_bipush hO 18 (v := 8) (by decide) dX6_addTrack_18 ?_
      refine tr_icmp_lt hO 20 26 (by decide) dX6_addTrack_20 (fun hc => ?_) (fun hc => ?_)
      · have h := of_t hc h
        refine tr_aload_n hO 26 0 rfl dX6_addTrack_26 ?_
        refine tr_get hO 27 (k := 8) (x_vy (by decide) hj) rfl rfl iX6 (by decide) wF_X6_23 rfl rfl dX6_addTrack_27 ?_
        refine tr_aload_n hO 30 0 rfl dX6_addTrack_30 ?_
        refine tr_get hO 31 (k := 7) (x_vy (by decide) hj) rfl rfl iX6 (by decide) wF_X6_78 rfl rfl dX6_addTrack_31 ?_
        refine tr_iload_n hO 34 1 rfl dX6_addTrack_34 ?_
        obtain ⟨hg, h⟩ := of_gd h
        obtain ⟨μ1, e_μ1, h⟩ := of_lt h
        refine tr_iast hO 35 e_μ1 (x_vy (by decide) hj) a_5 hg dX6_addTrack_35 ?_
        refine tr_aload_n hO 36 0 rfl dX6_addTrack_36 ?_
        refine tr_dup hO 37 rfl dX6_addTrack_37 ?_
        refine tr_get hO 38 (k := 7) (x_vy (by decide) hj) rfl rfl iX6 (by decide) wF_X6_78 rfl rfl dX6_addTrack_38 ?_
        refine tr_iconst hO 41 (v := 1) (by decide) dX6_addTrack_41 ?_
        refine tr_iadd hO 42 dX6_addTrack_42 ?_
        obtain ⟨μ2, e_μ2, h⟩ := of_lt h
        refine tr_put hO 43 (k := 7) (ty := .int) e_μ2 (x_vy (by decide) hj) rfl rfl rfl iX6 tyX6 tyX6_ok nmX6 (by decide) wF_X6_78 rfl rfl (by decide +kernel) rfl rfl (Nat.le_of_ble_eq_true rfl) dX6_addTrack_43 ?_
        refine tr_aload_n hO 46 0 rfl dX6_addTrack_46 ?_
        refine tr_get hO 47 (k := 7) (x_vy (by decide) hj) rfl rfl iX6 (by decide) wF_X6_78 rfl rfl dX6_addTrack_47 ?_
        refine tr_iconst hO 50 (v := 1) (by decide) dX6_addTrack_50 ?_
        refine tr_isub hO 51 dX6_addTrack_51 ?_
        cases h
        exact tr_iret hO 52 hQ rfl dX6_addTrack_52
      · have h := of_f hc h
        refine tr_bipush hO 23 (v := (-4)) (by decide) dX6_addTrack_23 ?_
        cases h
        exact tr_iret hO 25 hQ rfl dX6_addTrack_25
    · have h := of_f hc h
      refine tr_bipush hO 11 (v := (-2)) (by decide) dX6_addTrack_11 ?_
      cases h
      exact tr_iret hO 13 hQ rfl dX6_addTrack_13
set_option maxHeartbeats 4000000 in
set_option maxRecDepth 100000 in
theorem c_X6_addWagon {X : xT} (hX : xOK X) {j : Nat} {a1 : Int32} {a2 : Int32} (hj : j < 11) {μ μ' : mT} {r : Int32} (h : f_X6_addWagon j a1 a2 μ = some (r, μ')) : CMi X yX6_addWagon cX6_addWagon 3 .int 1 23 [.ref (X.1 0 j), .int a1, .int a2] μ r μ' := by
  refine CMi_of hX (by decide +kernel) (lv := [(0, .ref (X.1 0 j)), (1, .int a1), (2, .int a2)]) (Nat.le_of_ble_eq_true rfl) rfl (fun Γ hO hn hQ => ?_)
  have hO : Ok X RX6 cX6_addWagon 1 23 Γ := hO
  unfold f_X6_addWagon at h
  refine tr_aload_n hO 0 0 rfl dX6_addWagon_0 ?_
  refine tr_iload_n hO 1 1 rfl dX6_addWagon_1 ?_
  obtain ⟨v1, μ2, hcall, h⟩ := of_bd h
  refine tr_callI hO 2 (na := 1) (As := [.int a1]) (st := []) (c_X6_hasTrack hX hj hcall) rfl (x_vy (by decide) hj) rfl rfl wM_X6_97 wI_X6_hasTrack wS_X6_hasTrack wN_X6 wC_X6_hasTrack (by decide +kernel) rfl (by decide) (by decide) (Nat.le_of_ble_eq_true rfl) dX6_addWagon_2 ?_
  refine tr_if_ne hO 5 10 (by decide) dX6_addWagon_5 (fun hc => ?_) (fun hc => ?_)
  · have h := of_f hc h
    refine tr_iload_n hO 10 2 rfl dX6_addWagon_10 ?_
    refine tr_iconst hO 11 (v := 1) (by decide) dX6_addWagon_11 ?_
    refine tr_icmp_lt hO 12 20 (by decide) dX6_addWagon_12 (fun hc => ?_) (fun hc => ?_)
    · have h := of_t hc h
      refine tr_bipush hO 20 (v := (-2)) (by decide) dX6_addWagon_20 ?_
      cases h
      exact tr_iret hO 22 hQ rfl dX6_addWagon_22
    · have h := of_f hc h
      refine tr_iload_n hO 15 2 rfl dX6_addWagon_15 ?_
      refine tr_iconst hO 16 (v := 4) (by decide) dX6_addWagon_16 ?_
      refine tr_icmp_le hO 17 23 (by decide) dX6_addWagon_17 (fun hc => ?_) (fun hc => ?_)
      · have h := of_t hc h
        refine tr_aload_n hO 23 0 rfl dX6_addWagon_23 ?_
        refine tr_get hO 24 (k := 11) (x_vy (by decide) hj) rfl rfl iX6 (by decide) wF_X6_35 rfl rfl dX6_addWagon_24 ?_
        refine tr_getN hO 27 (k := 0) (x_vy (by decide) hj) rfl rfl iX5 (by decide) (host := RX7) (by decide +kernel) rfl rfl dX6_addWagon_27 ?_
        refine tr_bipush hO 30 (v := 30) (by decide) dX6_addWagon_30 ?_
        refine tr_icmp_lt hO 32 38 (by decide) dX6_addWagon_32 (fun hc => ?_) (fun hc => ?_)
        · have h := of_t hc h
          refine tr_aload_n hO 38 0 rfl dX6_addWagon_38 ?_
          refine tr_get hO 39 (k := 11) (x_vy (by decide) hj) rfl rfl iX6 (by decide) wF_X6_35 rfl rfl dX6_addWagon_39 ?_
          refine tr_iload_n hO 42 1 rfl dX6_addWagon_42 ?_
          obtain ⟨v3, μ4, hcall, h⟩ := of_bd h
          refine tr_callI hO 43 (na := 1) (As := [.int a1]) (st := []) (c_X5_lengthOfRow hX hj hcall) rfl (x_vy (by decide) hj) rfl rfl wM_X6_104 wI_X5_lengthOfRow wS_X5_lengthOfRow wN_X5 wC_X5_lengthOfRow (by decide +kernel) rfl (by decide) (by decide) (Nat.le_of_ble_eq_true rfl) dX6_addWagon_43 ?_
          refine tr_iload_n hO 46 2 rfl dX6_addWagon_46 ?_
          refine tr_iadd hO 47 dX6_addWagon_47 ?_
          refine tr_aload_n hO 48 0 rfl dX6_addWagon_48 ?_
          refine tr_get hO 49 (k := 8) (x_vy (by decide) hj) rfl rfl iX6 (by decide) wF_X6_23 rfl rfl dX6_addWagon_49 ?_
          refine tr_iload_n hO 52 1 rfl dX6_addWagon_52 ?_
          obtain ⟨hg, h⟩ := of_gd h
          refine tr_iald hO 53 (x_vy (by decide) hj) a_5 hg dX6_addWagon_53 ?_
          refine tr_icmp_le hO 54 60 (by decide) dX6_addWagon_54 (fun hc => ?_) (fun hc => ?_)
          · have h := of_t hc h
            refine tr_aload_n hO 60 0 rfl dX6_addWagon_60 ?_
            refine tr_get hO 61 (k := 11) (x_vy (by decide) hj) rfl rfl iX6 (by decide) wF_X6_35 rfl rfl dX6_addWagon_61 ?_
            refine tr_iload_n hO 64 1 rfl dX6_addWagon_64 ?_
            refine tr_iload_n hO 65 2 rfl dX6_addWagon_65 ?_
            obtain ⟨v5, μ6, hcall, h⟩ := of_bd h
            refine tr_callI hO 66 (na := 2) (As := [.int a1, .int a2]) (st := []) (c_X5_add hX hj hcall) rfl (x_vy (by decide) hj) rfl rfl wM_X6_108 wI_X5_add wS_X5_add wN_X5 wC_X5_add (by decide +kernel) rfl (by decide) (by decide) (Nat.le_of_ble_eq_true rfl) dX6_addWagon_66 ?_
            cases h
            exact tr_iret hO 69 hQ rfl dX6_addWagon_69
          · have h := of_f hc h
            refine tr_bipush hO 57 (v := (-5)) (by decide) dX6_addWagon_57 ?_
            cases h
            exact tr_iret hO 59 hQ rfl dX6_addWagon_59
        · have h := of_f hc h
          refine tr_bipush hO 35 (v := (-4)) (by decide) dX6_addWagon_35 ?_
          cases h
          exact tr_iret hO 37 hQ rfl dX6_addWagon_37
      · have h := of_f hc h
        refine tr_bipush hO 20 (v := (-2)) (by decide) dX6_addWagon_20 ?_
        cases h
        exact tr_iret hO 22 hQ rfl dX6_addWagon_22
  · have h := of_t hc h
    refine tr_iconst hO 8 (v := (-1)) (by decide) dX6_addWagon_8 ?_
    cases h
    exact tr_iret hO 9 hQ rfl dX6_addWagon_9
set_option maxHeartbeats 4000000 in
set_option maxRecDepth 100000 in
theorem c_X6_addBlock {X : xT} (hX : xOK X) {j : Nat} {a1 : Int32} {a2 : Int32} (hj : j < 11) {μ μ' : mT} {r : Int32} (h : f_X6_addBlock j a1 a2 μ = some (r, μ')) : CMi X yX6_addBlock cX6_addBlock 3 .int 1 22 [.ref (X.1 0 j), .int a1, .int a2] μ r μ' := by
  refine CMi_of hX (by decide +kernel) (lv := [(0, .ref (X.1 0 j)), (1, .int a1), (2, .int a2)]) (Nat.le_of_ble_eq_true rfl) rfl (fun Γ hO hn hQ => ?_)
  have hO : Ok X RX6 cX6_addBlock 1 22 Γ := hO
  unfold f_X6_addBlock at h
  refine tr_iload_n hO 0 1 rfl dX6_addBlock_0 ?_
  refine tr_aload_n hO 1 0 rfl dX6_addBlock_1 ?_
  refine tr_get hO 2 (k := 0) (x_vy (by decide) hj) rfl rfl iX6 (by decide) wF_X6_53 rfl rfl dX6_addBlock_2 ?_
  refine tr_icmp_lt hO 5 32 (by decide) dX6_addBlock_5 (fun hc => ?_) (fun hc => ?_)
  · have h := of_t hc h
    refine tr_bipush hO 32 (v := (-2)) (by decide) dX6_addBlock_32 ?_
    cases h
    exact tr_iret hO 34 hQ rfl dX6_addBlock_34
  · have h := of_f hc h
    refine tr_iload_n hO 8 1 rfl dX6_addBlock_8 ?_
    refine tr_aload_n hO 9 0 rfl dX6_addBlock_9 ?_
    refine tr_get hO 10 (k := 0) (x_vy (by decide) hj) rfl rfl iX6 (by decide) wF_X6_53 rfl rfl dX6_addBlock_10 ?_
    refine tr_sipush hO 13 (v := 2000) (by decide) dX6_addBlock_13 ?_
    refine tr_iadd hO 16 dX6_addBlock_16 ?_
    refine tr_icmp_gt hO 17 32 (by decide) dX6_addBlock_17 (fun hc => ?_) (fun hc => ?_)
    · have h := of_t hc h
      refine tr_bipush hO 32 (v := (-2)) (by decide) dX6_addBlock_32 ?_
      cases h
      exact tr_iret hO 34 hQ rfl dX6_addBlock_34
    · have h := of_f hc h
      refine tr_iload_n hO 20 2 rfl dX6_addBlock_20 ?_
      refine tr_iconst hO 21 (v := 1) (by decide) dX6_addBlock_21 ?_
      refine tr_icmp_lt hO 22 32 (by decide) dX6_addBlock_22 (fun hc => ?_) (fun hc => ?_)
      · have h := of_t hc h
        refine tr_bipush hO 32 (v := (-2)) (by decide) dX6_addBlock_32 ?_
        cases h
        exact tr_iret hO 34 hQ rfl dX6_addBlock_34
      · have h := of_f hc h
        refine tr_iload_n hO 25 2 rfl dX6_addBlock_25 ?_
        refine tr_sipush hO 26 (v := 500) (by decide) dX6_addBlock_26 ?_
        refine tr_icmp_le hO 29 35 (by decide) dX6_addBlock_29 (fun hc => ?_) (fun hc => ?_)
        · have h := of_t hc h
          refine tr_aload_n hO 35 0 rfl dX6_addBlock_35 ?_
          refine tr_get hO 36 (k := 12) (x_vy (by decide) hj) rfl rfl iX6 (by decide) wF_X6_42 rfl rfl dX6_addBlock_36 ?_
          refine tr_getN hO 39 (k := 0) (x_vy (by decide) hj) rfl rfl iX0 (by decide) (host := RX7) (by decide +kernel) rfl rfl dX6_addBlock_39 ?_
          refine tr_bipush hO 42 (v := 10) (by decide) dX6_addBlock_42 ?_
          refine tr_icmp_lt hO 44 50 (by decide) dX6_addBlock_44 (fun hc => ?_) (fun hc => ?_)
          · have h := of_t hc h
            refine tr_aload_n hO 50 0 rfl dX6_addBlock_50 ?_
            refine tr_get hO 51 (k := 12) (x_vy (by decide) hj) rfl rfl iX6 (by decide) wF_X6_42 rfl rfl dX6_addBlock_51 ?_
            refine tr_iload_n hO 54 1 rfl dX6_addBlock_54 ?_
            refine tr_iload_n hO 55 1 rfl dX6_addBlock_55 ?_
            refine tr_iload_n hO 56 2 rfl dX6_addBlock_56 ?_
            refine tr_iadd hO 57 dX6_addBlock_57 ?_
            obtain ⟨v1, μ2, hcall, h⟩ := of_bd h
            refine tr_callI hO 58 (na := 2) (As := [.int a1, .int (a1 + a2)]) (st := []) (c_X0_add hX hj hcall) rfl (x_vy (by decide) hj) rfl rfl wM_X6_113 wI_X0_add wS_X0_add wN_X0 wC_X0_add (by decide +kernel) rfl (by decide) (by decide) (Nat.le_of_ble_eq_true rfl) dX6_addBlock_58 ?_
            cases h
            exact tr_iret hO 61 hQ rfl dX6_addBlock_61
          · have h := of_f hc h
            refine tr_bipush hO 47 (v := (-4)) (by decide) dX6_addBlock_47 ?_
            cases h
            exact tr_iret hO 49 hQ rfl dX6_addBlock_49
        · have h := of_f hc h
          refine tr_bipush hO 32 (v := (-2)) (by decide) dX6_addBlock_32 ?_
          cases h
          exact tr_iret hO 34 hQ rfl dX6_addBlock_34
set_option maxHeartbeats 4000000 in
set_option maxRecDepth 100000 in
theorem c_X6_takeOut {X : xT} (hX : xOK X) {j : Nat} {a1 : Int32} {a2 : Int32} (hj : j < 11) {μ μ' : mT} {r : Int32} (h : f_X6_takeOut j a1 a2 μ = some (r, μ')) : CMi X yX6_takeOut cX6_takeOut 3 .int 4 90 [.ref (X.1 0 j), .int a1, .int a2] μ r μ' := by
  refine CMi_of hX (by decide +kernel) (lv := [(0, .ref (X.1 0 j)), (1, .int a1), (2, .int a2)]) (Nat.le_of_ble_eq_true rfl) rfl (fun Γ hO hn hQ => ?_)
  have hO : Ok X RX6 cX6_takeOut 4 90 Γ := hO
  unfold f_X6_takeOut at h
  refine tr_aload_n hO 0 0 rfl dX6_takeOut_0 ?_
  refine tr_iload_n hO 1 1 rfl dX6_takeOut_1 ?_
  obtain ⟨v1, μ2, hcall, h⟩ := of_bd h
  refine tr_callI hO 2 (na := 1) (As := [.int a1]) (st := []) (c_X6_hasTrack hX hj hcall) rfl (x_vy (by decide) hj) rfl rfl wM_X6_97 wI_X6_hasTrack wS_X6_hasTrack wN_X6 wC_X6_hasTrack (by decide +kernel) rfl (by decide) (by decide) (Nat.le_of_ble_eq_true rfl) dX6_takeOut_2 ?_
  refine tr_if_ne hO 5 10 (by decide) dX6_takeOut_5 (fun hc => ?_) (fun hc => ?_)
  · have h := of_f hc h
    refine tr_iload_n hO 10 2 rfl dX6_takeOut_10 ?_
    refine tr_iconst hO 11 (v := 1) (by decide) dX6_takeOut_11 ?_
    refine tr_icmp_lt hO 12 21 (by decide) dX6_takeOut_12 (fun hc => ?_) (fun hc => ?_)
    · have h := of_t hc h
      refine tr_bipush hO 21 (v := (-2)) (by decide) dX6_takeOut_21 ?_
      cases h
      exact tr_iret hO 23 hQ rfl dX6_takeOut_23
    · have h := of_f hc h
      refine tr_iload_n hO 15 2 rfl dX6_takeOut_15 ?_
      refine tr_bipush hO 16 (v := 30) (by decide) dX6_takeOut_16 ?_
      refine tr_icmp_le hO 18 24 (by decide) dX6_takeOut_18 (fun hc => ?_) (fun hc => ?_)
      · have h := of_t hc h
        refine tr_aload_n hO 24 0 rfl dX6_takeOut_24 ?_
        refine tr_iload_n hO 25 1 rfl dX6_takeOut_25 ?_
        refine tr_iload_n hO 26 2 rfl dX6_takeOut_26 ?_
        obtain ⟨v3, μ4, hcall, h⟩ := of_bd h
        refine tr_callI hO 27 (na := 2) (As := [.int a1, .int a2]) (st := []) (c_X6_canTakeOut hX hj hcall) rfl (x_vy (by decide) hj) rfl rfl wM_X6_114 wI_X6_canTakeOut wS_X6_canTakeOut wN_X6 wC_X6_canTakeOut (by decide +kernel) rfl (by decide) (by decide) (Nat.le_of_ble_eq_true rfl) dX6_takeOut_27 ?_
        refine tr_if_ne hO 30 36 (by decide) dX6_takeOut_30 (fun hc => ?_) (fun hc => ?_)
        · have h := of_f hc h
          refine tr_aload_n hO 36 0 rfl dX6_takeOut_36 ?_
          refine tr_iload_n hO 37 1 rfl dX6_takeOut_37 ?_
          refine tr_iload_n hO 38 2 rfl dX6_takeOut_38 ?_
          obtain ⟨v5, μ6, hcall, h⟩ := of_bd h
          refine tr_callI hO 39 (na := 2) (As := [.int a1, .int a2]) (st := []) (c_X6_drawOut hX hj hcall) rfl (x_vy (by decide) hj) rfl rfl wM_X6_118 wI_X6_drawOut wS_X6_drawOut wN_X6 wC_X6_drawOut (by decide +kernel) rfl (by decide) (by decide) (Nat.le_of_ble_eq_true rfl) dX6_takeOut_39 ?_
          cases h
          exact tr_iret hO 42 hQ rfl dX6_takeOut_42
        · have h := of_t hc h
          refine tr_bipush hO 33 (v := (-5)) (by decide) dX6_takeOut_33 ?_
          cases h
          exact tr_iret hO 35 hQ rfl dX6_takeOut_35
      · have h := of_f hc h
        refine tr_bipush hO 21 (v := (-2)) (by decide) dX6_takeOut_21 ?_
        cases h
        exact tr_iret hO 23 hQ rfl dX6_takeOut_23
  · have h := of_t hc h
    refine tr_iconst hO 8 (v := (-1)) (by decide) dX6_takeOut_8 ?_
    cases h
    exact tr_iret hO 9 hQ rfl dX6_takeOut_9
set_option maxHeartbeats 4000000 in
set_option maxRecDepth 100000 in
theorem c_X6_bringIn {X : xT} (hX : xOK X) {j : Nat} {a1 : Int32} {a2 : Int32} (hj : j < 11) {μ μ' : mT} {r : Int32} (h : f_X6_bringIn j a1 a2 μ = some (r, μ')) : CMi X yX6_bringIn cX6_bringIn 4 .int 3 68 [.ref (X.1 0 j), .int a1, .int a2] μ r μ' := by
  refine CMi_of hX (by decide +kernel) (lv := [(0, .ref (X.1 0 j)), (1, .int a1), (2, .int a2)]) (Nat.le_of_ble_eq_true rfl) rfl (fun Γ hO hn hQ => ?_)
  have hO : Ok X RX6 cX6_bringIn 3 68 Γ := hO
  unfold f_X6_bringIn at h
  refine tr_aload_n hO 0 0 rfl dX6_bringIn_0 ?_
  refine tr_iload_n hO 1 1 rfl dX6_bringIn_1 ?_
  obtain ⟨v1, μ2, hcall, h⟩ := of_bd h
  refine tr_callI hO 2 (na := 1) (As := [.int a1]) (st := []) (c_X6_hasTrack hX hj hcall) rfl (x_vy (by decide) hj) rfl rfl wM_X6_97 wI_X6_hasTrack wS_X6_hasTrack wN_X6 wC_X6_hasTrack (by decide +kernel) rfl (by decide) (by decide) (Nat.le_of_ble_eq_true rfl) dX6_bringIn_2 ?_
  refine tr_if_ne hO 5 10 (by decide) dX6_bringIn_5 (fun hc => ?_) (fun hc => ?_)
  · have h := of_f hc h
    refine tr_iload_n hO 10 2 rfl dX6_bringIn_10 ?_
    refine tr_iconst hO 11 (v := 1) (by decide) dX6_bringIn_11 ?_
    refine tr_icmp_lt hO 12 21 (by decide) dX6_bringIn_12 (fun hc => ?_) (fun hc => ?_)
    · have h := of_t hc h
      refine tr_bipush hO 21 (v := (-2)) (by decide) dX6_bringIn_21 ?_
      cases h
      exact tr_iret hO 23 hQ rfl dX6_bringIn_23
    · have h := of_f hc h
      refine tr_iload_n hO 15 2 rfl dX6_bringIn_15 ?_
      refine tr_bipush hO 16 (v := 30) (by decide) dX6_bringIn_16 ?_
      refine tr_icmp_le hO 18 24 (by decide) dX6_bringIn_18 (fun hc => ?_) (fun hc => ?_)
      · have h := of_t hc h
        refine tr_aload_n hO 24 0 rfl dX6_bringIn_24 ?_
        refine tr_iload_n hO 25 1 rfl dX6_bringIn_25 ?_
        refine tr_iload_n hO 26 2 rfl dX6_bringIn_26 ?_
        obtain ⟨v3, μ4, hcall, h⟩ := of_bd h
        refine tr_callI hO 27 (na := 2) (As := [.int a1, .int a2]) (st := []) (c_X6_canBringIn hX hj hcall) rfl (x_vy (by decide) hj) rfl rfl wM_X6_139 wI_X6_canBringIn wS_X6_canBringIn wN_X6 wC_X6_canBringIn (by decide +kernel) rfl (by decide) (by decide) (Nat.le_of_ble_eq_true rfl) dX6_bringIn_27 ?_
        refine tr_if_ne hO 30 36 (by decide) dX6_bringIn_30 (fun hc => ?_) (fun hc => ?_)
        · have h := of_f hc h
          refine tr_aload_n hO 36 0 rfl dX6_bringIn_36 ?_
          refine tr_get hO 37 (k := 11) (x_vy (by decide) hj) rfl rfl iX6 (by decide) wF_X6_35 rfl rfl dX6_bringIn_37 ?_
          refine tr_iload_n hO 40 1 rfl dX6_bringIn_40 ?_
          obtain ⟨v5, μ6, hcall, h⟩ := of_bd h
          refine tr_callI hO 41 (na := 1) (As := [.int a1]) (st := []) (c_X5_manyIn hX hj hcall) rfl (x_vy (by decide) hj) rfl rfl wM_X6_121 wI_X5_manyIn wS_X5_manyIn wN_X5 wC_X5_manyIn (by decide +kernel) rfl (by decide) (by decide) (Nat.le_of_ble_eq_true rfl) dX6_bringIn_41 ?_
          obtain ⟨J7, e_J7, h⟩ := of_lt h
          have J7_T : ∀ (v8 : Int32) (μ9 : mT), J7 v8 μ9 = some (r, μ') → tj X Γ μ9 52 [(0, .ref (X.1 0 j)), (1, .int a1), (2, .int a2)] [.int v8] := by
            intro v8 μ9 h
            rw [e_J7] at h
            refine tr_istore_n hO 52 (v := v8) rfl (lv' := [(3, .int v8), (0, .ref (X.1 0 j)), (1, .int a1), (2, .int a2)]) hn rfl (by decide) rfl dX6_bringIn_52 ?_
            refine tr_aload_n hO 53 1 rfl dX6_bringIn_53 ?_
            refine tr_get hO 54 (k := 11) (x_vy (by decide) hj) rfl rfl iX6 (by decide) wF_X6_35 rfl rfl dX6_bringIn_54 ?_
            refine tr_bipush hO 57 (v := 8) (by decide) dX6_bringIn_57 ?_
            refine tr_iload_n hO 59 2 rfl dX6_bringIn_59 ?_
            refine tr_iload_n hO 60 3 rfl dX6_bringIn_60 ?_
            obtain ⟨v10, μ11, hcall, h⟩ := of_bd h
            refine tr_callV hO 61 (na := 3) (As := [.int 8, .int a1, .int a2]) (st := []) (c_X5_shift hX hj hcall) rfl (x_vy (by decide) hj) rfl rfl wM_X6_127 wI_X5_shift wS_X5_shift wN_X5 wC_X5_shift (by decide +kernel) rfl (by decide) (by decide) (Nat.le_of_ble_eq_true rfl) dX6_bringIn_61 ?_
            refine tr_aload_n hO 64 1 rfl dX6_bringIn_64 ?_
            refine tr_get hO 65 (k := 10) (x_vy (by decide) hj) rfl rfl iX6 (by decide) wF_X6_29 rfl rfl dX6_bringIn_65 ?_
            refine tr_iload_n hO 68 2 rfl dX6_bringIn_68 ?_
            refine tr_dup2 hO 69 rfl rfl dX6_bringIn_69 ?_
            obtain ⟨hg, h⟩ := of_gd h
            refine tr_iald hO 70 (x_vy (by decide) hj) a_7 hg dX6_bringIn_70 ?_
            refine tr_iload_n hO 71 3 rfl dX6_bringIn_71 ?_
            refine tr_iadd hO 72 dX6_bringIn_72 ?_
            obtain ⟨hg, h⟩ := of_gd h
            obtain ⟨μ12, e_μ12, h⟩ := of_lt h
            refine tr_iast hO 73 e_μ12 (x_vy (by decide) hj) a_7 hg dX6_bringIn_73 ?_
            refine tr_aload_n hO 74 1 rfl dX6_bringIn_74 ?_
            refine tr_aload_n hO 75 1 rfl dX6_bringIn_75 ?_
            refine tr_get hO 76 (k := 6) (x_vy (by decide) hj) rfl rfl iX6 (by decide) wF_X6_18 rfl rfl dX6_bringIn_76 ?_
            refine tr_iconst hO 79 (v := 2) (by decide) dX6_bringIn_79 ?_
            refine tr_iald hO 80 (x_vy (by decide) hj) a_4 (by decide) dX6_bringIn_80 ?_
            refine tr_iload_n hO 81 0 rfl dX6_bringIn_81 ?_
            obtain ⟨v13, μ14, hcall, h⟩ := of_bd h
            refine tr_callV hO 82 (na := 2) (As := [.int (μ12 4 j (2 : Int32).toNatClampNeg), .int v8]) (st := []) (c_X6_makeMove hX hj hcall) rfl (x_vy (by decide) hj) rfl rfl wM_X6_135 wI_X6_makeMove wS_X6_makeMove wN_X6 wC_X6_makeMove (by decide +kernel) rfl (by decide) (by decide) (Nat.le_of_ble_eq_true rfl) dX6_bringIn_82 ?_
            refine tr_aload_n hO 85 1 rfl dX6_bringIn_85 ?_
            refine tr_get hO 86 (k := 11) (x_vy (by decide) hj) rfl rfl iX6 (by decide) wF_X6_35 rfl rfl dX6_bringIn_86 ?_
            refine tr_bipush hO 89 (v := 8) (by decide) dX6_bringIn_89 ?_
            obtain ⟨v15, μ16, hcall, h⟩ := of_bd h
            refine tr_callI hO 91 (na := 1) (As := [.int 8]) (st := []) (c_X5_manyIn hX hj hcall) rfl (x_vy (by decide) hj) rfl rfl wM_X6_121 wI_X5_manyIn wS_X5_manyIn wN_X5 wC_X5_manyIn (by decide +kernel) rfl (by decide) (by decide) (Nat.le_of_ble_eq_true rfl) dX6_bringIn_91 ?_
            cases h
            exact tr_iret hO 94 hQ rfl dX6_bringIn_94
          refine tr_if_le hO 44 51 (by decide) dX6_bringIn_44 (fun hc => ?_) (fun hc => ?_)
          · have h := of_t hc h
            refine tr_iconst hO 51 (v := 1) (by decide) dX6_bringIn_51 ?_
            exact J7_T _ _ h
          · have h := of_f hc h
            refine tr_iconst hO 47 (v := 2) (by decide) dX6_bringIn_47 ?_
            refine tr_goto hO 48 52 (by decide) dX6_bringIn_48 ?_
            exact J7_T _ _ h
        · have h := of_t hc h
          refine tr_bipush hO 33 (v := (-5)) (by decide) dX6_bringIn_33 ?_
          cases h
          exact tr_iret hO 35 hQ rfl dX6_bringIn_35
      · have h := of_f hc h
        refine tr_bipush hO 21 (v := (-2)) (by decide) dX6_bringIn_21 ?_
        cases h
        exact tr_iret hO 23 hQ rfl dX6_bringIn_23
  · have h := of_t hc h
    refine tr_iconst hO 8 (v := (-1)) (by decide) dX6_bringIn_8 ?_
    cases h
    exact tr_iret hO 9 hQ rfl dX6_bringIn_9
set_option maxHeartbeats 4000000 in
set_option maxRecDepth 100000 in
theorem c_X6_goRound {X : xT} (hX : xOK X) {j : Nat} (hj : j < 11) {μ μ' : mT} {r : Int32} (h : f_X6_goRound j μ = some (r, μ')) : CMi X yX6_goRound cX6_goRound 1 .int 3 68 [.ref (X.1 0 j)] μ r μ' := by
  refine CMi_of hX (by decide +kernel) (lv := [(0, .ref (X.1 0 j))]) (Nat.le_of_ble_eq_true rfl) rfl (fun Γ hO hn hQ => ?_)
  have hO : Ok X RX6 cX6_goRound 3 68 Γ := hO
  unfold f_X6_goRound at h
  refine tr_aload_n hO 0 0 rfl dX6_goRound_0 ?_
  obtain ⟨v1, μ2, hcall, h⟩ := of_bd h
  refine tr_callI hO 1 (na := 0) (As := []) (st := []) (c_X6_canGoRound hX hj hcall) rfl (x_vy (by decide) hj) rfl rfl wM_X6_142 wI_X6_canGoRound wS_X6_canGoRound wN_X6 wC_X6_canGoRound (by decide +kernel) rfl (by decide) (by decide) (Nat.le_of_ble_eq_true rfl) dX6_goRound_1 ?_
  refine tr_if_ne hO 4 10 (by decide) dX6_goRound_4 (fun hc => ?_) (fun hc => ?_)
  · have h := of_f hc h
    refine tr_aload_n hO 10 0 rfl dX6_goRound_10 ?_
    refine tr_get hO 11 (k := 11) (x_vy (by decide) hj) rfl rfl iX6 (by decide) wF_X6_35 rfl rfl dX6_goRound_11 ?_
    obtain ⟨v3, μ4, hcall, h⟩ := of_bd h
    refine tr_callV hO 14 (na := 0) (As := []) (st := []) (c_X5_turnEngine hX hj hcall) rfl (x_vy (by decide) hj) rfl rfl wM_X6_146 wI_X5_turnEngine wS_X5_turnEngine wN_X5 wC_X5_turnEngine (by decide +kernel) rfl (by decide) (by decide) (Nat.le_of_ble_eq_true rfl) dX6_goRound_14 ?_
    refine tr_aload_n hO 17 0 rfl dX6_goRound_17 ?_
    refine tr_aload_n hO 18 0 rfl dX6_goRound_18 ?_
    refine tr_get hO 19 (k := 6) (x_vy (by decide) hj) rfl rfl iX6 (by decide) wF_X6_18 rfl rfl dX6_goRound_19 ?_
    refine tr_iconst hO 22 (v := 4) (by decide) dX6_goRound_22 ?_
    refine tr_iald hO 23 (x_vy (by decide) hj) a_4 (by decide) dX6_goRound_23 ?_
    refine tr_iconst hO 24 (v := 2) (by decide) dX6_goRound_24 ?_
    obtain ⟨v5, μ6, hcall, h⟩ := of_bd h
    refine tr_callV hO 25 (na := 2) (As := [.int (μ4 4 j (4 : Int32).toNatClampNeg), .int 2]) (st := []) (c_X6_makeMove hX hj hcall) rfl (x_vy (by decide) hj) rfl rfl wM_X6_135 wI_X6_makeMove wS_X6_makeMove wN_X6 wC_X6_makeMove (by decide +kernel) rfl (by decide) (by decide) (Nat.le_of_ble_eq_true rfl) dX6_goRound_25 ?_
    refine tr_aload_n hO 28 0 rfl dX6_goRound_28 ?_
    refine tr_get hO 29 (k := 0) (x_vy (by decide) hj) rfl rfl iX6 (by decide) wF_X6_53 rfl rfl dX6_goRound_29 ?_
    cases h
    exact tr_iret hO 32 hQ rfl dX6_goRound_32
  · have h := of_t hc h
    refine tr_bipush hO 7 (v := (-5)) (by decide) dX6_goRound_7 ?_
    cases h
    exact tr_iret hO 9 hQ rfl dX6_goRound_9
set_option maxHeartbeats 4000000 in
set_option maxRecDepth 100000 in
theorem c_X6_letPass {X : xT} (hX : xOK X) {j : Nat} {a1 : Int32} (hj : j < 11) {μ μ' : mT} {r : Int32} (h : f_X6_letPass j a1 μ = some (r, μ')) : CMi X yX6_letPass cX6_letPass 2 .int 2 44 [.ref (X.1 0 j), .int a1] μ r μ' := by
  refine CMi_of hX (by decide +kernel) (lv := [(0, .ref (X.1 0 j)), (1, .int a1)]) (Nat.le_of_ble_eq_true rfl) rfl (fun Γ hO hn hQ => ?_)
  have hO : Ok X RX6 cX6_letPass 2 44 Γ := hO
  unfold f_X6_letPass at h
  refine tr_iload_n hO 0 1 rfl dX6_letPass_0 ?_
  refine tr_iconst hO 1 (v := 1) (by decide) dX6_letPass_1 ?_
  refine tr_icmp_lt hO 2 12 (by decide) dX6_letPass_2 (fun hc => ?_) (fun hc => ?_)
  · have h := of_t hc h
    refine tr_bipush hO 12 (v := (-2)) (by decide) dX6_letPass_12 ?_
    cases h
    exact tr_iret hO 14 hQ rfl dX6_letPass_14
  · have h := of_f hc h
    refine tr_iload_n hO 5 1 rfl dX6_letPass_5 ?_
    refine tr_sipush hO 6 (v := 999) (by decide) dX6_letPass_6 ?_
    refine tr_icmp_le hO 9 15 (by decide) dX6_letPass_9 (fun hc => ?_) (fun hc => ?_)
    · have h := of_t hc h
      refine tr_aload_n hO 15 0 rfl dX6_letPass_15 ?_
      refine tr_aload_n hO 16 0 rfl dX6_letPass_16 ?_
      refine tr_get hO 17 (k := 0) (x_vy (by decide) hj) rfl rfl iX6 (by decide) wF_X6_53 rfl rfl dX6_letPass_17 ?_
      refine tr_iload_n hO 20 1 rfl dX6_letPass_20 ?_
      refine tr_iadd hO 21 dX6_letPass_21 ?_
      obtain ⟨v1, μ2, hcall, h⟩ := of_bd h
      refine tr_callV hO 22 (na := 1) (As := [.int ((μ 0 j 0) + a1)]) (st := []) (c_X6_comeTo hX hj hcall) rfl (x_vy (by decide) hj) rfl rfl wM_X6_152 wI_X6_comeTo wS_X6_comeTo wN_X6 wC_X6_comeTo (by decide +kernel) rfl (by decide) (by decide) (Nat.le_of_ble_eq_true rfl) dX6_letPass_22 ?_
      refine tr_aload_n hO 25 0 rfl dX6_letPass_25 ?_
      refine tr_get hO 26 (k := 0) (x_vy (by decide) hj) rfl rfl iX6 (by decide) wF_X6_53 rfl rfl dX6_letPass_26 ?_
      cases h
      exact tr_iret hO 29 hQ rfl dX6_letPass_29
    · have h := of_f hc h
      refine tr_bipush hO 12 (v := (-2)) (by decide) dX6_letPass_12 ?_
      cases h
      exact tr_iret hO 14 hQ rfl dX6_letPass_14
set_option maxHeartbeats 4000000 in
set_option maxRecDepth 100000 in
theorem c_X6_areThere {X : xT} (hX : xOK X) {j : Nat} {a2 : Int32} (hj : j < 11) {μ μ' : mT} {r : Int32} (h : f_X6_areThere j a2 μ = some (r, μ')) : CMi X yX6_areThere cX6_areThere 5 .boolean 2 46 [.ref (X.1 0 j), .ref (X.1 26 0), .int a2] μ r μ' := by
  refine CMi_of hX (by decide +kernel) (lv := [(0, .ref (X.1 0 j)), (1, .ref (X.1 26 0)), (2, .int a2)]) (Nat.le_of_ble_eq_true rfl) rfl (fun Γ hO hn hQ => ?_)
  have hO : Ok X RX6 cX6_areThere 2 46 Γ := hO
  unfold f_X6_areThere at h
  refine tr_iconst hO 0 (v := 0) (by decide) dX6_areThere_0 ?_
  refine tr_istore_n hO 1 (v := 0) rfl (lv' := [(3, .int 0), (0, .ref (X.1 0 j)), (1, .ref (X.1 26 0)), (2, .int a2)]) hn rfl (by decide) rfl dX6_areThere_1 ?_
  obtain ⟨K3, e_K3, h⟩ := of_lt h
  have K3_T : ∀ (μ4 : mT), K3 μ4 = some (r, μ') → tj X Γ μ4 57 [(2, .int a2)] [] := by
    intro μ4 h
    rw [e_K3] at h
    refine tr_iload_n hO 57 0 rfl dX6_areThere_57 ?_
    refine tr_if_le hO 58 65 (by decide) dX6_areThere_58 (fun hc => ?_) (fun hc => ?_)
    · have h := of_t hc h
      refine tr_iconst hO 65 (v := 0) (by decide) dX6_areThere_65 ?_
      cases h
      exact tr_iret hO 66 hQ (by decide) dX6_areThere_66
    · have h := of_f hc h
      refine tr_iconst hO 61 (v := 1) (by decide) dX6_areThere_61 ?_
      refine tr_goto hO 62 66 (by decide) dX6_areThere_62 ?_
      cases h
      exact tr_iret hO 66 hQ (by decide) dX6_areThere_66
  have L2_T : ∀ (n : Nat) (v1 : Int32) (μ2 : mT), f_X6_areThere_L2 j a2 K3 n v1 μ2 = some (r, μ') → tj X Γ μ2 2 [(0, .ref (X.1 0 j)), (1, .ref (X.1 26 0)), (2, .int a2), (3, .int v1)] [] := by
    intro n
    induction n with
    | zero =>
      intro v1 μ2 h
      rw [f_X6_areThere_L2] at h
      cases h
    | succ n ih =>
      intro v1 μ2 h
      rw [f_X6_areThere_L2] at h
      refine tr_iload_n hO 2 3 rfl dX6_areThere_2 ?_
      refine tr_iload_n hO 3 2 rfl dX6_areThere_3 ?_
      refine tr_icmp_ge hO 4 57 (by decide) dX6_areThere_4 (fun hc => ?_) (fun hc => ?_)
      · have h := of_t hc h
        refine tr_sub [2] rfl ?_
        exact K3_T _ h
      · have h := of_f hc h
        refine tr_aload_n hO 7 0 rfl dX6_areThere_7 ?_
        refine tr_get hO 8 (k := 11) (x_vy (by decide) hj) rfl rfl iX6 (by decide) wF_X6_35 rfl rfl dX6_areThere_8 ?_
        refine tr_aload_n hO 11 1 rfl dX6_areThere_11 ?_
        refine tr_iload_n hO 12 3 rfl dX6_areThere_12 ?_
        obtain ⟨hg, h⟩ := of_gd h
        refine tr_iald hO 13 (x_v0 (by decide)) a_26 hg dX6_areThere_13 ?_
        obtain ⟨v5, μ6, hcall, h⟩ := of_bd h
        refine tr_callI hO 14 (na := 1) (As := [.int (μ2 26 0 v1.toNatClampNeg)]) (st := []) (c_X5_rowOf hX hj hcall) rfl (x_vy (by decide) hj) rfl rfl wM_X6_171 wI_X5_rowOf wS_X5_rowOf wN_X5 wC_X5_rowOf (by decide +kernel) rfl (by decide) (by decide) (Nat.le_of_ble_eq_true rfl) dX6_areThere_14 ?_
        refine tr_bipush hO 17 (v := (-6)) (by decide) dX6_areThere_17 ?_
        refine tr_icmp_ne hO 19 24 (by decide) dX6_areThere_19 (fun hc => ?_) (fun hc => ?_)
        · have h := of_f hc h
          refine tr_iconst hO 24 (v := 0) (by decide) dX6_areThere_24 ?_
          refine tr_istore hO 25 (v := 0) rfl (lv' := [(4, .int 0), (0, .ref (X.1 0 j)), (1, .ref (X.1 26 0)), (2, .int a2), (3, .int v1)]) hn (by decide) rfl dX6_areThere_25 ?_
          obtain ⟨K9, e_K9, h⟩ := of_lt h
          have K9_T : ∀ (μ10 : mT), K9 μ10 = some (r, μ') → tj X Γ μ10 51 [(0, .ref (X.1 0 j)), (1, .ref (X.1 26 0)), (2, .int a2), (3, .int v1)] [] := by
            intro μ10 h
            rw [e_K9] at h
            obtain ⟨v11, e_v11, h⟩ := of_lt h
            refine tr_iinc hO 51 (q := 3) (v := v11) (lv' := [(3, .int v11), (0, .ref (X.1 0 j)), (1, .ref (X.1 26 0)), (2, .int a2)]) hn rfl (by rw [e_v11]; rfl) (by decide) rfl dX6_areThere_51 ?_
            refine tr_goto hO 54 2 (by decide) dX6_areThere_54 ?_
            refine tr_sub [1, 2, 3, 0] rfl ?_
            exact ih _ _ h
          have L27_T : ∀ (n : Nat) (v7 : Int32) (μ8 : mT), f_X6_areThere_L27 j a2 v1 K9 n v7 μ8 = some (r, μ') → tj X Γ μ8 27 [(0, .ref (X.1 0 j)), (1, .ref (X.1 26 0)), (2, .int a2), (3, .int v1), (4, .int v7)] [] := by
            intro n
            induction n with
            | zero =>
              intro v7 μ8 h
              rw [f_X6_areThere_L27] at h
              cases h
            | succ n ih =>
              intro v7 μ8 h
              rw [f_X6_areThere_L27] at h
              refine tr_iload hO 27 4 rfl dX6_areThere_27 ?_
              refine tr_iload_n hO 29 3 rfl dX6_areThere_29 ?_
              refine tr_icmp_ge hO 30 51 (by decide) dX6_areThere_30 (fun hc => ?_) (fun hc => ?_)
              · have h := of_t hc h
                refine tr_sub [0, 1, 2, 3] rfl ?_
                exact K9_T _ h
              · have h := of_f hc h
                refine tr_aload_n hO 33 1 rfl dX6_areThere_33 ?_
                refine tr_iload_n hO 34 3 rfl dX6_areThere_34 ?_
                obtain ⟨hg, h⟩ := of_gd h
                refine tr_iald hO 35 (x_v0 (by decide)) a_26 hg dX6_areThere_35 ?_
                refine tr_aload_n hO 36 1 rfl dX6_areThere_36 ?_
                refine tr_iload hO 37 4 rfl dX6_areThere_37 ?_
                obtain ⟨hg, h⟩ := of_gd h
                refine tr_iald hO 39 (x_v0 (by decide)) a_26 hg dX6_areThere_39 ?_
                refine tr_icmp_ne hO 40 45 (by decide) dX6_areThere_40 (fun hc => ?_) (fun hc => ?_)
                · have h := of_f hc h
                  obtain ⟨v12, e_v12, h⟩ := of_lt h
                  refine tr_iinc hO 45 (q := 4) (v := v12) (lv' := [(4, .int v12), (0, .ref (X.1 0 j)), (1, .ref (X.1 26 0)), (2, .int a2), (3, .int v1)]) hn rfl (by rw [e_v12]; rfl) (by decide) rfl dX6_areThere_45 ?_
                  refine tr_goto hO 48 27 (by decide) dX6_areThere_48 ?_
                  refine tr_sub [1, 2, 3, 4, 0] rfl ?_
                  exact ih _ _ h
                · have h := of_t hc h
                  refine tr_iconst hO 43 (v := 0) (by decide) dX6_areThere_43 ?_
                  cases h
                  exact tr_iret hO 44 hQ (by decide) dX6_areThere_44
          refine tr_sub [1, 2, 3, 4, 0] rfl ?_
          exact L27_T _ _ _ h
        · have h := of_t hc h
          refine tr_iconst hO 22 (v := 0) (by decide) dX6_areThere_22 ?_
          cases h
          exact tr_iret hO 23 hQ (by decide) dX6_areThere_23
  refine tr_sub [1, 2, 3, 0] rfl ?_
  exact L2_T _ _ _ h
set_option maxHeartbeats 4000000 in
set_option maxRecDepth 100000 in
theorem c_X6_addTrain {X : xT} (hX : xOK X) {j : Nat} {a2 : Int32} {a3 : Int32} (hj : j < 11) {μ μ' : mT} {r : Int32} (h : f_X6_addTrain j a2 a3 μ = some (r, μ')) : CMi X yX6_addTrain cX6_addTrain 5 .int 3 70 [.ref (X.1 0 j), .ref (X.1 26 0), .int a2, .int a3] μ r μ' := by
  refine CMi_of hX (by decide +kernel) (lv := [(0, .ref (X.1 0 j)), (1, .ref (X.1 26 0)), (2, .int a2), (3, .int a3)]) (Nat.le_of_ble_eq_true rfl) rfl (fun Γ hO hn hQ => ?_)
  have hO : Ok X RX6 cX6_addTrain 3 70 Γ := hO
  unfold f_X6_addTrain at h
  refine tr_aload_n hO 0 0 rfl dX6_addTrain_0 ?_
  refine tr_aload_n hO 1 1 rfl dX6_addTrain_1 ?_
  refine tr_iload_n hO 2 2 rfl dX6_addTrain_2 ?_
  obtain ⟨v1, μ2, hcall, h⟩ := of_bd h
  refine tr_callI hO 3 (na := 2) (As := [.ref (X.1 26 0), .int a2]) (st := []) (c_X6_areThere hX hj hcall) rfl (x_vy (by decide) hj) rfl rfl wM_X6_158 wI_X6_areThere wS_X6_areThere wN_X6 wC_X6_areThere (by decide +kernel) rfl (by decide) (by decide) (Nat.le_of_ble_eq_true rfl) dX6_addTrain_3 ?_
  refine tr_if_eq hO 6 29 (by decide) dX6_addTrain_6 (fun hc => ?_) (fun hc => ?_)
  · have h := of_t hc h
    refine tr_bipush hO 29 (v := (-2)) (by decide) dX6_addTrain_29 ?_
    cases h
    exact tr_iret hO 31 hQ rfl dX6_addTrain_31
  · have h := of_f hc h
    refine tr_iload_n hO 9 3 rfl dX6_addTrain_9 ?_
    refine tr_aload_n hO 10 0 rfl dX6_addTrain_10 ?_
    refine tr_get hO 11 (k := 0) (x_vy (by decide) hj) rfl rfl iX6 (by decide) wF_X6_53 rfl rfl dX6_addTrain_11 ?_
    refine tr_icmp_lt hO 14 29 (by decide) dX6_addTrain_14 (fun hc => ?_) (fun hc => ?_)
    · have h := of_t hc h
      refine tr_bipush hO 29 (v := (-2)) (by decide) dX6_addTrain_29 ?_
      cases h
      exact tr_iret hO 31 hQ rfl dX6_addTrain_31
    · have h := of_f hc h
      refine tr_iload_n hO 17 3 rfl dX6_addTrain_17 ?_
      refine tr_aload_n hO 18 0 rfl dX6_addTrain_18 ?_
      refine tr_get hO 19 (k := 0) (x_vy (by decide) hj) rfl rfl iX6 (by decide) wF_X6_53 rfl rfl dX6_addTrain_19 ?_
      refine tr_sipush hO 22 (v := 5000) (by decide) dX6_addTrain_22 ?_
      refine tr_iadd hO 25 dX6_addTrain_25 ?_
      refine tr_icmp_le hO 26 32 (by decide) dX6_addTrain_26 (fun hc => ?_) (fun hc => ?_)
      · have h := of_t hc h
        refine tr_aload_n hO 32 0 rfl dX6_addTrain_32 ?_
        refine tr_get hO 33 (k := 13) (x_vy (by decide) hj) rfl rfl iX6 (by decide) wF_X6_49 rfl rfl dX6_addTrain_33 ?_
        refine tr_getN hO 36 (k := 0) (x_vy (by decide) hj) rfl rfl iX3 (by decide) (host := RX7) (by decide +kernel) rfl rfl dX6_addTrain_36 ?_
        refine tr_bipush hO 39 (v := 8) (by decide) dX6_addTrain_39 ?_
        refine tr_icmp_lt hO 41 47 (by decide) dX6_addTrain_41 (fun hc => ?_) (fun hc => ?_)
        · have h := of_t hc h
          refine tr_iconst hO 47 (v := 0) (by decide) dX6_addTrain_47 ?_
          refine tr_istore hO 48 (v := 0) rfl (lv' := [(4, .int 0), (0, .ref (X.1 0 j)), (1, .ref (X.1 26 0)), (2, .int a2), (3, .int a3)]) hn (by decide) rfl dX6_addTrain_48 ?_
          obtain ⟨K5, e_K5, h⟩ := of_lt h
          have K5_T : ∀ (μ6 : mT), K5 μ6 = some (r, μ') → tj X Γ μ6 81 [(0, .ref (X.1 0 j)), (1, .ref (X.1 26 0)), (2, .int a2), (3, .int a3)] [] := by
            intro μ6 h
            rw [e_K5] at h
            refine tr_aload_n hO 81 0 rfl dX6_addTrain_81 ?_
            refine tr_get hO 82 (k := 13) (x_vy (by decide) hj) rfl rfl iX6 (by decide) wF_X6_49 rfl rfl dX6_addTrain_82 ?_
            refine tr_aload_n hO 85 1 rfl dX6_addTrain_85 ?_
            refine tr_iload_n hO 86 2 rfl dX6_addTrain_86 ?_
            refine tr_iload_n hO 87 3 rfl dX6_addTrain_87 ?_
            obtain ⟨v7, μ8, hcall, h⟩ := of_bd h
            refine tr_callI hO 88 (na := 3) (As := [.ref (X.1 26 0), .int a2, .int a3]) (st := []) (c_X3_add hX hj hcall) rfl (x_vy (by decide) hj) rfl rfl wM_X6_168 wI_X3_add wS_X3_add wN_X3 wC_X3_add (by decide +kernel) rfl (by decide) (by decide) (Nat.le_of_ble_eq_true rfl) dX6_addTrain_88 ?_
            cases h
            exact tr_iret hO 91 hQ rfl dX6_addTrain_91
          have L50_T : ∀ (n : Nat) (v3 : Int32) (μ4 : mT), f_X6_addTrain_L50 j a2 a3 K5 n v3 μ4 = some (r, μ') → tj X Γ μ4 50 [(0, .ref (X.1 0 j)), (1, .ref (X.1 26 0)), (2, .int a2), (3, .int a3), (4, .int v3)] [] := by
            intro n
            induction n with
            | zero =>
              intro v3 μ4 h
              rw [f_X6_addTrain_L50] at h
              cases h
            | succ n ih =>
              intro v3 μ4 h
              rw [f_X6_addTrain_L50] at h
              refine tr_iload hO 50 4 rfl dX6_addTrain_50 ?_
              refine tr_iload_n hO 52 2 rfl dX6_addTrain_52 ?_
              refine tr_icmp_ge hO 53 81 (by decide) dX6_addTrain_53 (fun hc => ?_) (fun hc => ?_)
              · have h := of_t hc h
                refine tr_sub [0, 1, 2, 3] rfl ?_
                exact K5_T _ h
              · have h := of_f hc h
                refine tr_aload_n hO 56 0 rfl dX6_addTrain_56 ?_
                refine tr_get hO 57 (k := 13) (x_vy (by decide) hj) rfl rfl iX6 (by decide) wF_X6_49 rfl rfl dX6_addTrain_57 ?_
                refine tr_aload_n hO 60 1 rfl dX6_addTrain_60 ?_
                refine tr_iload hO 61 4 rfl dX6_addTrain_61 ?_
                obtain ⟨hg, h⟩ := of_gd h
                refine tr_iald hO 63 (x_v0 (by decide)) a_26 hg dX6_addTrain_63 ?_
                obtain ⟨v9, μ10, hcall, h⟩ := of_bd h
                refine tr_callI hO 64 (na := 1) (As := [.int (μ4 26 0 v3.toNatClampNeg)]) (st := []) (c_X3_trainOf hX hj hcall) rfl (x_vy (by decide) hj) rfl rfl wM_X6_165 wI_X3_trainOf wS_X3_trainOf wN_X3 wC_X3_trainOf (by decide +kernel) rfl (by decide) (by decide) (Nat.le_of_ble_eq_true rfl) dX6_addTrain_64 ?_
                refine tr_bipush hO 67 (v := (-6)) (by decide) dX6_addTrain_67 ?_
                refine tr_icmp_eq hO 69 75 (by decide) dX6_addTrain_69 (fun hc => ?_) (fun hc => ?_)
                · have h := of_t hc h
                  obtain ⟨v11, e_v11, h⟩ := of_lt h
                  refine tr_iinc hO 75 (q := 4) (v := v11) (lv' := [(4, .int v11), (0, .ref (X.1 0 j)), (1, .ref (X.1 26 0)), (2, .int a2), (3, .int a3)]) hn rfl (by rw [e_v11]; rfl) (by decide) rfl dX6_addTrain_75 ?_
                  refine tr_goto hO 78 50 (by decide) dX6_addTrain_78 ?_
                  refine tr_sub [1, 2, 3, 4, 0] rfl ?_
                  exact ih _ _ h
                · have h := of_f hc h
                  refine tr_bipush hO 72 (v := (-5)) (by decide) dX6_addTrain_72 ?_
                  cases h
                  exact tr_iret hO 74 hQ rfl dX6_addTrain_74
          refine tr_sub [1, 2, 3, 4, 0] rfl ?_
          exact L50_T _ _ _ h
        · have h := of_f hc h
          refine tr_bipush hO 44 (v := (-4)) (by decide) dX6_addTrain_44 ?_
          cases h
          exact tr_iret hO 46 hQ rfl dX6_addTrain_46
      · have h := of_f hc h
        refine tr_bipush hO 29 (v := (-2)) (by decide) dX6_addTrain_29 ?_
        cases h
        exact tr_iret hO 31 hQ rfl dX6_addTrain_31
