set_option maxHeartbeats 4000000 in
set_option maxRecDepth 100000 in
theorem c_X7_pulls {X : xT} (hX : xOK X) {a1 : Int32}  {μ μ' : mT} {r : Int32} (h : f_X7_pulls a1 μ = some (r, μ')) : CMi X yX7_pulls cX7_pulls 2 .int 5 116 [.ref (X.1 18 0), .int a1] μ r μ' := by
  refine CMi_of hX (by decide +kernel) (lv := [(0, .ref (X.1 18 0)), (1, .int a1)]) (Nat.le_of_ble_eq_true rfl) rfl (fun Γ hO hn hQ => ?_)
  have hO : Ok X RX7 cX7_pulls 5 116 Γ := hO
  unfold f_X7_pulls at h
  refine tr_aload_n hO 0 0 rfl dX7_pulls_0 ?_
  refine tr_get hO 1 (k := 0) (x_v0 (by decide)) rfl rfl iX7 (by decide) wF_X7_12 rfl rfl dX7_pulls_1 ?_
  refine tr_getN hO 4 (k := 13) (x_vy (by decide) (by decide)) rfl rfl iX6 (by decide) (host := RX7) (by decide +kernel) rfl rfl dX7_pulls_4 ?_
  refine tr_iload_n hO 7 1 rfl dX7_pulls_7 ?_
  obtain ⟨v1, μ2, hcall, h⟩ := of_bd h
  refine tr_callI hO 8 (na := 1) (As := [.int a1]) (st := []) (c_X3_has hX (by decide) hcall) rfl (x_vy (by decide) (by decide)) rfl rfl wM_X7_147 wI_X3_has wS_X3_has wN_X3 wC_X3_has (by decide +kernel) rfl (by decide) (by decide) (Nat.le_of_ble_eq_true rfl) dX7_pulls_8 ?_
  refine tr_if_eq hO 11 29 (by decide) dX7_pulls_11 (fun hc => ?_) (fun hc => ?_)
  · have h := of_t hc h
    refine tr_iconst hO 29 (v := (-1)) (by decide) dX7_pulls_29 ?_
    cases h
    exact tr_iret hO 30 hQ rfl dX7_pulls_30
  · have h := of_f hc h
    refine tr_aload_n hO 14 0 rfl dX7_pulls_14 ?_
    refine tr_get hO 15 (k := 1) (x_v0 (by decide)) rfl rfl iX7 (by decide) wF_X7_19 rfl rfl dX7_pulls_15 ?_
    refine tr_aload_n hO 18 0 rfl dX7_pulls_18 ?_
    refine tr_get hO 19 (k := 0) (x_v0 (by decide)) rfl rfl iX7 (by decide) wF_X7_12 rfl rfl dX7_pulls_19 ?_
    refine tr_iload_n hO 22 1 rfl dX7_pulls_22 ?_
    obtain ⟨v3, μ4, hcall, h⟩ := of_bd h
    refine tr_callI hO 23 (na := 2) (As := [.ref (X.1 0 0), .int a1]) (st := []) (c_X4_fewestPulls hX (by decide) hcall) rfl (x_v0 (by decide)) rfl rfl wM_X7_152 wI_X4_fewestPulls wS_X4_fewestPulls wN_X4 wC_X4_fewestPulls (by decide +kernel) rfl (by decide) (by decide) (Nat.le_of_ble_eq_true rfl) dX7_pulls_23 ?_
    refine tr_goto hO 26 30 (by decide) dX7_pulls_26 ?_
    cases h
    exact tr_iret hO 30 hQ rfl dX7_pulls_30
set_option maxHeartbeats 4000000 in
set_option maxRecDepth 100000 in
theorem c_X7_wouldLeave {X : xT} (hX : xOK X) {a1 : Int32}  {μ μ' : mT} {r : Int32} (h : f_X7_wouldLeave a1 μ = some (r, μ')) : CMi X yX7_wouldLeave cX7_wouldLeave 2 .int 5 116 [.ref (X.1 18 0), .int a1] μ r μ' := by
  refine CMi_of hX (by decide +kernel) (lv := [(0, .ref (X.1 18 0)), (1, .int a1)]) (Nat.le_of_ble_eq_true rfl) rfl (fun Γ hO hn hQ => ?_)
  have hO : Ok X RX7 cX7_wouldLeave 5 116 Γ := hO
  unfold f_X7_wouldLeave at h
  refine tr_aload_n hO 0 0 rfl dX7_wouldLeave_0 ?_
  refine tr_get hO 1 (k := 0) (x_v0 (by decide)) rfl rfl iX7 (by decide) wF_X7_12 rfl rfl dX7_wouldLeave_1 ?_
  refine tr_getN hO 4 (k := 13) (x_vy (by decide) (by decide)) rfl rfl iX6 (by decide) (host := RX7) (by decide +kernel) rfl rfl dX7_wouldLeave_4 ?_
  refine tr_iload_n hO 7 1 rfl dX7_wouldLeave_7 ?_
  obtain ⟨v1, μ2, hcall, h⟩ := of_bd h
  refine tr_callI hO 8 (na := 1) (As := [.int a1]) (st := []) (c_X3_has hX (by decide) hcall) rfl (x_vy (by decide) (by decide)) rfl rfl wM_X7_147 wI_X3_has wS_X3_has wN_X3 wC_X3_has (by decide +kernel) rfl (by decide) (by decide) (Nat.le_of_ble_eq_true rfl) dX7_wouldLeave_8 ?_
  refine tr_if_ne hO 11 16 (by decide) dX7_wouldLeave_11 (fun hc => ?_) (fun hc => ?_)
  · have h := of_f hc h
    refine tr_aload_n hO 16 0 rfl dX7_wouldLeave_16 ?_
    refine tr_get hO 17 (k := 1) (x_v0 (by decide)) rfl rfl iX7 (by decide) wF_X7_19 rfl rfl dX7_wouldLeave_17 ?_
    refine tr_aload_n hO 20 0 rfl dX7_wouldLeave_20 ?_
    refine tr_get hO 21 (k := 0) (x_v0 (by decide)) rfl rfl iX7 (by decide) wF_X7_12 rfl rfl dX7_wouldLeave_21 ?_
    refine tr_iload_n hO 24 1 rfl dX7_wouldLeave_24 ?_
    obtain ⟨v3, μ4, hcall, h⟩ := of_bd h
    refine tr_callI hO 25 (na := 2) (As := [.ref (X.1 0 0), .int a1]) (st := []) (c_X4_fewestPulls hX (by decide) hcall) rfl (x_v0 (by decide)) rfl rfl wM_X7_152 wI_X4_fewestPulls wS_X4_fewestPulls wN_X4 wC_X4_fewestPulls (by decide +kernel) rfl (by decide) (by decide) (Nat.le_of_ble_eq_true rfl) dX7_wouldLeave_25 ?_
    refine tr_bipush hO 28 (v := (-6)) (by decide) dX7_wouldLeave_28 ?_
    refine tr_icmp_ne hO 30 38 (by decide) dX7_wouldLeave_30 (fun hc => ?_) (fun hc => ?_)
    · have h := of_f hc h
      refine tr_aload_n hO 38 0 rfl dX7_wouldLeave_38 ?_
      refine tr_get hO 39 (k := 1) (x_v0 (by decide)) rfl rfl iX7 (by decide) wF_X7_19 rfl rfl dX7_wouldLeave_39 ?_
      refine tr_getN hO 42 (k := 0) (x_v0 (by decide)) rfl rfl iX4 (by decide) (host := RX7) (by decide +kernel) rfl rfl dX7_wouldLeave_42 ?_
      refine tr_getN hO 45 (k := 0) (x_vy (by decide) (by decide)) rfl rfl iX6 (by decide) (host := RX7) (by decide +kernel) rfl rfl dX7_wouldLeave_45 ?_
      cases h
      exact tr_iret hO 48 hQ rfl dX7_wouldLeave_48
    · have h := of_t hc h
      refine tr_bipush hO 33 (v := (-6)) (by decide) dX7_wouldLeave_33 ?_
      refine tr_goto hO 35 48 (by decide) dX7_wouldLeave_35 ?_
      cases h
      exact tr_iret hO 48 hQ rfl dX7_wouldLeave_48
  · have h := of_t hc h
    refine tr_iconst hO 14 (v := (-1)) (by decide) dX7_wouldLeave_14 ?_
    cases h
    exact tr_iret hO 15 hQ rfl dX7_wouldLeave_15
set_option maxHeartbeats 4000000 in
set_option maxRecDepth 100000 in
theorem c_X7_moves {X : xT} (hX : xOK X) {a1 : Int32}  {μ μ' : mT} {r : Int32} (h : f_X7_moves a1 μ = some (r, μ')) : CMi X yX7_moves cX7_moves 2 .int 6 143 [.ref (X.1 18 0), .int a1] μ r μ' := by
  refine CMi_of hX (by decide +kernel) (lv := [(0, .ref (X.1 18 0)), (1, .int a1)]) (Nat.le_of_ble_eq_true rfl) rfl (fun Γ hO hn hQ => ?_)
  have hO : Ok X RX7 cX7_moves 6 143 Γ := hO
  unfold f_X7_moves at h
  refine tr_aload_n hO 0 0 rfl dX7_moves_0 ?_
  refine tr_get hO 1 (k := 0) (x_v0 (by decide)) rfl rfl iX7 (by decide) wF_X7_12 rfl rfl dX7_moves_1 ?_
  refine tr_getN hO 4 (k := 13) (x_vy (by decide) (by decide)) rfl rfl iX6 (by decide) (host := RX7) (by decide +kernel) rfl rfl dX7_moves_4 ?_
  refine tr_iload_n hO 7 1 rfl dX7_moves_7 ?_
  obtain ⟨v1, μ2, hcall, h⟩ := of_bd h
  refine tr_callI hO 8 (na := 1) (As := [.int a1]) (st := []) (c_X3_has hX (by decide) hcall) rfl (x_vy (by decide) (by decide)) rfl rfl wM_X7_147 wI_X3_has wS_X3_has wN_X3 wC_X3_has (by decide +kernel) rfl (by decide) (by decide) (Nat.le_of_ble_eq_true rfl) dX7_moves_8 ?_
  refine tr_if_eq hO 11 29 (by decide) dX7_moves_11 (fun hc => ?_) (fun hc => ?_)
  · have h := of_t hc h
    refine tr_iconst hO 29 (v := (-1)) (by decide) dX7_moves_29 ?_
    cases h
    exact tr_iret hO 30 hQ rfl dX7_moves_30
  · have h := of_f hc h
    refine tr_aload_n hO 14 0 rfl dX7_moves_14 ?_
    refine tr_get hO 15 (k := 1) (x_v0 (by decide)) rfl rfl iX7 (by decide) wF_X7_19 rfl rfl dX7_moves_15 ?_
    refine tr_aload_n hO 18 0 rfl dX7_moves_18 ?_
    refine tr_get hO 19 (k := 0) (x_v0 (by decide)) rfl rfl iX7 (by decide) wF_X7_12 rfl rfl dX7_moves_19 ?_
    refine tr_iload_n hO 22 1 rfl dX7_moves_22 ?_
    obtain ⟨v3, μ4, hcall, h⟩ := of_bd h
    refine tr_callI hO 23 (na := 2) (As := [.ref (X.1 0 0), .int a1]) (st := []) (c_X4_fewestMoves hX (by decide) hcall) rfl (x_v0 (by decide)) rfl rfl wM_X7_159 wI_X4_fewestMoves wS_X4_fewestMoves wN_X4 wC_X4_fewestMoves (by decide +kernel) rfl (by decide) (by decide) (Nat.le_of_ble_eq_true rfl) dX7_moves_23 ?_
    refine tr_goto hO 26 30 (by decide) dX7_moves_26 ?_
    cases h
    exact tr_iret hO 30 hQ rfl dX7_moves_30
set_option maxHeartbeats 4000000 in
set_option maxRecDepth 100000 in
theorem c_X7_roomFor {X : xT} (hX : xOK X)   {μ μ' : mT} {r : Int32} (h : f_X7_roomFor μ = some (r, μ')) : CMi X yX7_roomFor cX7_roomFor 1 .int 3 70 [.ref (X.1 18 0)] μ r μ' := by
  refine CMi_of hX (by decide +kernel) (lv := [(0, .ref (X.1 18 0))]) (Nat.le_of_ble_eq_true rfl) rfl (fun Γ hO hn hQ => ?_)
  have hO : Ok X RX7 cX7_roomFor 3 70 Γ := hO
  unfold f_X7_roomFor at h
  refine tr_aload_n hO 0 0 rfl dX7_roomFor_0 ?_
  refine tr_get hO 1 (k := 0) (x_v0 (by decide)) rfl rfl iX7 (by decide) wF_X7_12 rfl rfl dX7_roomFor_1 ?_
  refine tr_aload_n hO 4 0 rfl dX7_roomFor_4 ?_
  refine tr_get hO 5 (k := 0) (x_v0 (by decide)) rfl rfl iX7 (by decide) wF_X7_12 rfl rfl dX7_roomFor_5 ?_
  refine tr_getN hO 8 (k := 11) (x_vy (by decide) (by decide)) rfl rfl iX6 (by decide) (host := RX7) (by decide +kernel) rfl rfl dX7_roomFor_8 ?_
  refine tr_bipush hO 11 (v := 8) (by decide) dX7_roomFor_11 ?_
  obtain ⟨v1, μ2, hcall, h⟩ := of_bd h
  refine tr_callI hO 13 (na := 1) (As := [.int 8]) (st := [.ref (X.1 0 0)]) (c_X5_manyIn hX (by decide) hcall) rfl (x_vy (by decide) (by decide)) rfl rfl wM_X7_162 wI_X5_manyIn wS_X5_manyIn wN_X5 wC_X5_manyIn (by decide +kernel) rfl (by decide) (by decide) (Nat.le_of_ble_eq_true rfl) dX7_roomFor_13 ?_
  obtain ⟨v3, μ4, hcall, h⟩ := of_bd h
  refine tr_callI hO 16 (na := 1) (As := [.int v1]) (st := []) (c_X6_tracksFor hX (by decide) hcall) rfl (x_vy (by decide) (by decide)) rfl rfl wM_X7_165 wI_X6_tracksFor wS_X6_tracksFor wN_X6 wC_X6_tracksFor (by decide +kernel) rfl (by decide) (by decide) (Nat.le_of_ble_eq_true rfl) dX7_roomFor_16 ?_
  cases h
  exact tr_iret hO 19 hQ rfl dX7_roomFor_19
set_option maxHeartbeats 4000000 in
set_option maxRecDepth 100000 in
theorem c_X7_buried {X : xT} (hX : xOK X)   {μ μ' : mT} {r : Int32} (h : f_X7_buried μ = some (r, μ')) : CMi X yX7_buried cX7_buried 1 .int 3 71 [.ref (X.1 18 0)] μ r μ' := by
  refine CMi_of hX (by decide +kernel) (lv := [(0, .ref (X.1 18 0))]) (Nat.le_of_ble_eq_true rfl) rfl (fun Γ hO hn hQ => ?_)
  have hO : Ok X RX7 cX7_buried 3 71 Γ := hO
  unfold f_X7_buried at h
  refine tr_aload_n hO 0 0 rfl dX7_buried_0 ?_
  refine tr_get hO 1 (k := 0) (x_v0 (by decide)) rfl rfl iX7 (by decide) wF_X7_12 rfl rfl dX7_buried_1 ?_
  obtain ⟨v1, μ2, hcall, h⟩ := of_bd h
  refine tr_callI hO 4 (na := 0) (As := []) (st := []) (c_X6_manyBuried hX (by decide) hcall) rfl (x_vy (by decide) (by decide)) rfl rfl wM_X7_168 wI_X6_manyBuried wS_X6_manyBuried wN_X6 wC_X6_manyBuried (by decide +kernel) rfl (by decide) (by decide) (Nat.le_of_ble_eq_true rfl) dX7_buried_4 ?_
  cases h
  exact tr_iret hO 7 hQ rfl dX7_buried_7
set_option maxHeartbeats 4000000 in
set_option maxRecDepth 100000 in
theorem c_X7_put {X : xT} (hX : xOK X) {a1 : Int64}  {μ μ' : mT} {r : Int32} (h : f_X7_put a1 μ = some (r, μ')) : CMi X yX7_put cX7_put 3 .int 2 51 [.ref (X.1 18 0), .long a1] μ r μ' := by
  refine CMi_of hX (by decide +kernel) (lv := [(0, .ref (X.1 18 0)), (1, .long a1)]) (Nat.le_of_ble_eq_true rfl) rfl (fun Γ hO hn hQ => ?_)
  have hO : Ok X RX7 cX7_put 2 51 Γ := hO
  unfold f_X7_put at h
  refine tr_aload_n hO 0 0 rfl dX7_put_0 ?_
  refine tr_get hO 1 (k := 5) (x_v0 (by decide)) rfl rfl iX7 (by decide) wF_X7_41 rfl rfl dX7_put_1 ?_
  refine tr_lload_n hO 4 1 rfl dX7_put_4 ?_
  obtain ⟨v1, μ2, hcall, h⟩ := of_bd h
  refine tr_callI hO 5 (na := 1) (As := [.long a1]) (st := []) (c_X2_append hX  hcall) rfl (x_v0 (by decide)) rfl rfl wM_X7_171 wI_X2_append wS_X2_append wN_X2 wC_X2_append (by decide +kernel) rfl (by decide) (by decide) (Nat.le_of_ble_eq_true rfl) dX7_put_5 ?_
  cases h
  exact tr_iret hO 8 hQ rfl dX7_put_8
set_option maxHeartbeats 4000000 in
set_option maxRecDepth 100000 in
theorem c_X7_wipe {X : xT} (hX : xOK X)   {μ μ' : mT} {r : Int32} (h : f_X7_wipe μ = some (r, μ')) : CMi X yX7_wipe cX7_wipe 1 .int 1 21 [.ref (X.1 18 0)] μ r μ' := by
  refine CMi_of hX (by decide +kernel) (lv := [(0, .ref (X.1 18 0))]) (Nat.le_of_ble_eq_true rfl) rfl (fun Γ hO hn hQ => ?_)
  have hO : Ok X RX7 cX7_wipe 1 21 Γ := hO
  unfold f_X7_wipe at h
  refine tr_aload_n hO 0 0 rfl dX7_wipe_0 ?_
  refine tr_get hO 1 (k := 5) (x_v0 (by decide)) rfl rfl iX7 (by decide) wF_X7_41 rfl rfl dX7_wipe_1 ?_
  obtain ⟨v1, μ2, hcall, h⟩ := of_bd h
  refine tr_callI hO 4 (na := 0) (As := []) (st := []) (c_X2_clear hX  hcall) rfl (x_v0 (by decide)) rfl rfl wM_X7_174 wI_X2_clear wS_X2_clear wN_X2 wC_X2_clear (by decide +kernel) rfl (by decide) (by decide) (Nat.le_of_ble_eq_true rfl) dX7_wipe_4 ?_
  cases h
  exact tr_iret hO 7 hQ rfl dX7_wipe_7
set_option maxHeartbeats 4000000 in
set_option maxRecDepth 100000 in
theorem c_X7_fault {X : xT} (hX : xOK X)   {μ μ' : mT} {r : Int32} (h : f_X7_fault μ = some (r, μ')) : CMi X yX7_fault cX7_fault 1 .int 3 63 [.ref (X.1 18 0)] μ r μ' := by
  refine CMi_of hX (by decide +kernel) (lv := [(0, .ref (X.1 18 0))]) (Nat.le_of_ble_eq_true rfl) rfl (fun Γ hO hn hQ => ?_)
  have hO : Ok X RX7 cX7_fault 3 63 Γ := hO
  unfold f_X7_fault at h
  refine tr_aload_n hO 0 0 rfl dX7_fault_0 ?_
  refine tr_get hO 1 (k := 5) (x_v0 (by decide)) rfl rfl iX7 (by decide) wF_X7_41 rfl rfl dX7_fault_1 ?_
  obtain ⟨v1, μ2, hcall, h⟩ := of_bd h
  refine tr_callI hO 4 (na := 0) (As := []) (st := []) (c_X2_firstFault hX  hcall) rfl (x_v0 (by decide)) rfl rfl wM_X7_177 wI_X2_firstFault wS_X2_firstFault wN_X2 wC_X2_firstFault (by decide +kernel) rfl (by decide) (by decide) (Nat.le_of_ble_eq_true rfl) dX7_fault_4 ?_
  cases h
  exact tr_iret hO 7 hQ rfl dX7_fault_7
set_option maxHeartbeats 4000000 in
set_option maxRecDepth 100000 in
theorem c_X7_carryOne {X : xT} (hX : xOK X) {a1 : Int32} {a2 : Int32}  {μ μ' : mT} {r : Int32} (h : f_X7_carryOne a1 a2 μ = some (r, μ')) : CMi X yX7_carryOne cX7_carryOne 4 .int 5 112 [.ref (X.1 18 0), .int a1, .int a2] μ r μ' := by
  refine CMi_of hX (by decide +kernel) (lv := [(0, .ref (X.1 18 0)), (1, .int a1), (2, .int a2)]) (Nat.le_of_ble_eq_true rfl) rfl (fun Γ hO hn hQ => ?_)
  have hO : Ok X RX7 cX7_carryOne 5 112 Γ := hO
  unfold f_X7_carryOne at h
  refine tr_aload_n hO 0 0 rfl dX7_carryOne_0 ?_
  refine tr_get hO 1 (k := 5) (x_v0 (by decide)) rfl rfl iX7 (by decide) wF_X7_41 rfl rfl dX7_carryOne_1 ?_
  refine tr_iload_n hO 4 1 rfl dX7_carryOne_4 ?_
  refine tr_iconst hO 5 (v := 1) (by decide) dX7_carryOne_5 ?_
  refine tr_iadd hO 6 dX7_carryOne_6 ?_
  obtain ⟨v1, μ2, hcall, h⟩ := of_bd h
  refine tr_callI hO 7 (na := 1) (As := [.int (a1 + 1)]) (st := []) (c_X2_codeAt hX  hcall) rfl (x_v0 (by decide)) rfl rfl wM_X7_186 wI_X2_codeAt wS_X2_codeAt wN_X2 wC_X2_codeAt (by decide +kernel) rfl (by decide) (by decide) (Nat.le_of_ble_eq_true rfl) dX7_carryOne_7 ?_
  refine tr_bipush hO 10 (v := 65) (by decide) dX7_carryOne_10 ?_
  refine tr_isub hO 12 dX7_carryOne_12 ?_
  obtain ⟨v3, e_v3, h⟩ := of_lt h
  refine tr_istore_n hO 13 (v := v3) e_v3 (lv' := [(3, .int v3), (0, .ref (X.1 18 0)), (1, .int a1), (2, .int a2)]) hn rfl (by decide) rfl dX7_carryOne_13 ?_
  refine tr_aload_n hO 14 1 rfl dX7_carryOne_14 ?_
  refine tr_get hO 15 (k := 5) (x_v0 (by decide)) rfl rfl iX7 (by decide) wF_X7_41 rfl rfl dX7_carryOne_15 ?_
  refine tr_iload_n hO 18 2 rfl dX7_carryOne_18 ?_
  obtain ⟨v4, μ5, hcall, h⟩ := of_bd h
  refine tr_callI hO 19 (na := 1) (As := [.int a1]) (st := []) (c_X2_codeAt hX  hcall) rfl (x_v0 (by decide)) rfl rfl wM_X7_186 wI_X2_codeAt wS_X2_codeAt wN_X2 wC_X2_codeAt (by decide +kernel) rfl (by decide) (by decide) (Nat.le_of_ble_eq_true rfl) dX7_carryOne_19 ?_
  by_cases hs112 : v4 = 112
  · have h := of_t hs112 h
    refine tr_tabIn hO 22 68 (by rw [hs112]; decide) (by rw [hs112]; decide) (by rw [hs112]; rfl) (by decide) dX7_carryOne_22 ?_
    refine tr_aload_n hO 68 1 rfl dX7_carryOne_68 ?_
    refine tr_get hO 69 (k := 0) (x_v0 (by decide)) rfl rfl iX7 (by decide) wF_X7_12 rfl rfl dX7_carryOne_69 ?_
    refine tr_iload_n hO 72 0 rfl dX7_carryOne_72 ?_
    refine tr_aload_n hO 73 1 rfl dX7_carryOne_73 ?_
    refine tr_get hO 74 (k := 5) (x_v0 (by decide)) rfl rfl iX7 (by decide) wF_X7_41 rfl rfl dX7_carryOne_74 ?_
    refine tr_iload_n hO 77 2 rfl dX7_carryOne_77 ?_
    refine tr_iconst hO 78 (v := 2) (by decide) dX7_carryOne_78 ?_
    refine tr_iadd hO 79 dX7_carryOne_79 ?_
    refine tr_iload_n hO 80 3 rfl dX7_carryOne_80 ?_
    obtain ⟨v6, μ7, hcall, h⟩ := of_bd h
    refine tr_callI hO 81 (na := 2) (As := [.int (a1 + 2), .int a2]) (st := [.int v3, .ref (X.1 0 0)]) (c_X2_number hX  hcall) rfl (x_v0 (by decide)) rfl rfl wM_X7_189 wI_X2_number wS_X2_number wN_X2 wC_X2_number (by decide +kernel) rfl (by decide) (by decide) (Nat.le_of_ble_eq_true rfl) dX7_carryOne_81 ?_
    obtain ⟨v8, μ9, hcall, h⟩ := of_bd h
    refine tr_callI hO 84 (na := 2) (As := [.int v3, .int v6]) (st := []) (c_X6_takeOut hX (by decide) hcall) rfl (x_vy (by decide) (by decide)) rfl rfl wM_X7_70 wI_X6_takeOut wS_X6_takeOut wN_X6 wC_X6_takeOut (by decide +kernel) rfl (by decide) (by decide) (Nat.le_of_ble_eq_true rfl) dX7_carryOne_84 ?_
    cases h
    exact tr_iret hO 87 hQ rfl dX7_carryOne_87
  have h := of_f hs112 h
  by_cases hs113 : v4 = 113
  · have h := of_t hs113 h
    refine tr_tabIn hO 22 88 (by rw [hs113]; decide) (by rw [hs113]; decide) (by rw [hs113]; rfl) (by decide) dX7_carryOne_22 ?_
    refine tr_aload_n hO 88 1 rfl dX7_carryOne_88 ?_
    refine tr_get hO 89 (k := 0) (x_v0 (by decide)) rfl rfl iX7 (by decide) wF_X7_12 rfl rfl dX7_carryOne_89 ?_
    refine tr_iload_n hO 92 0 rfl dX7_carryOne_92 ?_
    refine tr_aload_n hO 93 1 rfl dX7_carryOne_93 ?_
    refine tr_get hO 94 (k := 5) (x_v0 (by decide)) rfl rfl iX7 (by decide) wF_X7_41 rfl rfl dX7_carryOne_94 ?_
    refine tr_iload_n hO 97 2 rfl dX7_carryOne_97 ?_
    refine tr_iconst hO 98 (v := 2) (by decide) dX7_carryOne_98 ?_
    refine tr_iadd hO 99 dX7_carryOne_99 ?_
    refine tr_iload_n hO 100 3 rfl dX7_carryOne_100 ?_
    obtain ⟨v10, μ11, hcall, h⟩ := of_bd h
    refine tr_callI hO 101 (na := 2) (As := [.int (a1 + 2), .int a2]) (st := [.int v3, .ref (X.1 0 0)]) (c_X2_number hX  hcall) rfl (x_v0 (by decide)) rfl rfl wM_X7_189 wI_X2_number wS_X2_number wN_X2 wC_X2_number (by decide +kernel) rfl (by decide) (by decide) (Nat.le_of_ble_eq_true rfl) dX7_carryOne_101 ?_
    obtain ⟨v12, μ13, hcall, h⟩ := of_bd h
    refine tr_callI hO 104 (na := 2) (As := [.int v3, .int v10]) (st := []) (c_X6_bringIn hX (by decide) hcall) rfl (x_vy (by decide) (by decide)) rfl rfl wM_X7_73 wI_X6_bringIn wS_X6_bringIn wN_X6 wC_X6_bringIn (by decide +kernel) rfl (by decide) (by decide) (Nat.le_of_ble_eq_true rfl) dX7_carryOne_104 ?_
    cases h
    exact tr_iret hO 107 hQ rfl dX7_carryOne_107
  have h := of_f hs113 h
  by_cases hs114 : v4 = 114
  · have h := of_t hs114 h
    refine tr_tabIn hO 22 108 (by rw [hs114]; decide) (by rw [hs114]; decide) (by rw [hs114]; rfl) (by decide) dX7_carryOne_22 ?_
    refine tr_aload_n hO 108 1 rfl dX7_carryOne_108 ?_
    refine tr_get hO 109 (k := 0) (x_v0 (by decide)) rfl rfl iX7 (by decide) wF_X7_12 rfl rfl dX7_carryOne_109 ?_
    obtain ⟨v14, μ15, hcall, h⟩ := of_bd h
    refine tr_callI hO 112 (na := 0) (As := []) (st := []) (c_X6_goRound hX (by decide) hcall) rfl (x_vy (by decide) (by decide)) rfl rfl wM_X7_76 wI_X6_goRound wS_X6_goRound wN_X6 wC_X6_goRound (by decide +kernel) rfl (by decide) (by decide) (Nat.le_of_ble_eq_true rfl) dX7_carryOne_112 ?_
    cases h
    exact tr_iret hO 115 hQ rfl dX7_carryOne_115
  have h := of_f hs114 h
  by_cases hs119 : v4 = 119
  · have h := of_t hs119 h
    refine tr_tabIn hO 22 116 (by rw [hs119]; decide) (by rw [hs119]; decide) (by rw [hs119]; rfl) (by decide) dX7_carryOne_22 ?_
    refine tr_aload_n hO 116 1 rfl dX7_carryOne_116 ?_
    refine tr_get hO 117 (k := 0) (x_v0 (by decide)) rfl rfl iX7 (by decide) wF_X7_12 rfl rfl dX7_carryOne_117 ?_
    refine tr_aload_n hO 120 1 rfl dX7_carryOne_120 ?_
    refine tr_get hO 121 (k := 5) (x_v0 (by decide)) rfl rfl iX7 (by decide) wF_X7_41 rfl rfl dX7_carryOne_121 ?_
    refine tr_iload_n hO 124 2 rfl dX7_carryOne_124 ?_
    refine tr_iconst hO 125 (v := 1) (by decide) dX7_carryOne_125 ?_
    refine tr_iadd hO 126 dX7_carryOne_126 ?_
    refine tr_iload_n hO 127 3 rfl dX7_carryOne_127 ?_
    obtain ⟨v16, μ17, hcall, h⟩ := of_bd h
    refine tr_callI hO 128 (na := 2) (As := [.int (a1 + 1), .int a2]) (st := [.ref (X.1 0 0)]) (c_X2_number hX  hcall) rfl (x_v0 (by decide)) rfl rfl wM_X7_189 wI_X2_number wS_X2_number wN_X2 wC_X2_number (by decide +kernel) rfl (by decide) (by decide) (Nat.le_of_ble_eq_true rfl) dX7_carryOne_128 ?_
    obtain ⟨v18, μ19, hcall, h⟩ := of_bd h
    refine tr_callI hO 131 (na := 1) (As := [.int v16]) (st := []) (c_X6_letPass hX (by decide) hcall) rfl (x_vy (by decide) (by decide)) rfl rfl wM_X7_80 wI_X6_letPass wS_X6_letPass wN_X6 wC_X6_letPass (by decide +kernel) rfl (by decide) (by decide) (Nat.le_of_ble_eq_true rfl) dX7_carryOne_131 ?_
    cases h
    exact tr_iret hO 134 hQ rfl dX7_carryOne_134
  have h := of_f hs119 h
  have hn_hs112 : ¬ v4.toInt = 112 := i_ne (by decide) hs112
  have hn_hs113 : ¬ v4.toInt = 113 := i_ne (by decide) hs113
  have hn_hs114 : ¬ v4.toInt = 114 := i_ne (by decide) hs114
  have hn_hs119 : ¬ v4.toInt = 119 := i_ne (by decide) hs119
  have hsw : v4.toInt < 112 ∨ (119 : Int) < v4.toInt ∨ v4.toInt = 115 ∨ v4.toInt = 116 ∨ v4.toInt = 117 ∨ v4.toInt = 118 := by omega
  refine tr_tabD hO 22 135 (by
    rcases hsw with hsw | hsw | hsw | hsw | hsw | hsw
    · exact Or.inl hsw
    · exact Or.inr (Or.inl hsw)
    · exact Or.inr (Or.inr (by rw [hsw]; exact ⟨by decide, by decide, rfl⟩))
    · exact Or.inr (Or.inr (by rw [hsw]; exact ⟨by decide, by decide, rfl⟩))
    · exact Or.inr (Or.inr (by rw [hsw]; exact ⟨by decide, by decide, rfl⟩))
    · exact Or.inr (Or.inr (by rw [hsw]; exact ⟨by decide, by decide, rfl⟩))
    ) (by decide) dX7_carryOne_22 ?_
  refine tr_aload_n hO 135 1 rfl dX7_carryOne_135 ?_
  refine tr_get hO 136 (k := 0) (x_v0 (by decide)) rfl rfl iX7 (by decide) wF_X7_12 rfl rfl dX7_carryOne_136 ?_
  refine tr_aload_n hO 139 1 rfl dX7_carryOne_139 ?_
  refine tr_get hO 140 (k := 5) (x_v0 (by decide)) rfl rfl iX7 (by decide) wF_X7_41 rfl rfl dX7_carryOne_140 ?_
  refine tr_iload_n hO 143 2 rfl dX7_carryOne_143 ?_
  refine tr_iconst hO 144 (v := 1) (by decide) dX7_carryOne_144 ?_
  refine tr_iadd hO 145 dX7_carryOne_145 ?_
  refine tr_iload_n hO 146 3 rfl dX7_carryOne_146 ?_
  obtain ⟨v20, μ21, hcall, h⟩ := of_bd h
  refine tr_callI hO 147 (na := 2) (As := [.int (a1 + 1), .int a2]) (st := [.ref (X.1 0 0)]) (c_X2_number hX  hcall) rfl (x_v0 (by decide)) rfl rfl wM_X7_189 wI_X2_number wS_X2_number wN_X2 wC_X2_number (by decide +kernel) rfl (by decide) (by decide) (Nat.le_of_ble_eq_true rfl) dX7_carryOne_147 ?_
  obtain ⟨v22, μ23, hcall, h⟩ := of_bd h
  refine tr_callI hO 150 (na := 1) (As := [.int v20]) (st := []) (c_X6_letLeave hX (by decide) hcall) rfl (x_vy (by decide) (by decide)) rfl rfl wM_X7_96 wI_X6_letLeave wS_X6_letLeave wN_X6 wC_X6_letLeave (by decide +kernel) rfl (by decide) (by decide) (Nat.le_of_ble_eq_true rfl) dX7_carryOne_150 ?_
  cases h
  exact tr_iret hO 153 hQ rfl dX7_carryOne_153
set_option maxHeartbeats 4000000 in
set_option maxRecDepth 100000 in
theorem c_X7_carryOut {X : xT} (hX : xOK X)   {μ μ' : mT} {r : Int32} (h : f_X7_carryOut μ = some (r, μ')) : CMi X yX7_carryOut cX7_carryOut 4 .int 6 135 [.ref (X.1 18 0)] μ r μ' := by
  refine CMi_of hX (by decide +kernel) (lv := [(0, .ref (X.1 18 0))]) (Nat.le_of_ble_eq_true rfl) rfl (fun Γ hO hn hQ => ?_)
  have hO : Ok X RX7 cX7_carryOut 6 135 Γ := hO
  unfold f_X7_carryOut at h
  refine tr_aload_n hO 0 0 rfl dX7_carryOut_0 ?_
  refine tr_get hO 1 (k := 5) (x_v0 (by decide)) rfl rfl iX7 (by decide) wF_X7_41 rfl rfl dX7_carryOut_1 ?_
  obtain ⟨v1, μ2, hcall, h⟩ := of_bd h
  refine tr_callI hO 4 (na := 0) (As := []) (st := []) (c_X2_firstFault hX  hcall) rfl (x_v0 (by decide)) rfl rfl wM_X7_177 wI_X2_firstFault wS_X2_firstFault wN_X2 wC_X2_firstFault (by decide +kernel) rfl (by decide) (by decide) (Nat.le_of_ble_eq_true rfl) dX7_carryOut_4 ?_
  refine tr_bipush hO 7 (v := (-6)) (by decide) dX7_carryOut_7 ?_
  refine tr_icmp_eq hO 9 15 (by decide) dX7_carryOut_9 (fun hc => ?_) (fun hc => ?_)
  · have h := of_t hc h
    refine tr_aload_n hO 15 0 rfl dX7_carryOut_15 ?_
    refine tr_get hO 16 (k := 2) (x_v0 (by decide)) rfl rfl iX7 (by decide) wF_X7_26 rfl rfl dX7_carryOut_16 ?_
    refine tr_aload_n hO 19 0 rfl dX7_carryOut_19 ?_
    refine tr_get hO 20 (k := 0) (x_v0 (by decide)) rfl rfl iX7 (by decide) wF_X7_12 rfl rfl dX7_carryOut_20 ?_
    obtain ⟨v3, μ4, hcall, h⟩ := of_bd h
    refine tr_callV hO 23 (na := 1) (As := [.ref (X.1 0 0)]) (st := []) (c_X1_note hX (by decide) hcall) rfl (x_v0 (by decide)) rfl rfl wM_X7_49 wI_X1_note wS_X1_note wN_X1 wC_X1_note (by decide +kernel) rfl (by decide) (by decide) (Nat.le_of_ble_eq_true rfl) dX7_carryOut_23 ?_
    refine tr_iconst hO 26 (v := 0) (by decide) dX7_carryOut_26 ?_
    refine tr_istore_n hO 27 (v := 0) rfl (lv' := [(1, .int 0), (0, .ref (X.1 18 0))]) hn rfl (by decide) rfl dX7_carryOut_27 ?_
    refine tr_iconst hO 28 (v := 0) (by decide) dX7_carryOut_28 ?_
    refine tr_istore_n hO 29 (v := 0) rfl (lv' := [(2, .int 0), (1, .int 0), (0, .ref (X.1 18 0))]) hn rfl (by decide) rfl dX7_carryOut_29 ?_
    refine tr_iconst hO 30 (v := 0) (by decide) dX7_carryOut_30 ?_
    refine tr_istore_n hO 31 (v := 0) rfl (lv' := [(3, .int 0), (2, .int 0), (1, .int 0), (0, .ref (X.1 18 0))]) hn rfl (by decide) rfl dX7_carryOut_31 ?_
    obtain ⟨K9, e_K9, h⟩ := of_lt h
    have K9_T : ∀ (v10 : Int32) (μ11 : mT), K9 v10 μ11 = some (r, μ') → tj X Γ μ11 63 [(0, .ref (X.1 18 0)), (1, .int v10)] [] := by
      intro v10 μ11 h
      rw [e_K9] at h
      refine tr_goto hO 63 79 (by decide) dX7_carryOut_63 ?_
      refine tr_aload_n hO 79 0 rfl dX7_carryOut_79 ?_
      refine tr_get hO 80 (k := 5) (x_v0 (by decide)) rfl rfl iX7 (by decide) wF_X7_41 rfl rfl dX7_carryOut_80 ?_
      obtain ⟨v12, μ13, hcall, h⟩ := of_bd h
      refine tr_callI hO 83 (na := 0) (As := []) (st := []) (c_X2_clear hX  hcall) rfl (x_v0 (by decide)) rfl rfl wM_X7_174 wI_X2_clear wS_X2_clear wN_X2 wC_X2_clear (by decide +kernel) rfl (by decide) (by decide) (Nat.le_of_ble_eq_true rfl) dX7_carryOut_83 ?_
      refine tr_pop hO 86 rfl dX7_carryOut_86 ?_
      refine tr_aload_n hO 87 0 rfl dX7_carryOut_87 ?_
      refine tr_get hO 88 (k := 2) (x_v0 (by decide)) rfl rfl iX7 (by decide) wF_X7_26 rfl rfl dX7_carryOut_88 ?_
      refine tr_iload_n hO 91 1 rfl dX7_carryOut_91 ?_
      obtain ⟨v14, μ15, hcall, h⟩ := of_bd h
      refine tr_callI hO 92 (na := 1) (As := [.int v10]) (st := []) (c_X1_kept hX  hcall) rfl (x_v0 (by decide)) rfl rfl wM_X7_57 wI_X1_kept wS_X1_kept wN_X1 wC_X1_kept (by decide +kernel) rfl (by decide) (by decide) (Nat.le_of_ble_eq_true rfl) dX7_carryOut_92 ?_
      cases h
      exact tr_iret hO 95 hQ rfl dX7_carryOut_95
    obtain ⟨K16, e_K16, h⟩ := of_lt h
    have K16_T : ∀ (v17 : Int32) (μ18 : mT), K16 v17 μ18 = some (r, μ') → tj X Γ μ18 79 [(0, .ref (X.1 18 0)), (1, .int v17)] [] := by
      intro v17 μ18 h
      rw [e_K16] at h
      refine tr_aload_n hO 79 0 rfl dX7_carryOut_79 ?_
      refine tr_get hO 80 (k := 5) (x_v0 (by decide)) rfl rfl iX7 (by decide) wF_X7_41 rfl rfl dX7_carryOut_80 ?_
      obtain ⟨v19, μ20, hcall, h⟩ := of_bd h
      refine tr_callI hO 83 (na := 0) (As := []) (st := []) (c_X2_clear hX  hcall) rfl (x_v0 (by decide)) rfl rfl wM_X7_174 wI_X2_clear wS_X2_clear wN_X2 wC_X2_clear (by decide +kernel) rfl (by decide) (by decide) (Nat.le_of_ble_eq_true rfl) dX7_carryOut_83 ?_
      refine tr_pop hO 86 rfl dX7_carryOut_86 ?_
      refine tr_aload_n hO 87 0 rfl dX7_carryOut_87 ?_
      refine tr_get hO 88 (k := 2) (x_v0 (by decide)) rfl rfl iX7 (by decide) wF_X7_26 rfl rfl dX7_carryOut_88 ?_
      refine tr_iload_n hO 91 1 rfl dX7_carryOut_91 ?_
      obtain ⟨v21, μ22, hcall, h⟩ := of_bd h
      refine tr_callI hO 92 (na := 1) (As := [.int v17]) (st := []) (c_X1_kept hX  hcall) rfl (x_v0 (by decide)) rfl rfl wM_X7_57 wI_X1_kept wS_X1_kept wN_X1 wC_X1_kept (by decide +kernel) rfl (by decide) (by decide) (Nat.le_of_ble_eq_true rfl) dX7_carryOut_92 ?_
      cases h
      exact tr_iret hO 95 hQ rfl dX7_carryOut_95
    have L32_T : ∀ (n : Nat) (v5 : Int32) (v6 : Int32) (v7 : Int32) (μ8 : mT), f_X7_carryOut_L32 K9 K16 n v5 v6 v7 μ8 = some (r, μ') → tj X Γ μ8 32 [(0, .ref (X.1 18 0)), (1, .int v5), (2, .int v6), (3, .int v7)] [] := by
      intro n
      induction n with
      | zero =>
        intro v5 v6 v7 μ8 h
        rw [f_X7_carryOut_L32] at h
        cases h
      | succ n ih =>
        intro v5 v6 v7 μ8 h
        rw [f_X7_carryOut_L32] at h
        refine tr_iload_n hO 32 3 rfl dX7_carryOut_32 ?_
        refine tr_aload_n hO 33 0 rfl dX7_carryOut_33 ?_
        refine tr_get hO 34 (k := 5) (x_v0 (by decide)) rfl rfl iX7 (by decide) wF_X7_41 rfl rfl dX7_carryOut_34 ?_
        refine tr_getN hO 37 (k := 0) (x_v0 (by decide)) rfl rfl iX2 (by decide) (host := RX7) (by decide +kernel) rfl rfl dX7_carryOut_37 ?_
        refine tr_icmp_gt hO 40 79 (by decide) dX7_carryOut_40 (fun hc => ?_) (fun hc => ?_)
        · have h := of_t hc h
          refine tr_sub [0, 1] rfl ?_
          exact K16_T _ _ h
        · have h := of_f hc h
          refine tr_aload_n hO 43 0 rfl dX7_carryOut_43 ?_
          refine tr_get hO 44 (k := 5) (x_v0 (by decide)) rfl rfl iX7 (by decide) wF_X7_41 rfl rfl dX7_carryOut_44 ?_
          refine tr_iload_n hO 47 3 rfl dX7_carryOut_47 ?_
          obtain ⟨v23, μ24, hcall, h⟩ := of_bd h
          refine tr_callI hO 48 (na := 1) (As := [.int v7]) (st := []) (c_X2_endsOrder hX  hcall) rfl (x_v0 (by decide)) rfl rfl wM_X7_180 wI_X2_endsOrder wS_X2_endsOrder wN_X2 wC_X2_endsOrder (by decide +kernel) rfl (by decide) (by decide) (Nat.le_of_ble_eq_true rfl) dX7_carryOut_48 ?_
          obtain ⟨J25, e_J25, h⟩ := of_lt h
          have J25_T : ∀ (v26 : Int32) (v27 : Int32) (μ28 : mT), J25 v26 v27 μ28 = some (r, μ') → tj X Γ μ28 73 [(0, .ref (X.1 18 0)), (1, .int v26), (2, .int v27), (3, .int v7)] [] := by
            intro v26 v27 μ28 h
            rw [e_J25] at h
            obtain ⟨v29, e_v29, h⟩ := of_lt h
            refine tr_iinc hO 73 (q := 3) (v := v29) (lv' := [(3, .int v29), (0, .ref (X.1 18 0)), (1, .int v26), (2, .int v27)]) hn rfl (by rw [e_v29]; rfl) (by decide) rfl dX7_carryOut_73 ?_
            refine tr_goto hO 76 32 (by decide) dX7_carryOut_76 ?_
            refine tr_sub [1, 2, 3, 0] rfl ?_
            exact ih _ _ _ _ h
          refine tr_if_eq hO 51 73 (by decide) dX7_carryOut_51 (fun hc => ?_) (fun hc => ?_)
          · have h := of_t hc h
            exact J25_T _ _ _ h
          · have h := of_f hc h
            refine tr_aload_n hO 54 0 rfl dX7_carryOut_54 ?_
            refine tr_iload_n hO 55 2 rfl dX7_carryOut_55 ?_
            refine tr_iload_n hO 56 3 rfl dX7_carryOut_56 ?_
            obtain ⟨v30, μ31, hcall, h⟩ := of_bd h
            refine tr_callI hO 57 (na := 2) (As := [.int v6, .int v7]) (st := []) (c_X7_carryOne hX  hcall) rfl (x_v0 (by decide)) rfl rfl wM_X7_183 wI_X7_carryOne wS_X7_carryOne wN_X7 wC_X7_carryOne (by decide +kernel) rfl (by decide) (by decide) (Nat.le_of_ble_eq_true rfl) dX7_carryOut_57 ?_
            refine tr_if_ge hO 60 66 (by decide) dX7_carryOut_60 (fun hc => ?_) (fun hc => ?_)
            · have h := of_t hc h
              obtain ⟨v32, e_v32, h⟩ := of_lt h
              refine tr_iinc hO 66 (q := 1) (v := v32) (lv' := [(1, .int v32), (0, .ref (X.1 18 0)), (2, .int v6), (3, .int v7)]) hn rfl (by rw [e_v32]; rfl) (by decide) rfl dX7_carryOut_66 ?_
              refine tr_iload_n hO 69 3 rfl dX7_carryOut_69 ?_
              refine tr_iconst hO 70 (v := 1) (by decide) dX7_carryOut_70 ?_
              refine tr_iadd hO 71 dX7_carryOut_71 ?_
              obtain ⟨v33, e_v33, h⟩ := of_lt h
              refine tr_istore_n hO 72 (v := v33) e_v33 (lv' := [(2, .int v33), (1, .int v32), (0, .ref (X.1 18 0)), (3, .int v7)]) hn rfl (by decide) rfl dX7_carryOut_72 ?_
              refine tr_sub [2, 1, 0, 3] rfl ?_
              exact J25_T _ _ _ h
            · have h := of_f hc h
              refine tr_sub [0, 1] rfl ?_
              exact K9_T _ _ h
    refine tr_sub [3, 2, 1, 0] rfl ?_
    exact L32_T _ _ _ _ _ h
  · have h := of_f hc h
    refine tr_bipush hO 12 (v := (-3)) (by decide) dX7_carryOut_12 ?_
    cases h
    exact tr_iret hO 14 hQ rfl dX7_carryOut_14
set_option maxHeartbeats 4000000 in
set_option maxRecDepth 100000 in
theorem c_X7_undo {X : xT} (hX : xOK X)   {μ μ' : mT} {r : Int32} (h : f_X7_undo μ = some (r, μ')) : CMi X yX7_undo cX7_undo 1 .int 4 89 [.ref (X.1 18 0)] μ r μ' := by
  refine CMi_of hX (by decide +kernel) (lv := [(0, .ref (X.1 18 0))]) (Nat.le_of_ble_eq_true rfl) rfl (fun Γ hO hn hQ => ?_)
  have hO : Ok X RX7 cX7_undo 4 89 Γ := hO
  unfold f_X7_undo at h
  refine tr_aload_n hO 0 0 rfl dX7_undo_0 ?_
  refine tr_get hO 1 (k := 2) (x_v0 (by decide)) rfl rfl iX7 (by decide) wF_X7_26 rfl rfl dX7_undo_1 ?_
  refine tr_aload_n hO 4 0 rfl dX7_undo_4 ?_
  refine tr_get hO 5 (k := 0) (x_v0 (by decide)) rfl rfl iX7 (by decide) wF_X7_12 rfl rfl dX7_undo_5 ?_
  obtain ⟨v1, μ2, hcall, h⟩ := of_bd h
  refine tr_callI hO 8 (na := 1) (As := [.ref (X.1 0 0)]) (st := []) (c_X1_takeBack hX (by decide) hcall) rfl (x_v0 (by decide)) rfl rfl wM_X7_191 wI_X1_takeBack wS_X1_takeBack wN_X1 wC_X1_takeBack (by decide +kernel) rfl (by decide) (by decide) (Nat.le_of_ble_eq_true rfl) dX7_undo_8 ?_
  cases h
  exact tr_iret hO 11 hQ rfl dX7_undo_11
set_option maxHeartbeats 4000000 in
set_option maxRecDepth 100000 in
theorem c_X7_save {X : xT} (hX : xOK X) {a1 : Int32}  {μ μ' : mT} {r : Int32} (h : f_X7_save a1 μ = some (r, μ')) : CMi X yX7_save cX7_save 2 .int 3 68 [.ref (X.1 18 0), .int a1] μ r μ' := by
  refine CMi_of hX (by decide +kernel) (lv := [(0, .ref (X.1 18 0)), (1, .int a1)]) (Nat.le_of_ble_eq_true rfl) rfl (fun Γ hO hn hQ => ?_)
  have hO : Ok X RX7 cX7_save 3 68 Γ := hO
  unfold f_X7_save at h
  refine tr_iload_n hO 0 1 rfl dX7_save_0 ?_
  refine tr_if_lt hO 1 9 (by decide) dX7_save_1 (fun hc => ?_) (fun hc => ?_)
  · have h := of_t hc h
    refine tr_bipush hO 9 (v := (-2)) (by decide) dX7_save_9 ?_
    cases h
    exact tr_iret hO 11 hQ rfl dX7_save_11
  · have h := of_f hc h
    refine tr_iload_n hO 4 1 rfl dX7_save_4 ?_
    refine tr_iconst hO 5 (v := 2) (by decide) dX7_save_5 ?_
    refine tr_icmp_lt hO 6 12 (by decide) dX7_save_6 (fun hc => ?_) (fun hc => ?_)
    · have h := of_t hc h
      refine tr_aload_n hO 12 0 rfl dX7_save_12 ?_
      refine tr_get hO 13 (k := 3) (x_v0 (by decide)) rfl rfl iX7 (by decide) wF_X7_30 rfl rfl dX7_save_13 ?_
      refine tr_iload_n hO 16 1 rfl dX7_save_16 ?_
      obtain ⟨hg, h⟩ := of_gd h
      obtain ⟨jj1, e_jj1, h⟩ := of_lt h
      obtain ⟨hj_jj1, h⟩ := of_gd h
      have hj_jj1 := of_decide_eq_true hj_jj1
      refine tr_aald hO 17 (j' := jj1) e_jj1 (x_v0 (by decide)) a_23 hg dX7_save_17 ?_
      refine tr_aload_n hO 18 0 rfl dX7_save_18 ?_
      refine tr_get hO 19 (k := 0) (x_v0 (by decide)) rfl rfl iX7 (by decide) wF_X7_12 rfl rfl dX7_save_19 ?_
      obtain ⟨v2, μ3, hcall, h⟩ := of_bd h
      refine tr_callV hO 22 (na := 1) (As := [.ref (X.1 0 0)]) (st := []) (c_X6_copyFrom hX hj_jj1 (by decide) hcall) rfl (x_vy (by decide) hj_jj1) rfl rfl wM_X7_195 wI_X6_copyFrom wS_X6_copyFrom wN_X6 wC_X6_copyFrom (by decide +kernel) rfl (by decide) (by decide) (Nat.le_of_ble_eq_true rfl) dX7_save_22 ?_
      refine tr_aload_n hO 25 0 rfl dX7_save_25 ?_
      refine tr_get hO 26 (k := 4) (x_v0 (by decide)) rfl rfl iX7 (by decide) wF_X7_34 rfl rfl dX7_save_26 ?_
      refine tr_iload_n hO 29 1 rfl dX7_save_29 ?_
      refine tr_iconst hO 30 (v := 1) (by decide) dX7_save_30 ?_
      obtain ⟨hg, h⟩ := of_gd h
      obtain ⟨μ4, e_μ4, h⟩ := of_lt h
      refine tr_zast hO 31 e_μ4 (by decide) (x_v0 (by decide)) a_24 hg dX7_save_31 ?_
      refine tr_aload_n hO 32 0 rfl dX7_save_32 ?_
      refine tr_get hO 33 (k := 0) (x_v0 (by decide)) rfl rfl iX7 (by decide) wF_X7_12 rfl rfl dX7_save_33 ?_
      refine tr_getN hO 36 (k := 0) (x_vy (by decide) (by decide)) rfl rfl iX6 (by decide) (host := RX7) (by decide +kernel) rfl rfl dX7_save_36 ?_
      cases h
      exact tr_iret hO 39 hQ rfl dX7_save_39
    · have h := of_f hc h
      refine tr_bipush hO 9 (v := (-2)) (by decide) dX7_save_9 ?_
      cases h
      exact tr_iret hO 11 hQ rfl dX7_save_11
set_option maxHeartbeats 4000000 in
set_option maxRecDepth 100000 in
theorem c_X7_restore {X : xT} (hX : xOK X) {a1 : Int32}  {μ μ' : mT} {r : Int32} (h : f_X7_restore a1 μ = some (r, μ')) : CMi X yX7_restore cX7_restore 2 .int 4 89 [.ref (X.1 18 0), .int a1] μ r μ' := by
  refine CMi_of hX (by decide +kernel) (lv := [(0, .ref (X.1 18 0)), (1, .int a1)]) (Nat.le_of_ble_eq_true rfl) rfl (fun Γ hO hn hQ => ?_)
  have hO : Ok X RX7 cX7_restore 4 89 Γ := hO
  unfold f_X7_restore at h
  refine tr_iload_n hO 0 1 rfl dX7_restore_0 ?_
  refine tr_if_lt hO 1 9 (by decide) dX7_restore_1 (fun hc => ?_) (fun hc => ?_)
  · have h := of_t hc h
    refine tr_bipush hO 9 (v := (-2)) (by decide) dX7_restore_9 ?_
    cases h
    exact tr_iret hO 11 hQ rfl dX7_restore_11
  · have h := of_f hc h
    refine tr_iload_n hO 4 1 rfl dX7_restore_4 ?_
    refine tr_iconst hO 5 (v := 2) (by decide) dX7_restore_5 ?_
    refine tr_icmp_lt hO 6 12 (by decide) dX7_restore_6 (fun hc => ?_) (fun hc => ?_)
    · have h := of_t hc h
      refine tr_aload_n hO 12 0 rfl dX7_restore_12 ?_
      refine tr_get hO 13 (k := 4) (x_v0 (by decide)) rfl rfl iX7 (by decide) wF_X7_34 rfl rfl dX7_restore_13 ?_
      refine tr_iload_n hO 16 1 rfl dX7_restore_16 ?_
      obtain ⟨hg, h⟩ := of_gd h
      refine tr_zald hO 17 (x_v0 (by decide)) a_24 hg dX7_restore_17 ?_
      refine tr_if_ne hO 18 24 (by decide) dX7_restore_18 (fun hc => ?_) (fun hc => ?_)
      · have h := of_f hc h
        refine tr_aload_n hO 24 0 rfl dX7_restore_24 ?_
        refine tr_get hO 25 (k := 2) (x_v0 (by decide)) rfl rfl iX7 (by decide) wF_X7_26 rfl rfl dX7_restore_25 ?_
        refine tr_aload_n hO 28 0 rfl dX7_restore_28 ?_
        refine tr_get hO 29 (k := 0) (x_v0 (by decide)) rfl rfl iX7 (by decide) wF_X7_12 rfl rfl dX7_restore_29 ?_
        obtain ⟨v1, μ2, hcall, h⟩ := of_bd h
        refine tr_callV hO 32 (na := 1) (As := [.ref (X.1 0 0)]) (st := []) (c_X1_note hX (by decide) hcall) rfl (x_v0 (by decide)) rfl rfl wM_X7_49 wI_X1_note wS_X1_note wN_X1 wC_X1_note (by decide +kernel) rfl (by decide) (by decide) (Nat.le_of_ble_eq_true rfl) dX7_restore_32 ?_
        refine tr_aload_n hO 35 0 rfl dX7_restore_35 ?_
        refine tr_get hO 36 (k := 0) (x_v0 (by decide)) rfl rfl iX7 (by decide) wF_X7_12 rfl rfl dX7_restore_36 ?_
        refine tr_aload_n hO 39 0 rfl dX7_restore_39 ?_
        refine tr_get hO 40 (k := 3) (x_v0 (by decide)) rfl rfl iX7 (by decide) wF_X7_30 rfl rfl dX7_restore_40 ?_
        refine tr_iload_n hO 43 1 rfl dX7_restore_43 ?_
        obtain ⟨hg, h⟩ := of_gd h
        obtain ⟨jj3, e_jj3, h⟩ := of_lt h
        obtain ⟨hj_jj3, h⟩ := of_gd h
        have hj_jj3 := of_decide_eq_true hj_jj3
        refine tr_aald hO 44 (j' := jj3) e_jj3 (x_v0 (by decide)) a_23 hg dX7_restore_44 ?_
        obtain ⟨v4, μ5, hcall, h⟩ := of_bd h
        refine tr_callV hO 45 (na := 1) (As := [.ref (X.1 0 jj3)]) (st := []) (c_X6_copyFrom hX (by decide) hj_jj3 hcall) rfl (x_vy (by decide) (by decide)) rfl rfl wM_X7_195 wI_X6_copyFrom wS_X6_copyFrom wN_X6 wC_X6_copyFrom (by decide +kernel) rfl (by decide) (by decide) (Nat.le_of_ble_eq_true rfl) dX7_restore_45 ?_
        refine tr_aload_n hO 48 0 rfl dX7_restore_48 ?_
        refine tr_get hO 49 (k := 2) (x_v0 (by decide)) rfl rfl iX7 (by decide) wF_X7_26 rfl rfl dX7_restore_49 ?_
        refine tr_aload_n hO 52 0 rfl dX7_restore_52 ?_
        refine tr_get hO 53 (k := 0) (x_v0 (by decide)) rfl rfl iX7 (by decide) wF_X7_12 rfl rfl dX7_restore_53 ?_
        refine tr_getN hO 56 (k := 0) (x_vy (by decide) (by decide)) rfl rfl iX6 (by decide) (host := RX7) (by decide +kernel) rfl rfl dX7_restore_56 ?_
        obtain ⟨v6, μ7, hcall, h⟩ := of_bd h
        refine tr_callI hO 59 (na := 1) (As := [.int (μ5 0 0 0)]) (st := []) (c_X1_kept hX  hcall) rfl (x_v0 (by decide)) rfl rfl wM_X7_57 wI_X1_kept wS_X1_kept wN_X1 wC_X1_kept (by decide +kernel) rfl (by decide) (by decide) (Nat.le_of_ble_eq_true rfl) dX7_restore_59 ?_
        cases h
        exact tr_iret hO 62 hQ rfl dX7_restore_62
      · have h := of_t hc h
        refine tr_bipush hO 21 (v := (-5)) (by decide) dX7_restore_21 ?_
        cases h
        exact tr_iret hO 23 hQ rfl dX7_restore_23
    · have h := of_f hc h
      refine tr_bipush hO 9 (v := (-2)) (by decide) dX7_restore_9 ?_
      cases h
      exact tr_iret hO 11 hQ rfl dX7_restore_11
set_option maxHeartbeats 4000000 in
set_option maxRecDepth 100000 in
theorem c_X8_in {X : xT} (hX : xOK X) {a0 : Int32} {a1 : Int32} {a2 : Int32}  {μ μ' : mT} {r : Int32} (h : f_X8_in a0 a1 a2 μ = some (r, μ')) : CMi X yX8_in cX8_in 3 .boolean 0 0 [.int a0, .int a1, .int a2] μ r μ' := by
  refine CMi_of hX (by decide +kernel) (lv := [(0, .int a0), (1, .int a1), (2, .int a2)]) (Nat.le_of_ble_eq_true rfl) rfl (fun Γ hO hn hQ => ?_)
  have hO : Ok X RX8 cX8_in 0 0 Γ := hO
  unfold f_X8_in at h
  refine tr_iload_n hO 0 0 rfl dX8_in_0 ?_
  refine tr_iload_n hO 1 1 rfl dX8_in_1 ?_
  refine tr_icmp_lt hO 2 14 (by decide) dX8_in_2 (fun hc => ?_) (fun hc => ?_)
  · have h := of_t hc h
    refine tr_iconst hO 14 (v := 0) (by decide) dX8_in_14 ?_
    cases h
    exact tr_iret hO 15 hQ (by decide) dX8_in_15
  · have h := of_f hc h
    refine tr_iload_n hO 5 0 rfl dX8_in_5 ?_
    refine tr_iload_n hO 6 2 rfl dX8_in_6 ?_
    refine tr_icmp_gt hO 7 14 (by decide) dX8_in_7 (fun hc => ?_) (fun hc => ?_)
    · have h := of_t hc h
      refine tr_iconst hO 14 (v := 0) (by decide) dX8_in_14 ?_
      cases h
      exact tr_iret hO 15 hQ (by decide) dX8_in_15
    · have h := of_f hc h
      refine tr_iconst hO 10 (v := 1) (by decide) dX8_in_10 ?_
      refine tr_goto hO 11 15 (by decide) dX8_in_11 ?_
      cases h
      exact tr_iret hO 15 hQ (by decide) dX8_in_15
set_option maxHeartbeats 4000000 in
set_option maxRecDepth 100000 in
theorem c_X8_record {X : xT} (hX : xOK X)   {μ μ' : mT} {r : Int32} (h : f_X8_record μ = some (r, μ')) : CMv X yX8_record cX8_record 2 0 0 [.ref (X.1 27 0)] μ μ' := by
  refine CMv_of hX (by decide +kernel) (lv := [(0, .ref (X.1 27 0))]) (Nat.le_of_ble_eq_true rfl) rfl (fun Γ hO hn hQ => ?_)
  have hO : Ok X RX8 cX8_record 0 0 Γ := hO
  unfold f_X8_record at h
  refine tr_aload_n hO 0 0 rfl dX8_record_0 ?_
  refine tr_get hO 1 (k := 9) (x_v0 (by decide)) rfl rfl iX8 (by decide) wF_X8_47 rfl rfl dX8_record_1 ?_
  refine tr_if_eq hO 4 8 (by decide) dX8_record_4 (fun hc => ?_) (fun hc => ?_)
  · have h := of_t hc h
    refine tr_aload_n hO 8 0 rfl dX8_record_8 ?_
    refine tr_get hO 9 (k := 4) (x_v0 (by decide)) rfl rfl iX8 (by decide) wF_X8_51 rfl rfl dX8_record_9 ?_
    refine tr_bipush hO 12 (v := 6) (by decide) dX8_record_12 ?_
    obtain ⟨J1, e_J1, h⟩ := of_lt h
    have J1_T : ∀ (μ2 : mT), J1 μ2 = some (r, μ') → tj X Γ μ2 53 [(0, .ref (X.1 27 0))] [] := by
      intro μ2 h
      rw [e_J1] at h
      refine tr_iconst hO 53 (v := 0) (by decide) dX8_record_53 ?_
      refine tr_istore_n hO 54 (v := 0) rfl (lv' := [(1, .int 0), (0, .ref (X.1 27 0))]) hn rfl (by decide) rfl dX8_record_54 ?_
      obtain ⟨K5, e_K5, h⟩ := of_lt h
      have K5_T : ∀ (μ6 : mT), K5 μ6 = some (r, μ') → tj X Γ μ6 89 [(0, .ref (X.1 27 0))] [] := by
        intro μ6 h
        rw [e_K5] at h
        refine tr_aload_n hO 89 0 rfl dX8_record_89 ?_
        refine tr_dup hO 90 rfl dX8_record_90 ?_
        refine tr_get hO 91 (k := 4) (x_v0 (by decide)) rfl rfl iX8 (by decide) wF_X8_51 rfl rfl dX8_record_91 ?_
        refine tr_iconst hO 94 (v := 1) (by decide) dX8_record_94 ?_
        refine tr_iadd hO 95 dX8_record_95 ?_
        obtain ⟨μ7, e_μ7, h⟩ := of_lt h
        refine tr_put hO 96 (k := 4) (ty := .int) e_μ7 (x_v0 (by decide)) rfl rfl rfl iX8 tyX8 tyX8_ok nmX8 (by decide) wF_X8_51 rfl rfl (by decide +kernel) rfl rfl (Nat.le_of_ble_eq_true rfl) dX8_record_96 ?_
        cases h
        exact tr_vret hO 99 hQ dX8_record_99
      have L55_T : ∀ (n : Nat) (v3 : Int32) (μ4 : mT), f_X8_record_L55 K5 n v3 μ4 = some (r, μ') → tj X Γ μ4 55 [(0, .ref (X.1 27 0)), (1, .int v3)] [] := by
        intro n
        induction n with
        | zero =>
          intro v3 μ4 h
          rw [f_X8_record_L55] at h
          cases h
        | succ n ih =>
          intro v3 μ4 h
          rw [f_X8_record_L55] at h
          refine tr_iload_n hO 55 1 rfl dX8_record_55 ?_
          refine tr_sipush hO 56 (v := 560) (by decide) dX8_record_56 ?_
          refine tr_icmp_ge hO 59 89 (by decide) dX8_record_59 (fun hc => ?_) (fun hc => ?_)
          · have h := of_t hc h
            refine tr_sub [0] rfl ?_
            exact K5_T _ h
          · have h := of_f hc h
            refine tr_aload_n hO 62 0 rfl dX8_record_62 ?_
            refine tr_get hO 63 (k := 3) (x_v0 (by decide)) rfl rfl iX8 (by decide) wF_X8_19 rfl rfl dX8_record_63 ?_
            refine tr_aload_n hO 66 0 rfl dX8_record_66 ?_
            refine tr_get hO 67 (k := 4) (x_v0 (by decide)) rfl rfl iX8 (by decide) wF_X8_51 rfl rfl dX8_record_67 ?_
            refine tr_sipush hO 70 (v := 560) (by decide) dX8_record_70 ?_
            refine tr_imul hO 73 dX8_record_73 ?_
            refine tr_iload_n hO 74 1 rfl dX8_record_74 ?_
            refine tr_iadd hO 75 dX8_record_75 ?_
            refine tr_aload_n hO 76 0 rfl dX8_record_76 ?_
            refine tr_get hO 77 (k := 0) (x_v0 (by decide)) rfl rfl iX8 (by decide) wF_X8_7 rfl rfl dX8_record_77 ?_
            refine tr_iload_n hO 80 1 rfl dX8_record_80 ?_
            obtain ⟨hg, h⟩ := of_gd h
            refine tr_iald hO 81 (x_v0 (by decide)) a_28 hg dX8_record_81 ?_
            obtain ⟨hg, h⟩ := of_gd h
            obtain ⟨μ8, e_μ8, h⟩ := of_lt h
            refine tr_iast hO 82 e_μ8 (x_v0 (by decide)) a_31 hg dX8_record_82 ?_
            obtain ⟨v9, e_v9, h⟩ := of_lt h
            refine tr_iinc hO 83 (q := 1) (v := v9) (lv' := [(1, .int v9), (0, .ref (X.1 27 0))]) hn rfl (by rw [e_v9]; rfl) (by decide) rfl dX8_record_83 ?_
            refine tr_goto hO 86 55 (by decide) dX8_record_86 ?_
            refine tr_sub [1, 0] rfl ?_
            exact ih _ _ h
      refine tr_sub [1, 0] rfl ?_
      exact L55_T _ _ _ h
    refine tr_icmp_ne hO 14 53 (by decide) dX8_record_14 (fun hc => ?_) (fun hc => ?_)
    · have h := of_f hc h
      exact J1_T _ h
    · have h := of_t hc h
      refine tr_iconst hO 17 (v := 0) (by decide) dX8_record_17 ?_
      refine tr_istore_n hO 18 (v := 0) rfl (lv' := [(1, .int 0), (0, .ref (X.1 27 0))]) hn rfl (by decide) rfl dX8_record_18 ?_
      obtain ⟨K12, e_K12, h⟩ := of_lt h
      have K12_T : ∀ (μ13 : mT), K12 μ13 = some (r, μ') → tj X Γ μ13 48 [(0, .ref (X.1 27 0))] [] := by
        intro μ13 h
        rw [e_K12] at h
        refine tr_aload_n hO 48 0 rfl dX8_record_48 ?_
        refine tr_iconst hO 49 (v := 5) (by decide) dX8_record_49 ?_
        obtain ⟨μ14, e_μ14, h⟩ := of_lt h
        refine tr_put hO 50 (k := 4) (ty := .int) e_μ14 (x_v0 (by decide)) rfl rfl rfl iX8 tyX8 tyX8_ok nmX8 (by decide) wF_X8_51 rfl rfl (by decide +kernel) rfl rfl (Nat.le_of_ble_eq_true rfl) dX8_record_50 ?_
        exact J1_T _ h
      have L19_T : ∀ (n : Nat) (v10 : Int32) (μ11 : mT), f_X8_record_L19 K12 n v10 μ11 = some (r, μ') → tj X Γ μ11 19 [(0, .ref (X.1 27 0)), (1, .int v10)] [] := by
        intro n
        induction n with
        | zero =>
          intro v10 μ11 h
          rw [f_X8_record_L19] at h
          cases h
        | succ n ih =>
          intro v10 μ11 h
          rw [f_X8_record_L19] at h
          refine tr_iload_n hO 19 1 rfl dX8_record_19 ?_
          refine tr_sipush hO 20 (v := 2800) (by decide) dX8_record_20 ?_
          refine tr_icmp_ge hO 23 48 (by decide) dX8_record_23 (fun hc => ?_) (fun hc => ?_)
          · have h := of_t hc h
            refine tr_sub [0] rfl ?_
            exact K12_T _ h
          · have h := of_f hc h
            refine tr_aload_n hO 26 0 rfl dX8_record_26 ?_
            refine tr_get hO 27 (k := 3) (x_v0 (by decide)) rfl rfl iX8 (by decide) wF_X8_19 rfl rfl dX8_record_27 ?_
            refine tr_iload_n hO 30 1 rfl dX8_record_30 ?_
            refine tr_aload_n hO 31 0 rfl dX8_record_31 ?_
            refine tr_get hO 32 (k := 3) (x_v0 (by decide)) rfl rfl iX8 (by decide) wF_X8_19 rfl rfl dX8_record_32 ?_
            refine tr_iload_n hO 35 1 rfl dX8_record_35 ?_
            refine tr_sipush hO 36 (v := 560) (by decide) dX8_record_36 ?_
            refine tr_iadd hO 39 dX8_record_39 ?_
            obtain ⟨hg, h⟩ := of_gd h
            refine tr_iald hO 40 (x_v0 (by decide)) a_31 hg dX8_record_40 ?_
            obtain ⟨hg, h⟩ := of_gd h
            obtain ⟨μ15, e_μ15, h⟩ := of_lt h
            refine tr_iast hO 41 e_μ15 (x_v0 (by decide)) a_31 hg dX8_record_41 ?_
            obtain ⟨v16, e_v16, h⟩ := of_lt h
            refine tr_iinc hO 42 (q := 1) (v := v16) (lv' := [(1, .int v16), (0, .ref (X.1 27 0))]) hn rfl (by rw [e_v16]; rfl) (by decide) rfl dX8_record_42 ?_
            refine tr_goto hO 45 19 (by decide) dX8_record_45 ?_
            refine tr_sub [1, 0] rfl ?_
            exact ih _ _ h
      refine tr_sub [1, 0] rfl ?_
      exact L19_T _ _ _ h
  · have h := of_f hc h
    cases h
    exact tr_vret hO 7 hQ dX8_record_7
set_option maxHeartbeats 4000000 in
set_option maxRecDepth 100000 in
theorem c_X8_least {X : xT} (hX : xOK X) {a0 : Int32}  {μ μ' : mT} {r : Int32} (h : f_X8_least a0 μ = some (r, μ')) : CMi X yX8_least cX8_least 1 .int 0 0 [.int a0] μ r μ' := by
  refine CMi_of hX (by decide +kernel) (lv := [(0, .int a0)]) (Nat.le_of_ble_eq_true rfl) rfl (fun Γ hO hn hQ => ?_)
  have hO : Ok X RX8 cX8_least 0 0 Γ := hO
  unfold f_X8_least at h
  refine tr_iload_n hO 0 0 rfl dX8_least_0 ?_
  by_cases hs0 : a0 = 0
  · have h := of_t hs0 h
    refine tr_tabIn hO 1 36 (by rw [hs0]; decide) (by rw [hs0]; decide) (by rw [hs0]; rfl) (by decide) dX8_least_1 ?_
    refine tr_iconst hO 36 (v := 4) (by decide) dX8_least_36 ?_
    cases h
    exact tr_iret hO 37 hQ rfl dX8_least_37
  have h := of_f hs0 h
  by_cases hs1 : a0 = 1
  · have h := of_t hs1 h
    refine tr_tabIn hO 1 38 (by rw [hs1]; decide) (by rw [hs1]; decide) (by rw [hs1]; rfl) (by decide) dX8_least_1 ?_
    refine tr_iconst hO 38 (v := 2) (by decide) dX8_least_38 ?_
    cases h
    exact tr_iret hO 39 hQ rfl dX8_least_39
  have h := of_f hs1 h
  by_cases hs2 : a0 = 2
  · have h := of_t hs2 h
    refine tr_tabIn hO 1 40 (by rw [hs2]; decide) (by rw [hs2]; decide) (by rw [hs2]; rfl) (by decide) dX8_least_1 ?_
    refine tr_iconst hO 40 (v := 1) (by decide) dX8_least_40 ?_
    cases h
    exact tr_iret hO 41 hQ rfl dX8_least_41
  have h := of_f hs2 h
  by_cases hs4 : a0 = 4
  · have h := of_t hs4 h
    refine tr_tabIn hO 1 40 (by rw [hs4]; decide) (by rw [hs4]; decide) (by rw [hs4]; rfl) (by decide) dX8_least_1 ?_
    refine tr_iconst hO 40 (v := 1) (by decide) dX8_least_40 ?_
    cases h
    exact tr_iret hO 41 hQ rfl dX8_least_41
  have h := of_f hs4 h
  have hn_hs0 : ¬ a0.toInt = 0 := i_ne (by decide) hs0
  have hn_hs1 : ¬ a0.toInt = 1 := i_ne (by decide) hs1
  have hn_hs2 : ¬ a0.toInt = 2 := i_ne (by decide) hs2
  have hn_hs4 : ¬ a0.toInt = 4 := i_ne (by decide) hs4
  have hsw : a0.toInt < 0 ∨ (4 : Int) < a0.toInt ∨ a0.toInt = 3 := by omega
  refine tr_tabD hO 1 42 (by
    rcases hsw with hsw | hsw | hsw
    · exact Or.inl hsw
    · exact Or.inr (Or.inl hsw)
    · exact Or.inr (Or.inr (by rw [hsw]; exact ⟨by decide, by decide, rfl⟩))
    ) (by decide) dX8_least_1 ?_
  refine tr_iconst hO 42 (v := 0) (by decide) dX8_least_42 ?_
  cases h
  exact tr_iret hO 43 hQ rfl dX8_least_43
set_option maxHeartbeats 4000000 in
set_option maxRecDepth 100000 in
theorem c_X8_most {X : xT} (hX : xOK X) {a0 : Int32}  {μ μ' : mT} {r : Int32} (h : f_X8_most a0 μ = some (r, μ')) : CMi X yX8_most cX8_most 1 .int 0 0 [.int a0] μ r μ' := by
  refine CMi_of hX (by decide +kernel) (lv := [(0, .int a0)]) (Nat.le_of_ble_eq_true rfl) rfl (fun Γ hO hn hQ => ?_)
  have hO : Ok X RX8 cX8_most 0 0 Γ := hO
  unfold f_X8_most at h
  refine tr_iload_n hO 0 0 rfl dX8_most_0 ?_
  by_cases hs2 : a0 = 2
  · have h := of_t hs2 h
    refine tr_tabIn hO 1 32 (by rw [hs2]; decide) (by rw [hs2]; decide) (by rw [hs2]; rfl) (by decide) dX8_most_1 ?_
    refine tr_bipush hO 32 (v := 20) (by decide) dX8_most_32 ?_
    cases h
    exact tr_iret hO 34 hQ rfl dX8_most_34
  have h := of_f hs2 h
  by_cases hs3 : a0 = 3
  · have h := of_t hs3 h
    refine tr_tabIn hO 1 35 (by rw [hs3]; decide) (by rw [hs3]; decide) (by rw [hs3]; rfl) (by decide) dX8_most_1 ?_
    refine tr_bipush hO 35 (v := 10) (by decide) dX8_most_35 ?_
    cases h
    exact tr_iret hO 37 hQ rfl dX8_most_37
  have h := of_f hs3 h
  by_cases hs5 : a0 = 5
  · have h := of_t hs5 h
    refine tr_tabIn hO 1 38 (by rw [hs5]; decide) (by rw [hs5]; decide) (by rw [hs5]; rfl) (by decide) dX8_most_1 ?_
    refine tr_sipush hO 38 (v := 1000) (by decide) dX8_most_38 ?_
    cases h
    exact tr_iret hO 41 hQ rfl dX8_most_41
  have h := of_f hs5 h
  have hn_hs2 : ¬ a0.toInt = 2 := i_ne (by decide) hs2
  have hn_hs3 : ¬ a0.toInt = 3 := i_ne (by decide) hs3
  have hn_hs5 : ¬ a0.toInt = 5 := i_ne (by decide) hs5
  have hsw : a0.toInt < 2 ∨ (5 : Int) < a0.toInt ∨ a0.toInt = 4 := by omega
  refine tr_tabD hO 1 42 (by
    rcases hsw with hsw | hsw | hsw
    · exact Or.inl hsw
    · exact Or.inr (Or.inl hsw)
    · exact Or.inr (Or.inr (by rw [hsw]; exact ⟨by decide, by decide, rfl⟩))
    ) (by decide) dX8_most_1 ?_
  refine tr_bipush hO 42 (v := 60) (by decide) dX8_most_42 ?_
  cases h
  exact tr_iret hO 44 hQ rfl dX8_most_44
set_option maxHeartbeats 4000000 in
set_option maxRecDepth 100000 in
theorem c_X8_set {X : xT} (hX : xOK X) {a1 : Int32} {a2 : Int32}  {μ μ' : mT} {r : Int32} (h : f_X8_set a1 a2 μ = some (r, μ')) : CMi X yX8_set cX8_set 4 .int 1 22 [.ref (X.1 27 0), .int a1, .int a2] μ r μ' := by
  refine CMi_of hX (by decide +kernel) (lv := [(0, .ref (X.1 27 0)), (1, .int a1), (2, .int a2)]) (Nat.le_of_ble_eq_true rfl) rfl (fun Γ hO hn hQ => ?_)
  have hO : Ok X RX8 cX8_set 1 22 Γ := hO
  unfold f_X8_set at h
  refine tr_iload_n hO 0 1 rfl dX8_set_0 ?_
  refine tr_iconst hO 1 (v := 0) (by decide) dX8_set_1 ?_
  refine tr_iconst hO 2 (v := 5) (by decide) dX8_set_2 ?_
  obtain ⟨v1, μ2, hcall, h⟩ := of_bd h
  refine tr_callS hO 3 (na := 3) (As := [.int a1, .int 0, .int 5]) (st := []) (c_X8_in hX  hcall) rfl wM_X8_55 wT_X8_in wN_X8 wC_X8_in (by decide +kernel) rfl (by decide) (by decide) (Nat.le_of_ble_eq_true rfl) dX8_set_3 ?_
  refine tr_if_eq hO 6 24 (by decide) dX8_set_6 (fun hc => ?_) (fun hc => ?_)
  · have h := of_t hc h
    refine tr_bipush hO 24 (v := (-2)) (by decide) dX8_set_24 ?_
    cases h
    exact tr_iret hO 26 hQ rfl dX8_set_26
  · have h := of_f hc h
    refine tr_iload_n hO 9 2 rfl dX8_set_9 ?_
    refine tr_iload_n hO 10 1 rfl dX8_set_10 ?_
    obtain ⟨v3, μ4, hcall, h⟩ := of_bd h
    refine tr_callS hO 11 (na := 1) (As := [.int a1]) (st := [.int a2]) (c_X8_least hX  hcall) rfl wM_X8_59 wT_X8_least wN_X8 wC_X8_least (by decide +kernel) rfl (by decide) (by decide) (Nat.le_of_ble_eq_true rfl) dX8_set_11 ?_
    refine tr_iload_n hO 14 1 rfl dX8_set_14 ?_
    obtain ⟨v5, μ6, hcall, h⟩ := of_bd h
    refine tr_callS hO 15 (na := 1) (As := [.int a1]) (st := [.int v3, .int a2]) (c_X8_most hX  hcall) rfl wM_X8_63 wT_X8_most wN_X8 wC_X8_most (by decide +kernel) rfl (by decide) (by decide) (Nat.le_of_ble_eq_true rfl) dX8_set_15 ?_
    obtain ⟨v7, μ8, hcall, h⟩ := of_bd h
    refine tr_callS hO 18 (na := 3) (As := [.int a2, .int v3, .int v5]) (st := []) (c_X8_in hX  hcall) rfl wM_X8_55 wT_X8_in wN_X8 wC_X8_in (by decide +kernel) rfl (by decide) (by decide) (Nat.le_of_ble_eq_true rfl) dX8_set_18 ?_
    refine tr_if_ne hO 21 27 (by decide) dX8_set_21 (fun hc => ?_) (fun hc => ?_)
    · have h := of_f hc h
      refine tr_aload_n hO 27 0 rfl dX8_set_27 ?_
      obtain ⟨v9, μ10, hcall, h⟩ := of_bd h
      refine tr_callV hO 28 (na := 0) (As := []) (st := []) (c_X8_record hX  hcall) rfl (x_v0 (by decide)) rfl rfl wM_X8_66 wI_X8_record wS_X8_record wN_X8 wC_X8_record (by decide +kernel) rfl (by decide) (by decide) (Nat.le_of_ble_eq_true rfl) dX8_set_28 ?_
      refine tr_aload_n hO 31 0 rfl dX8_set_31 ?_
      refine tr_get hO 32 (k := 0) (x_v0 (by decide)) rfl rfl iX8 (by decide) wF_X8_7 rfl rfl dX8_set_32 ?_
      refine tr_iload_n hO 35 1 rfl dX8_set_35 ?_
      obtain ⟨hg, h⟩ := of_gd h
      refine tr_iald hO 36 (x_v0 (by decide)) a_28 hg dX8_set_36 ?_
      obtain ⟨v11, e_v11, h⟩ := of_lt h
      refine tr_istore_n hO 37 (v := v11) e_v11 (lv' := [(3, .int v11), (0, .ref (X.1 27 0)), (1, .int a1), (2, .int a2)]) hn rfl (by decide) rfl dX8_set_37 ?_
      refine tr_aload_n hO 38 1 rfl dX8_set_38 ?_
      refine tr_get hO 39 (k := 0) (x_v0 (by decide)) rfl rfl iX8 (by decide) wF_X8_7 rfl rfl dX8_set_39 ?_
      refine tr_iload_n hO 42 2 rfl dX8_set_42 ?_
      refine tr_iload_n hO 43 3 rfl dX8_set_43 ?_
      obtain ⟨hg, h⟩ := of_gd h
      obtain ⟨μ12, e_μ12, h⟩ := of_lt h
      refine tr_iast hO 44 e_μ12 (x_v0 (by decide)) a_28 hg dX8_set_44 ?_
      refine tr_iload_n hO 45 0 rfl dX8_set_45 ?_
      cases h
      exact tr_iret hO 46 hQ rfl dX8_set_46
    · have h := of_t hc h
      refine tr_bipush hO 24 (v := (-2)) (by decide) dX8_set_24 ?_
      cases h
      exact tr_iret hO 26 hQ rfl dX8_set_26
set_option maxHeartbeats 4000000 in
set_option maxRecDepth 100000 in
theorem c_X8_track {X : xT} (hX : xOK X) {a1 : Int32}  {μ μ' : mT} {r : Int32} (h : f_X8_track a1 μ = some (r, μ')) : CMi X yX8_track cX8_track 2 .int 1 22 [.ref (X.1 27 0), .int a1] μ r μ' := by
  refine CMi_of hX (by decide +kernel) (lv := [(0, .ref (X.1 27 0)), (1, .int a1)]) (Nat.le_of_ble_eq_true rfl) rfl (fun Γ hO hn hQ => ?_)
  have hO : Ok X RX8 cX8_track 1 22 Γ := hO
  unfold f_X8_track at h
  refine tr_iload_n hO 0 1 rfl dX8_track_0 ?_
  refine tr_iconst hO 1 (v := 4) (by decide) dX8_track_1 ?_
  refine tr_bipush hO 2 (v := 60) (by decide) dX8_track_2 ?_
  obtain ⟨v1, μ2, hcall, h⟩ := of_bd h
  refine tr_callS hO 4 (na := 3) (As := [.int a1, .int 4, .int 60]) (st := []) (c_X8_in hX  hcall) rfl wM_X8_55 wT_X8_in wN_X8 wC_X8_in (by decide +kernel) rfl (by decide) (by decide) (Nat.le_of_ble_eq_true rfl) dX8_track_4 ?_
  refine tr_if_ne hO 7 13 (by decide) dX8_track_7 (fun hc => ?_) (fun hc => ?_)
  · have h := of_f hc h
    refine tr_aload_n hO 13 0 rfl dX8_track_13 ?_
    refine tr_get hO 14 (k := 0) (x_v0 (by decide)) rfl rfl iX8 (by decide) wF_X8_7 rfl rfl dX8_track_14 ?_
    refine tr_bipush hO 17 (v := 7) (by decide) dX8_track_17 ?_
    refine tr_iald hO 19 (x_v0 (by decide)) a_28 (by decide) dX8_track_19 ?_
    refine tr_bipush hO 20 (v := 8) (by decide) dX8_track_20 ?_
    refine tr_icmp_ne hO 22 28 (by decide) dX8_track_22 (fun hc => ?_) (fun hc => ?_)
    · have h := of_f hc h
      refine tr_aload_n hO 28 0 rfl dX8_track_28 ?_
      obtain ⟨v3, μ4, hcall, h⟩ := of_bd h
      refine tr_callV hO 29 (na := 0) (As := []) (st := []) (c_X8_record hX  hcall) rfl (x_v0 (by decide)) rfl rfl wM_X8_66 wI_X8_record wS_X8_record wN_X8 wC_X8_record (by decide +kernel) rfl (by decide) (by decide) (Nat.le_of_ble_eq_true rfl) dX8_track_29 ?_
      refine tr_aload_n hO 32 0 rfl dX8_track_32 ?_
      refine tr_get hO 33 (k := 0) (x_v0 (by decide)) rfl rfl iX8 (by decide) wF_X8_7 rfl rfl dX8_track_33 ?_
      refine tr_bipush hO 36 (v := 20) (by decide) dX8_track_36 ?_
      refine tr_iconst hO 38 (v := 4) (by decide) dX8_track_38 ?_
      refine tr_aload_n hO 39 0 rfl dX8_track_39 ?_
      refine tr_get hO 40 (k := 0) (x_v0 (by decide)) rfl rfl iX8 (by decide) wF_X8_7 rfl rfl dX8_track_40 ?_
      refine tr_bipush hO 43 (v := 7) (by decide) dX8_track_43 ?_
      refine tr_iald hO 45 (x_v0 (by decide)) a_28 (by decide) dX8_track_45 ?_
      refine tr_imul hO 46 dX8_track_46 ?_
      refine tr_iadd hO 47 dX8_track_47 ?_
      refine tr_iload_n hO 48 1 rfl dX8_track_48 ?_
      obtain ⟨hg, h⟩ := of_gd h
      obtain ⟨μ5, e_μ5, h⟩ := of_lt h
      refine tr_iast hO 49 e_μ5 (x_v0 (by decide)) a_28 hg dX8_track_49 ?_
      refine tr_aload_n hO 50 0 rfl dX8_track_50 ?_
      refine tr_get hO 51 (k := 0) (x_v0 (by decide)) rfl rfl iX8 (by decide) wF_X8_7 rfl rfl dX8_track_51 ?_
      refine tr_bipush hO 54 (v := 7) (by decide) dX8_track_54 ?_
      refine tr_dup2 hO 56 rfl rfl dX8_track_56 ?_
      refine tr_iald hO 57 (x_v0 (by decide)) a_28 (by decide) dX8_track_57 ?_
      refine tr_iconst hO 58 (v := 1) (by decide) dX8_track_58 ?_
      refine tr_iadd hO 59 dX8_track_59 ?_
      obtain ⟨μ6, e_μ6, h⟩ := of_lt h
      refine tr_iast hO 60 e_μ6 (x_v0 (by decide)) a_28 (by decide) dX8_track_60 ?_
      refine tr_aload_n hO 61 0 rfl dX8_track_61 ?_
      refine tr_get hO 62 (k := 0) (x_v0 (by decide)) rfl rfl iX8 (by decide) wF_X8_7 rfl rfl dX8_track_62 ?_
      refine tr_bipush hO 65 (v := 7) (by decide) dX8_track_65 ?_
      refine tr_iald hO 67 (x_v0 (by decide)) a_28 (by decide) dX8_track_67 ?_
      refine tr_iconst hO 68 (v := 1) (by decide) dX8_track_68 ?_
      refine tr_isub hO 69 dX8_track_69 ?_
      cases h
      exact tr_iret hO 70 hQ rfl dX8_track_70
    · have h := of_t hc h
      refine tr_bipush hO 25 (v := (-4)) (by decide) dX8_track_25 ?_
      cases h
      exact tr_iret hO 27 hQ rfl dX8_track_27
  · have h := of_t hc h
    refine tr_bipush hO 10 (v := (-2)) (by decide) dX8_track_10 ?_
    cases h
    exact tr_iret hO 12 hQ rfl dX8_track_12
set_option maxHeartbeats 4000000 in
set_option maxRecDepth 100000 in
theorem c_X8_isTrack {X : xT} (hX : xOK X) {a1 : Int32}  {μ μ' : mT} {r : Int32} (h : f_X8_isTrack a1 μ = some (r, μ')) : CMi X yX8_isTrack cX8_isTrack 2 .boolean 1 22 [.ref (X.1 27 0), .int a1] μ r μ' := by
  refine CMi_of hX (by decide +kernel) (lv := [(0, .ref (X.1 27 0)), (1, .int a1)]) (Nat.le_of_ble_eq_true rfl) rfl (fun Γ hO hn hQ => ?_)
  have hO : Ok X RX8 cX8_isTrack 1 22 Γ := hO
  unfold f_X8_isTrack at h
  refine tr_iload_n hO 0 1 rfl dX8_isTrack_0 ?_
  refine tr_iconst hO 1 (v := 0) (by decide) dX8_isTrack_1 ?_
  refine tr_aload_n hO 2 0 rfl dX8_isTrack_2 ?_
  refine tr_get hO 3 (k := 0) (x_v0 (by decide)) rfl rfl iX8 (by decide) wF_X8_7 rfl rfl dX8_isTrack_3 ?_
  refine tr_bipush hO 6 (v := 7) (by decide) dX8_isTrack_6 ?_
  refine tr_iald hO 8 (x_v0 (by decide)) a_28 (by decide) dX8_isTrack_8 ?_
  refine tr_iconst hO 9 (v := 1) (by decide) dX8_isTrack_9 ?_
  refine tr_isub hO 10 dX8_isTrack_10 ?_
  obtain ⟨v1, μ2, hcall, h⟩ := of_bd h
  refine tr_callS hO 11 (na := 3) (As := [.int a1, .int 0, .int ((μ 28 0 (7 : Int32).toNatClampNeg) - 1)]) (st := []) (c_X8_in hX  hcall) rfl wM_X8_55 wT_X8_in wN_X8 wC_X8_in (by decide +kernel) rfl (by decide) (by decide) (Nat.le_of_ble_eq_true rfl) dX8_isTrack_11 ?_
  obtain ⟨hg, h⟩ := of_gd h
  cases h
  exact tr_iret hO 14 hQ (isB_n hg) dX8_isTrack_14
set_option maxHeartbeats 4000000 in
set_option maxRecDepth 100000 in
theorem c_X8_isWagon {X : xT} (hX : xOK X) {a1 : Int32}  {μ μ' : mT} {r : Int32} (h : f_X8_isWagon a1 μ = some (r, μ')) : CMi X yX8_isWagon cX8_isWagon 2 .boolean 1 22 [.ref (X.1 27 0), .int a1] μ r μ' := by
  refine CMi_of hX (by decide +kernel) (lv := [(0, .ref (X.1 27 0)), (1, .int a1)]) (Nat.le_of_ble_eq_true rfl) rfl (fun Γ hO hn hQ => ?_)
  have hO : Ok X RX8 cX8_isWagon 1 22 Γ := hO
  unfold f_X8_isWagon at h
  refine tr_iload_n hO 0 1 rfl dX8_isWagon_0 ?_
  refine tr_iconst hO 1 (v := 0) (by decide) dX8_isWagon_1 ?_
  refine tr_aload_n hO 2 0 rfl dX8_isWagon_2 ?_
  refine tr_get hO 3 (k := 0) (x_v0 (by decide)) rfl rfl iX8 (by decide) wF_X8_7 rfl rfl dX8_isWagon_3 ?_
  refine tr_bipush hO 6 (v := 8) (by decide) dX8_isWagon_6 ?_
  refine tr_iald hO 8 (x_v0 (by decide)) a_28 (by decide) dX8_isWagon_8 ?_
  refine tr_iconst hO 9 (v := 1) (by decide) dX8_isWagon_9 ?_
  refine tr_isub hO 10 dX8_isWagon_10 ?_
  obtain ⟨v1, μ2, hcall, h⟩ := of_bd h
  refine tr_callS hO 11 (na := 3) (As := [.int a1, .int 0, .int ((μ 28 0 (8 : Int32).toNatClampNeg) - 1)]) (st := []) (c_X8_in hX  hcall) rfl wM_X8_55 wT_X8_in wN_X8 wC_X8_in (by decide +kernel) rfl (by decide) (by decide) (Nat.le_of_ble_eq_true rfl) dX8_isWagon_11 ?_
  obtain ⟨hg, h⟩ := of_gd h
  cases h
  exact tr_iret hO 14 hQ (isB_n hg) dX8_isWagon_14
set_option maxHeartbeats 4000000 in
set_option maxRecDepth 100000 in
theorem c_X8_manyOn {X : xT} (hX : xOK X) {a1 : Int32}  {μ μ' : mT} {r : Int32} (h : f_X8_manyOn a1 μ = some (r, μ')) : CMi X yX8_manyOn cX8_manyOn 2 .int 0 0 [.ref (X.1 27 0), .int a1] μ r μ' := by
  refine CMi_of hX (by decide +kernel) (lv := [(0, .ref (X.1 27 0)), (1, .int a1)]) (Nat.le_of_ble_eq_true rfl) rfl (fun Γ hO hn hQ => ?_)
  have hO : Ok X RX8 cX8_manyOn 0 0 Γ := hO
  unfold f_X8_manyOn at h
  refine tr_aload_n hO 0 0 rfl dX8_manyOn_0 ?_
  refine tr_get hO 1 (k := 0) (x_v0 (by decide)) rfl rfl iX8 (by decide) wF_X8_7 rfl rfl dX8_manyOn_1 ?_
  refine tr_bipush hO 4 (v := 20) (by decide) dX8_manyOn_4 ?_
  refine tr_iconst hO 6 (v := 4) (by decide) dX8_manyOn_6 ?_
  refine tr_iload_n hO 7 1 rfl dX8_manyOn_7 ?_
  refine tr_imul hO 8 dX8_manyOn_8 ?_
  refine tr_iadd hO 9 dX8_manyOn_9 ?_
  refine tr_iconst hO 10 (v := 1) (by decide) dX8_manyOn_10 ?_
  refine tr_iadd hO 11 dX8_manyOn_11 ?_
  obtain ⟨hg, h⟩ := of_gd h
  refine tr_iald hO 12 (x_v0 (by decide)) a_28 hg dX8_manyOn_12 ?_
  cases h
  exact tr_iret hO 13 hQ rfl dX8_manyOn_13
set_option maxHeartbeats 4000000 in
set_option maxRecDepth 100000 in
theorem c_X8_lengthOf {X : xT} (hX : xOK X) {a1 : Int32}  {μ μ' : mT} {r : Int32} (h : f_X8_lengthOf a1 μ = some (r, μ')) : CMi X yX8_lengthOf cX8_lengthOf 2 .int 0 0 [.ref (X.1 27 0), .int a1] μ r μ' := by
  refine CMi_of hX (by decide +kernel) (lv := [(0, .ref (X.1 27 0)), (1, .int a1)]) (Nat.le_of_ble_eq_true rfl) rfl (fun Γ hO hn hQ => ?_)
  have hO : Ok X RX8 cX8_lengthOf 0 0 Γ := hO
  unfold f_X8_lengthOf at h
  refine tr_aload_n hO 0 0 rfl dX8_lengthOf_0 ?_
  refine tr_get hO 1 (k := 0) (x_v0 (by decide)) rfl rfl iX8 (by decide) wF_X8_7 rfl rfl dX8_lengthOf_1 ?_
  refine tr_sipush hO 4 (v := 330) (by decide) dX8_lengthOf_4 ?_
  refine tr_iconst hO 7 (v := 4) (by decide) dX8_lengthOf_7 ?_
  refine tr_iload_n hO 8 1 rfl dX8_lengthOf_8 ?_
  refine tr_imul hO 9 dX8_lengthOf_9 ?_
  refine tr_iadd hO 10 dX8_lengthOf_10 ?_
  obtain ⟨hg, h⟩ := of_gd h
  refine tr_iald hO 11 (x_v0 (by decide)) a_28 hg dX8_lengthOf_11 ?_
  cases h
  exact tr_iret hO 12 hQ rfl dX8_lengthOf_12
set_option maxHeartbeats 4000000 in
set_option maxRecDepth 100000 in
theorem c_X8_lengths {X : xT} (hX : xOK X) {a1 : Int32} {a2 : Int32}  {μ μ' : mT} {r : Int32} (h : f_X8_lengths a1 a2 μ = some (r, μ')) : CMi X yX8_lengths cX8_lengths 5 .int 1 21 [.ref (X.1 27 0), .int a1, .int a2] μ r μ' := by
  refine CMi_of hX (by decide +kernel) (lv := [(0, .ref (X.1 27 0)), (1, .int a1), (2, .int a2)]) (Nat.le_of_ble_eq_true rfl) rfl (fun Γ hO hn hQ => ?_)
  have hO : Ok X RX8 cX8_lengths 1 21 Γ := hO
  unfold f_X8_lengths at h
  refine tr_iconst hO 0 (v := 0) (by decide) dX8_lengths_0 ?_
  refine tr_istore_n hO 1 (v := 0) rfl (lv' := [(3, .int 0), (0, .ref (X.1 27 0)), (1, .int a1), (2, .int a2)]) hn rfl (by decide) rfl dX8_lengths_1 ?_
  refine tr_iconst hO 2 (v := 0) (by decide) dX8_lengths_2 ?_
  refine tr_istore hO 3 (v := 0) rfl (lv' := [(4, .int 0), (3, .int 0), (0, .ref (X.1 27 0)), (1, .int a1), (2, .int a2)]) hn (by decide) rfl dX8_lengths_3 ?_
  have L5_T : ∀ (n : Nat) (v1 : Int32) (v2 : Int32) (μ3 : mT), f_X8_lengths_L5 a1 a2 n v1 v2 μ3 = some (r, μ') → tj X Γ μ3 5 [(0, .ref (X.1 27 0)), (1, .int a1), (2, .int a2), (3, .int v1), (4, .int v2)] [] := by
    intro n
    induction n with
    | zero =>
      intro v1 v2 μ3 h
      rw [f_X8_lengths_L5] at h
      cases h
    | succ n ih =>
      intro v1 v2 μ3 h
      rw [f_X8_lengths_L5] at h
      refine tr_iload hO 5 4 rfl dX8_lengths_5 ?_
      refine tr_iload_n hO 7 2 rfl dX8_lengths_7 ?_
      refine tr_icmp_ge hO 8 33 (by decide) dX8_lengths_8 (fun hc => ?_) (fun hc => ?_)
      · have h := of_t hc h
        refine tr_iload_n hO 33 3 rfl dX8_lengths_33 ?_
        cases h
        exact tr_iret hO 34 hQ rfl dX8_lengths_34
      · have h := of_f hc h
        refine tr_iload_n hO 11 3 rfl dX8_lengths_11 ?_
        refine tr_aload_n hO 12 0 rfl dX8_lengths_12 ?_
        refine tr_aload_n hO 13 0 rfl dX8_lengths_13 ?_
        refine tr_get hO 14 (k := 0) (x_v0 (by decide)) rfl rfl iX8 (by decide) wF_X8_7 rfl rfl dX8_lengths_14 ?_
        refine tr_iload_n hO 17 1 rfl dX8_lengths_17 ?_
        refine tr_iload hO 18 4 rfl dX8_lengths_18 ?_
        refine tr_iadd hO 20 dX8_lengths_20 ?_
        obtain ⟨hg, h⟩ := of_gd h
        refine tr_iald hO 21 (x_v0 (by decide)) a_28 hg dX8_lengths_21 ?_
        obtain ⟨v4, μ5, hcall, h⟩ := of_bd h
        refine tr_callI hO 22 (na := 1) (As := [.int (μ3 28 0 (a1 + v2).toNatClampNeg)]) (st := [.int v1]) (c_X8_lengthOf hX  hcall) rfl (x_v0 (by decide)) rfl rfl wM_X8_69 wI_X8_lengthOf wS_X8_lengthOf wN_X8 wC_X8_lengthOf (by decide +kernel) rfl (by decide) (by decide) (Nat.le_of_ble_eq_true rfl) dX8_lengths_22 ?_
        refine tr_iadd hO 25 dX8_lengths_25 ?_
        obtain ⟨v6, e_v6, h⟩ := of_lt h
        refine tr_istore_n hO 26 (v := v6) e_v6 (lv' := [(3, .int v6), (0, .ref (X.1 27 0)), (1, .int a1), (2, .int a2), (4, .int v2)]) hn rfl (by decide) rfl dX8_lengths_26 ?_
        obtain ⟨v7, e_v7, h⟩ := of_lt h
        refine tr_iinc hO 27 (q := 4) (v := v7) (lv' := [(4, .int v7), (3, .int v6), (0, .ref (X.1 27 0)), (1, .int a1), (2, .int a2)]) hn rfl (by rw [e_v7]; rfl) (by decide) rfl dX8_lengths_27 ?_
        refine tr_goto hO 30 5 (by decide) dX8_lengths_30 ?_
        refine tr_sub [2, 3, 4, 1, 0] rfl ?_
        exact ih _ _ _ h
  refine tr_sub [2, 3, 4, 1, 0] rfl ?_
  exact L5_T _ _ _ _ h
set_option maxHeartbeats 4000000 in
set_option maxRecDepth 100000 in
theorem c_X8_lengthOn {X : xT} (hX : xOK X) {a1 : Int32}  {μ μ' : mT} {r : Int32} (h : f_X8_lengthOn a1 μ = some (r, μ')) : CMi X yX8_lengthOn cX8_lengthOn 2 .int 2 45 [.ref (X.1 27 0), .int a1] μ r μ' := by
  refine CMi_of hX (by decide +kernel) (lv := [(0, .ref (X.1 27 0)), (1, .int a1)]) (Nat.le_of_ble_eq_true rfl) rfl (fun Γ hO hn hQ => ?_)
  have hO : Ok X RX8 cX8_lengthOn 2 45 Γ := hO
  unfold f_X8_lengthOn at h
  refine tr_aload_n hO 0 0 rfl dX8_lengthOn_0 ?_
  refine tr_bipush hO 1 (v := 60) (by decide) dX8_lengthOn_1 ?_
  refine tr_bipush hO 3 (v := 30) (by decide) dX8_lengthOn_3 ?_
  refine tr_iload_n hO 5 1 rfl dX8_lengthOn_5 ?_
  refine tr_imul hO 6 dX8_lengthOn_6 ?_
  refine tr_iadd hO 7 dX8_lengthOn_7 ?_
  refine tr_aload_n hO 8 0 rfl dX8_lengthOn_8 ?_
  refine tr_iload_n hO 9 1 rfl dX8_lengthOn_9 ?_
  obtain ⟨v1, μ2, hcall, h⟩ := of_bd h
  refine tr_callI hO 10 (na := 1) (As := [.int a1]) (st := [.int (60 + (30 * a1)), .ref (X.1 27 0)]) (c_X8_manyOn hX  hcall) rfl (x_v0 (by decide)) rfl rfl wM_X8_72 wI_X8_manyOn wS_X8_manyOn wN_X8 wC_X8_manyOn (by decide +kernel) rfl (by decide) (by decide) (Nat.le_of_ble_eq_true rfl) dX8_lengthOn_10 ?_
  obtain ⟨v3, μ4, hcall, h⟩ := of_bd h
  refine tr_callI hO 13 (na := 2) (As := [.int (60 + (30 * a1)), .int v1]) (st := []) (c_X8_lengths hX  hcall) rfl (x_v0 (by decide)) rfl rfl wM_X8_75 wI_X8_lengths wS_X8_lengths wN_X8 wC_X8_lengths (by decide +kernel) rfl (by decide) (by decide) (Nat.le_of_ble_eq_true rfl) dX8_lengthOn_13 ?_
  cases h
  exact tr_iret hO 16 hQ rfl dX8_lengthOn_16
set_option maxHeartbeats 4000000 in
set_option maxRecDepth 100000 in
theorem c_X8_lengthAtEngine {X : xT} (hX : xOK X)   {μ μ' : mT} {r : Int32} (h : f_X8_lengthAtEngine μ = some (r, μ')) : CMi X yX8_lengthAtEngine cX8_lengthAtEngine 1 .int 2 45 [.ref (X.1 27 0)] μ r μ' := by
  refine CMi_of hX (by decide +kernel) (lv := [(0, .ref (X.1 27 0))]) (Nat.le_of_ble_eq_true rfl) rfl (fun Γ hO hn hQ => ?_)
  have hO : Ok X RX8 cX8_lengthAtEngine 2 45 Γ := hO
  unfold f_X8_lengthAtEngine at h
  refine tr_aload_n hO 0 0 rfl dX8_lengthAtEngine_0 ?_
  refine tr_sipush hO 1 (v := 300) (by decide) dX8_lengthAtEngine_1 ?_
  refine tr_aload_n hO 4 0 rfl dX8_lengthAtEngine_4 ?_
  refine tr_get hO 5 (k := 0) (x_v0 (by decide)) rfl rfl iX8 (by decide) wF_X8_7 rfl rfl dX8_lengthAtEngine_5 ?_
  refine tr_bipush hO 8 (v := 9) (by decide) dX8_lengthAtEngine_8 ?_
  refine tr_iald hO 10 (x_v0 (by decide)) a_28 (by decide) dX8_lengthAtEngine_10 ?_
  obtain ⟨v1, μ2, hcall, h⟩ := of_bd h
  refine tr_callI hO 11 (na := 2) (As := [.int 300, .int (μ 28 0 (9 : Int32).toNatClampNeg)]) (st := []) (c_X8_lengths hX  hcall) rfl (x_v0 (by decide)) rfl rfl wM_X8_75 wI_X8_lengths wS_X8_lengths wN_X8 wC_X8_lengths (by decide +kernel) rfl (by decide) (by decide) (Nat.le_of_ble_eq_true rfl) dX8_lengthAtEngine_11 ?_
  cases h
  exact tr_iret hO 14 hQ rfl dX8_lengthAtEngine_14
set_option maxHeartbeats 4000000 in
set_option maxRecDepth 100000 in
theorem c_X8_wagon {X : xT} (hX : xOK X) {a1 : Int32} {a2 : Int32}  {μ μ' : mT} {r : Int32} (h : f_X8_wagon a1 a2 μ = some (r, μ')) : CMi X yX8_wagon cX8_wagon 6 .int 3 66 [.ref (X.1 27 0), .int a1, .int a2] μ r μ' := by
  refine CMi_of hX (by decide +kernel) (lv := [(0, .ref (X.1 27 0)), (1, .int a1), (2, .int a2)]) (Nat.le_of_ble_eq_true rfl) rfl (fun Γ hO hn hQ => ?_)
  have hO : Ok X RX8 cX8_wagon 3 66 Γ := hO
  unfold f_X8_wagon at h
  refine tr_aload_n hO 0 0 rfl dX8_wagon_0 ?_
  refine tr_iload_n hO 1 1 rfl dX8_wagon_1 ?_
  obtain ⟨v1, μ2, hcall, h⟩ := of_bd h
  refine tr_callI hO 2 (na := 1) (As := [.int a1]) (st := []) (c_X8_isTrack hX  hcall) rfl (x_v0 (by decide)) rfl rfl wM_X8_79 wI_X8_isTrack wS_X8_isTrack wN_X8 wC_X8_isTrack (by decide +kernel) rfl (by decide) (by decide) (Nat.le_of_ble_eq_true rfl) dX8_wagon_2 ?_
  refine tr_if_ne hO 5 10 (by decide) dX8_wagon_5 (fun hc => ?_) (fun hc => ?_)
  · have h := of_f hc h
    refine tr_iload_n hO 10 2 rfl dX8_wagon_10 ?_
    refine tr_iconst hO 11 (v := 1) (by decide) dX8_wagon_11 ?_
    refine tr_iconst hO 12 (v := 4) (by decide) dX8_wagon_12 ?_
    obtain ⟨v3, μ4, hcall, h⟩ := of_bd h
    refine tr_callS hO 13 (na := 3) (As := [.int a2, .int 1, .int 4]) (st := []) (c_X8_in hX  hcall) rfl wM_X8_55 wT_X8_in wN_X8 wC_X8_in (by decide +kernel) rfl (by decide) (by decide) (Nat.le_of_ble_eq_true rfl) dX8_wagon_13 ?_
    refine tr_if_ne hO 16 22 (by decide) dX8_wagon_16 (fun hc => ?_) (fun hc => ?_)
    · have h := of_f hc h
      refine tr_aload_n hO 22 0 rfl dX8_wagon_22 ?_
      refine tr_get hO 23 (k := 0) (x_v0 (by decide)) rfl rfl iX8 (by decide) wF_X8_7 rfl rfl dX8_wagon_23 ?_
      refine tr_bipush hO 26 (v := 8) (by decide) dX8_wagon_26 ?_
      refine tr_iald hO 28 (x_v0 (by decide)) a_28 (by decide) dX8_wagon_28 ?_
      refine tr_bipush hO 29 (v := 30) (by decide) dX8_wagon_29 ?_
      refine tr_icmp_ne hO 31 37 (by decide) dX8_wagon_31 (fun hc => ?_) (fun hc => ?_)
      · have h := of_f hc h
        refine tr_aload_n hO 37 0 rfl dX8_wagon_37 ?_
        refine tr_iload_n hO 38 1 rfl dX8_wagon_38 ?_
        obtain ⟨v5, μ6, hcall, h⟩ := of_bd h
        refine tr_callI hO 39 (na := 1) (As := [.int a1]) (st := []) (c_X8_lengthOn hX  hcall) rfl (x_v0 (by decide)) rfl rfl wM_X8_83 wI_X8_lengthOn wS_X8_lengthOn wN_X8 wC_X8_lengthOn (by decide +kernel) rfl (by decide) (by decide) (Nat.le_of_ble_eq_true rfl) dX8_wagon_39 ?_
        refine tr_iload_n hO 42 2 rfl dX8_wagon_42 ?_
        refine tr_iadd hO 43 dX8_wagon_43 ?_
        refine tr_aload_n hO 44 0 rfl dX8_wagon_44 ?_
        refine tr_get hO 45 (k := 0) (x_v0 (by decide)) rfl rfl iX8 (by decide) wF_X8_7 rfl rfl dX8_wagon_45 ?_
        refine tr_bipush hO 48 (v := 20) (by decide) dX8_wagon_48 ?_
        refine tr_iconst hO 50 (v := 4) (by decide) dX8_wagon_50 ?_
        refine tr_iload_n hO 51 1 rfl dX8_wagon_51 ?_
        refine tr_imul hO 52 dX8_wagon_52 ?_
        refine tr_iadd hO 53 dX8_wagon_53 ?_
        obtain ⟨hg, h⟩ := of_gd h
        refine tr_iald hO 54 (x_v0 (by decide)) a_28 hg dX8_wagon_54 ?_
        refine tr_icmp_le hO 55 61 (by decide) dX8_wagon_55 (fun hc => ?_) (fun hc => ?_)
        · have h := of_t hc h
          refine tr_aload_n hO 61 0 rfl dX8_wagon_61 ?_
          obtain ⟨v7, μ8, hcall, h⟩ := of_bd h
          refine tr_callV hO 62 (na := 0) (As := []) (st := []) (c_X8_record hX  hcall) rfl (x_v0 (by decide)) rfl rfl wM_X8_66 wI_X8_record wS_X8_record wN_X8 wC_X8_record (by decide +kernel) rfl (by decide) (by decide) (Nat.le_of_ble_eq_true rfl) dX8_wagon_62 ?_
          refine tr_aload_n hO 65 0 rfl dX8_wagon_65 ?_
          refine tr_get hO 66 (k := 0) (x_v0 (by decide)) rfl rfl iX8 (by decide) wF_X8_7 rfl rfl dX8_wagon_66 ?_
          refine tr_bipush hO 69 (v := 8) (by decide) dX8_wagon_69 ?_
          refine tr_iald hO 71 (x_v0 (by decide)) a_28 (by decide) dX8_wagon_71 ?_
          obtain ⟨v9, e_v9, h⟩ := of_lt h
          refine tr_istore_n hO 72 (v := v9) e_v9 (lv' := [(3, .int v9), (0, .ref (X.1 27 0)), (1, .int a1), (2, .int a2)]) hn rfl (by decide) rfl dX8_wagon_72 ?_
          refine tr_aload_n hO 73 1 rfl dX8_wagon_73 ?_
          refine tr_get hO 74 (k := 0) (x_v0 (by decide)) rfl rfl iX8 (by decide) wF_X8_7 rfl rfl dX8_wagon_74 ?_
          refine tr_sipush hO 77 (v := 330) (by decide) dX8_wagon_77 ?_
          refine tr_iconst hO 80 (v := 4) (by decide) dX8_wagon_80 ?_
          refine tr_iload_n hO 81 0 rfl dX8_wagon_81 ?_
          refine tr_imul hO 82 dX8_wagon_82 ?_
          refine tr_iadd hO 83 dX8_wagon_83 ?_
          refine tr_iload_n hO 84 3 rfl dX8_wagon_84 ?_
          obtain ⟨hg, h⟩ := of_gd h
          obtain ⟨μ10, e_μ10, h⟩ := of_lt h
          refine tr_iast hO 85 e_μ10 (x_v0 (by decide)) a_28 hg dX8_wagon_85 ?_
          refine tr_aload_n hO 86 1 rfl dX8_wagon_86 ?_
          refine tr_get hO 87 (k := 0) (x_v0 (by decide)) rfl rfl iX8 (by decide) wF_X8_7 rfl rfl dX8_wagon_87 ?_
          refine tr_sipush hO 90 (v := 330) (by decide) dX8_wagon_90 ?_
          refine tr_iconst hO 93 (v := 4) (by decide) dX8_wagon_93 ?_
          refine tr_iload_n hO 94 0 rfl dX8_wagon_94 ?_
          refine tr_imul hO 95 dX8_wagon_95 ?_
          refine tr_iadd hO 96 dX8_wagon_96 ?_
          refine tr_iconst hO 97 (v := 1) (by decide) dX8_wagon_97 ?_
          refine tr_iadd hO 98 dX8_wagon_98 ?_
          refine tr_bipush hO 99 (v := (-6)) (by decide) dX8_wagon_99 ?_
          obtain ⟨hg, h⟩ := of_gd h
          obtain ⟨μ11, e_μ11, h⟩ := of_lt h
          refine tr_iast hO 101 e_μ11 (x_v0 (by decide)) a_28 hg dX8_wagon_101 ?_
          refine tr_aload_n hO 102 1 rfl dX8_wagon_102 ?_
          refine tr_get hO 103 (k := 0) (x_v0 (by decide)) rfl rfl iX8 (by decide) wF_X8_7 rfl rfl dX8_wagon_103 ?_
          refine tr_bipush hO 106 (v := 8) (by decide) dX8_wagon_106 ?_
          refine tr_dup2 hO 108 rfl rfl dX8_wagon_108 ?_
          refine tr_iald hO 109 (x_v0 (by decide)) a_28 (by decide) dX8_wagon_109 ?_
          refine tr_iconst hO 110 (v := 1) (by decide) dX8_wagon_110 ?_
          refine tr_iadd hO 111 dX8_wagon_111 ?_
          obtain ⟨μ12, e_μ12, h⟩ := of_lt h
          refine tr_iast hO 112 e_μ12 (x_v0 (by decide)) a_28 (by decide) dX8_wagon_112 ?_
          refine tr_bipush hO 113 (v := 60) (by decide) dX8_wagon_113 ?_
          refine tr_bipush hO 115 (v := 30) (by decide) dX8_wagon_115 ?_
          refine tr_iload_n hO 117 2 rfl dX8_wagon_117 ?_
          refine tr_imul hO 118 dX8_wagon_118 ?_
          refine tr_iadd hO 119 dX8_wagon_119 ?_
          obtain ⟨v13, e_v13, h⟩ := of_lt h
          refine tr_istore hO 120 (v := v13) e_v13 (lv' := [(4, .int v13), (3, .int v9), (0, .ref (X.1 27 0)), (1, .int a1), (2, .int a2)]) hn (by decide) rfl dX8_wagon_120 ?_
          refine tr_aload_n hO 122 2 rfl dX8_wagon_122 ?_
          refine tr_iload_n hO 123 3 rfl dX8_wagon_123 ?_
          obtain ⟨v14, μ15, hcall, h⟩ := of_bd h
          refine tr_callI hO 124 (na := 1) (As := [.int a1]) (st := []) (c_X8_manyOn hX  hcall) rfl (x_v0 (by decide)) rfl rfl wM_X8_72 wI_X8_manyOn wS_X8_manyOn wN_X8 wC_X8_manyOn (by decide +kernel) rfl (by decide) (by decide) (Nat.le_of_ble_eq_true rfl) dX8_wagon_124 ?_
          refine tr_istore hO 127 (v := v14) rfl (lv' := [(5, .int v14), (4, .int v13), (3, .int v9), (0, .ref (X.1 27 0)), (1, .int a1), (2, .int a2)]) hn (by decide) rfl dX8_wagon_127 ?_
          obtain ⟨K18, e_K18, h⟩ := of_lt h
          have K18_T : ∀ (μ19 : mT), K18 μ19 = some (r, μ') → tj X Γ μ19 162 [(0, .ref (X.1 27 0)), (1, .int a1), (3, .int v9), (4, .int v13)] [] := by
            intro μ19 h
            rw [e_K18] at h
            refine tr_aload_n hO 162 0 rfl dX8_wagon_162 ?_
            refine tr_get hO 163 (k := 0) (x_v0 (by decide)) rfl rfl iX8 (by decide) wF_X8_7 rfl rfl dX8_wagon_163 ?_
            refine tr_iload hO 166 3 rfl dX8_wagon_166 ?_
            refine tr_iload_n hO 168 2 rfl dX8_wagon_168 ?_
            obtain ⟨hg, h⟩ := of_gd h
            obtain ⟨μ20, e_μ20, h⟩ := of_lt h
            refine tr_iast hO 169 e_μ20 (x_v0 (by decide)) a_28 hg dX8_wagon_169 ?_
            refine tr_aload_n hO 170 0 rfl dX8_wagon_170 ?_
            refine tr_get hO 171 (k := 0) (x_v0 (by decide)) rfl rfl iX8 (by decide) wF_X8_7 rfl rfl dX8_wagon_171 ?_
            refine tr_bipush hO 174 (v := 20) (by decide) dX8_wagon_174 ?_
            refine tr_iconst hO 176 (v := 4) (by decide) dX8_wagon_176 ?_
            refine tr_iload_n hO 177 1 rfl dX8_wagon_177 ?_
            refine tr_imul hO 178 dX8_wagon_178 ?_
            refine tr_iadd hO 179 dX8_wagon_179 ?_
            refine tr_iconst hO 180 (v := 1) (by decide) dX8_wagon_180 ?_
            refine tr_iadd hO 181 dX8_wagon_181 ?_
            refine tr_dup2 hO 182 rfl rfl dX8_wagon_182 ?_
            obtain ⟨hg, h⟩ := of_gd h
            refine tr_iald hO 183 (x_v0 (by decide)) a_28 hg dX8_wagon_183 ?_
            refine tr_iconst hO 184 (v := 1) (by decide) dX8_wagon_184 ?_
            refine tr_iadd hO 185 dX8_wagon_185 ?_
            obtain ⟨hg, h⟩ := of_gd h
            obtain ⟨μ21, e_μ21, h⟩ := of_lt h
            refine tr_iast hO 186 e_μ21 (x_v0 (by decide)) a_28 hg dX8_wagon_186 ?_
            refine tr_iload_n hO 187 2 rfl dX8_wagon_187 ?_
            cases h
            exact tr_iret hO 188 hQ rfl dX8_wagon_188
          have L129_T : ∀ (n : Nat) (v16 : Int32) (μ17 : mT), f_X8_wagon_L129 a1 v9 v13 K18 n v16 μ17 = some (r, μ') → tj X Γ μ17 129 [(0, .ref (X.1 27 0)), (1, .int a1), (3, .int v9), (4, .int v13), (5, .int v16)] [] := by
            intro n
            induction n with
            | zero =>
              intro v16 μ17 h
              rw [f_X8_wagon_L129] at h
              cases h
            | succ n ih =>
              intro v16 μ17 h
              rw [f_X8_wagon_L129] at h
              refine tr_iload hO 129 4 rfl dX8_wagon_129 ?_
              refine tr_if_le hO 131 162 (by decide) dX8_wagon_131 (fun hc => ?_) (fun hc => ?_)
              · have h := of_t hc h
                refine tr_sub [0, 1, 2, 3] rfl ?_
                exact K18_T _ h
              · have h := of_f hc h
                refine tr_aload_n hO 134 0 rfl dX8_wagon_134 ?_
                refine tr_get hO 135 (k := 0) (x_v0 (by decide)) rfl rfl iX8 (by decide) wF_X8_7 rfl rfl dX8_wagon_135 ?_
                refine tr_iload hO 138 3 rfl dX8_wagon_138 ?_
                refine tr_iload hO 140 4 rfl dX8_wagon_140 ?_
                refine tr_iadd hO 142 dX8_wagon_142 ?_
                refine tr_aload_n hO 143 0 rfl dX8_wagon_143 ?_
                refine tr_get hO 144 (k := 0) (x_v0 (by decide)) rfl rfl iX8 (by decide) wF_X8_7 rfl rfl dX8_wagon_144 ?_
                refine tr_iload hO 147 3 rfl dX8_wagon_147 ?_
                refine tr_iload hO 149 4 rfl dX8_wagon_149 ?_
                refine tr_iadd hO 151 dX8_wagon_151 ?_
                refine tr_iconst hO 152 (v := 1) (by decide) dX8_wagon_152 ?_
                refine tr_isub hO 153 dX8_wagon_153 ?_
                obtain ⟨hg, h⟩ := of_gd h
                refine tr_iald hO 154 (x_v0 (by decide)) a_28 hg dX8_wagon_154 ?_
                obtain ⟨hg, h⟩ := of_gd h
                obtain ⟨μ22, e_μ22, h⟩ := of_lt h
                refine tr_iast hO 155 e_μ22 (x_v0 (by decide)) a_28 hg dX8_wagon_155 ?_
                obtain ⟨v23, e_v23, h⟩ := of_lt h
                refine tr_iinc hO 156 (q := 4) (v := v23) (lv' := [(5, .int v23), (0, .ref (X.1 27 0)), (1, .int a1), (3, .int v9), (4, .int v13)]) hn rfl (by rw [e_v23]; rfl) (by decide) rfl dX8_wagon_156 ?_
                refine tr_goto hO 159 129 (by decide) dX8_wagon_159 ?_
                refine tr_sub [1, 2, 3, 4, 0] rfl ?_
                exact ih _ _ h
          refine tr_sub [3, 4, 2, 1, 0] rfl ?_
          exact L129_T _ _ _ h
        · have h := of_f hc h
          refine tr_bipush hO 58 (v := (-5)) (by decide) dX8_wagon_58 ?_
          cases h
          exact tr_iret hO 60 hQ rfl dX8_wagon_60
      · have h := of_t hc h
        refine tr_bipush hO 34 (v := (-4)) (by decide) dX8_wagon_34 ?_
        cases h
        exact tr_iret hO 36 hQ rfl dX8_wagon_36
    · have h := of_t hc h
      refine tr_bipush hO 19 (v := (-2)) (by decide) dX8_wagon_19 ?_
      cases h
      exact tr_iret hO 21 hQ rfl dX8_wagon_21
  · have h := of_t hc h
    refine tr_iconst hO 8 (v := (-1)) (by decide) dX8_wagon_8 ?_
    cases h
    exact tr_iret hO 9 hQ rfl dX8_wagon_9
set_option maxHeartbeats 4000000 in
set_option maxRecDepth 100000 in
theorem c_X8_block {X : xT} (hX : xOK X) {a1 : Int32} {a2 : Int32}  {μ μ' : mT} {r : Int32} (h : f_X8_block a1 a2 μ = some (r, μ')) : CMi X yX8_block cX8_block 3 .int 1 22 [.ref (X.1 27 0), .int a1, .int a2] μ r μ' := by
  refine CMi_of hX (by decide +kernel) (lv := [(0, .ref (X.1 27 0)), (1, .int a1), (2, .int a2)]) (Nat.le_of_ble_eq_true rfl) rfl (fun Γ hO hn hQ => ?_)
  have hO : Ok X RX8 cX8_block 1 22 Γ := hO
  unfold f_X8_block at h
  refine tr_iload_n hO 0 1 rfl dX8_block_0 ?_
  refine tr_aload_n hO 1 0 rfl dX8_block_1 ?_
  refine tr_get hO 2 (k := 0) (x_v0 (by decide)) rfl rfl iX8 (by decide) wF_X8_7 rfl rfl dX8_block_2 ?_
  refine tr_bipush hO 5 (v := 6) (by decide) dX8_block_5 ?_
  refine tr_iald hO 7 (x_v0 (by decide)) a_28 (by decide) dX8_block_7 ?_
  refine tr_aload_n hO 8 0 rfl dX8_block_8 ?_
  refine tr_get hO 9 (k := 0) (x_v0 (by decide)) rfl rfl iX8 (by decide) wF_X8_7 rfl rfl dX8_block_9 ?_
  refine tr_bipush hO 12 (v := 6) (by decide) dX8_block_12 ?_
  refine tr_iald hO 14 (x_v0 (by decide)) a_28 (by decide) dX8_block_14 ?_
  refine tr_sipush hO 15 (v := 2000) (by decide) dX8_block_15 ?_
  refine tr_iadd hO 18 dX8_block_18 ?_
  obtain ⟨v1, μ2, hcall, h⟩ := of_bd h
  refine tr_callS hO 19 (na := 3) (As := [.int a1, .int (μ 28 0 (6 : Int32).toNatClampNeg), .int ((μ 28 0 (6 : Int32).toNatClampNeg) + 2000)]) (st := []) (c_X8_in hX  hcall) rfl wM_X8_55 wT_X8_in wN_X8 wC_X8_in (by decide +kernel) rfl (by decide) (by decide) (Nat.le_of_ble_eq_true rfl) dX8_block_19 ?_
  refine tr_if_eq hO 22 36 (by decide) dX8_block_22 (fun hc => ?_) (fun hc => ?_)
  · have h := of_t hc h
    refine tr_bipush hO 36 (v := (-2)) (by decide) dX8_block_36 ?_
    cases h
    exact tr_iret hO 38 hQ rfl dX8_block_38
  · have h := of_f hc h
    refine tr_iload_n hO 25 2 rfl dX8_block_25 ?_
    refine tr_iconst hO 26 (v := 1) (by decide) dX8_block_26 ?_
    refine tr_sipush hO 27 (v := 500) (by decide) dX8_block_27 ?_
    obtain ⟨v3, μ4, hcall, h⟩ := of_bd h
    refine tr_callS hO 30 (na := 3) (As := [.int a2, .int 1, .int 500]) (st := []) (c_X8_in hX  hcall) rfl wM_X8_55 wT_X8_in wN_X8 wC_X8_in (by decide +kernel) rfl (by decide) (by decide) (Nat.le_of_ble_eq_true rfl) dX8_block_30 ?_
    refine tr_if_ne hO 33 39 (by decide) dX8_block_33 (fun hc => ?_) (fun hc => ?_)
    · have h := of_f hc h
      refine tr_aload_n hO 39 0 rfl dX8_block_39 ?_
      refine tr_get hO 40 (k := 0) (x_v0 (by decide)) rfl rfl iX8 (by decide) wF_X8_7 rfl rfl dX8_block_40 ?_
      refine tr_bipush hO 43 (v := 13) (by decide) dX8_block_43 ?_
      refine tr_iald hO 45 (x_v0 (by decide)) a_28 (by decide) dX8_block_45 ?_
      refine tr_bipush hO 46 (v := 10) (by decide) dX8_block_46 ?_
      refine tr_icmp_ne hO 48 54 (by decide) dX8_block_48 (fun hc => ?_) (fun hc => ?_)
      · have h := of_f hc h
        refine tr_aload_n hO 54 0 rfl dX8_block_54 ?_
        obtain ⟨v5, μ6, hcall, h⟩ := of_bd h
        refine tr_callV hO 55 (na := 0) (As := []) (st := []) (c_X8_record hX  hcall) rfl (x_v0 (by decide)) rfl rfl wM_X8_66 wI_X8_record wS_X8_record wN_X8 wC_X8_record (by decide +kernel) rfl (by decide) (by decide) (Nat.le_of_ble_eq_true rfl) dX8_block_55 ?_
        refine tr_aload_n hO 58 0 rfl dX8_block_58 ?_
        refine tr_get hO 59 (k := 0) (x_v0 (by decide)) rfl rfl iX8 (by decide) wF_X8_7 rfl rfl dX8_block_59 ?_
        refine tr_sipush hO 62 (v := 530) (by decide) dX8_block_62 ?_
        refine tr_iconst hO 65 (v := 2) (by decide) dX8_block_65 ?_
        refine tr_aload_n hO 66 0 rfl dX8_block_66 ?_
        refine tr_get hO 67 (k := 0) (x_v0 (by decide)) rfl rfl iX8 (by decide) wF_X8_7 rfl rfl dX8_block_67 ?_
        refine tr_bipush hO 70 (v := 13) (by decide) dX8_block_70 ?_
        refine tr_iald hO 72 (x_v0 (by decide)) a_28 (by decide) dX8_block_72 ?_
        refine tr_imul hO 73 dX8_block_73 ?_
        refine tr_iadd hO 74 dX8_block_74 ?_
        refine tr_iload_n hO 75 1 rfl dX8_block_75 ?_
        obtain ⟨hg, h⟩ := of_gd h
        obtain ⟨μ7, e_μ7, h⟩ := of_lt h
        refine tr_iast hO 76 e_μ7 (x_v0 (by decide)) a_28 hg dX8_block_76 ?_
        refine tr_aload_n hO 77 0 rfl dX8_block_77 ?_
        refine tr_get hO 78 (k := 0) (x_v0 (by decide)) rfl rfl iX8 (by decide) wF_X8_7 rfl rfl dX8_block_78 ?_
        refine tr_sipush hO 81 (v := 530) (by decide) dX8_block_81 ?_
        refine tr_iconst hO 84 (v := 2) (by decide) dX8_block_84 ?_
        refine tr_aload_n hO 85 0 rfl dX8_block_85 ?_
        refine tr_get hO 86 (k := 0) (x_v0 (by decide)) rfl rfl iX8 (by decide) wF_X8_7 rfl rfl dX8_block_86 ?_
        refine tr_bipush hO 89 (v := 13) (by decide) dX8_block_89 ?_
        refine tr_iald hO 91 (x_v0 (by decide)) a_28 (by decide) dX8_block_91 ?_
        refine tr_imul hO 92 dX8_block_92 ?_
        refine tr_iadd hO 93 dX8_block_93 ?_
        refine tr_iconst hO 94 (v := 1) (by decide) dX8_block_94 ?_
        refine tr_iadd hO 95 dX8_block_95 ?_
        refine tr_iload_n hO 96 1 rfl dX8_block_96 ?_
        refine tr_iload_n hO 97 2 rfl dX8_block_97 ?_
        refine tr_iadd hO 98 dX8_block_98 ?_
        obtain ⟨hg, h⟩ := of_gd h
        obtain ⟨μ8, e_μ8, h⟩ := of_lt h
        refine tr_iast hO 99 e_μ8 (x_v0 (by decide)) a_28 hg dX8_block_99 ?_
        refine tr_aload_n hO 100 0 rfl dX8_block_100 ?_
        refine tr_get hO 101 (k := 0) (x_v0 (by decide)) rfl rfl iX8 (by decide) wF_X8_7 rfl rfl dX8_block_101 ?_
        refine tr_bipush hO 104 (v := 13) (by decide) dX8_block_104 ?_
        refine tr_dup2 hO 106 rfl rfl dX8_block_106 ?_
        refine tr_iald hO 107 (x_v0 (by decide)) a_28 (by decide) dX8_block_107 ?_
        refine tr_iconst hO 108 (v := 1) (by decide) dX8_block_108 ?_
        refine tr_iadd hO 109 dX8_block_109 ?_
        obtain ⟨μ9, e_μ9, h⟩ := of_lt h
        refine tr_iast hO 110 e_μ9 (x_v0 (by decide)) a_28 (by decide) dX8_block_110 ?_
        refine tr_aload_n hO 111 0 rfl dX8_block_111 ?_
        refine tr_get hO 112 (k := 0) (x_v0 (by decide)) rfl rfl iX8 (by decide) wF_X8_7 rfl rfl dX8_block_112 ?_
        refine tr_bipush hO 115 (v := 13) (by decide) dX8_block_115 ?_
        refine tr_iald hO 117 (x_v0 (by decide)) a_28 (by decide) dX8_block_117 ?_
        cases h
        exact tr_iret hO 118 hQ rfl dX8_block_118
      · have h := of_t hc h
        refine tr_bipush hO 51 (v := (-4)) (by decide) dX8_block_51 ?_
        cases h
        exact tr_iret hO 53 hQ rfl dX8_block_53
    · have h := of_t hc h
      refine tr_bipush hO 36 (v := (-2)) (by decide) dX8_block_36 ?_
      cases h
      exact tr_iret hO 38 hQ rfl dX8_block_38
set_option maxHeartbeats 4000000 in
set_option maxRecDepth 100000 in
theorem c_X8_freeAt {X : xT} (hX : xOK X) {a1 : Int32} {a2 : Int32}  {μ μ' : mT} {r : Int32} (h : f_X8_freeAt a1 a2 μ = some (r, μ')) : CMi X yX8_freeAt cX8_freeAt 8 .int 0 0 [.ref (X.1 27 0), .int a1, .int a2] μ r μ' := by
  refine CMi_of hX (by decide +kernel) (lv := [(0, .ref (X.1 27 0)), (1, .int a1), (2, .int a2)]) (Nat.le_of_ble_eq_true rfl) rfl (fun Γ hO hn hQ => ?_)
  have hO : Ok X RX8 cX8_freeAt 0 0 Γ := hO
  unfold f_X8_freeAt at h
  refine tr_iload_n hO 0 1 rfl dX8_freeAt_0 ?_
  refine tr_istore_n hO 1 (v := a1) rfl (lv' := [(3, .int a1), (0, .ref (X.1 27 0)), (1, .int a1), (2, .int a2)]) hn rfl (by decide) rfl dX8_freeAt_1 ?_
  refine tr_iconst hO 2 (v := 1) (by decide) dX8_freeAt_2 ?_
  refine tr_istore hO 3 (v := 1) rfl (lv' := [(4, .int 1), (3, .int a1), (0, .ref (X.1 27 0)), (1, .int a1), (2, .int a2)]) hn (by decide) rfl dX8_freeAt_3 ?_
  have L5_T : ∀ (n : Nat) (v1 : Int32) (v2 : Int32) (μ3 : mT), f_X8_freeAt_L5 a2 n v1 v2 μ3 = some (r, μ') → tj X Γ μ3 5 [(0, .ref (X.1 27 0)), (2, .int a2), (3, .int v1), (4, .int v2)] [] := by
    intro n
    induction n with
    | zero =>
      intro v1 v2 μ3 h
      rw [f_X8_freeAt_L5] at h
      cases h
    | succ n ih =>
      intro v1 v2 μ3 h
      rw [f_X8_freeAt_L5] at h
      refine tr_iload hO 5 3 rfl dX8_freeAt_5 ?_
      refine tr_if_eq hO 7 89 (by decide) dX8_freeAt_7 (fun hc => ?_) (fun hc => ?_)
      · have h := of_t hc h
        refine tr_iload_n hO 89 2 rfl dX8_freeAt_89 ?_
        cases h
        exact tr_iret hO 90 hQ rfl dX8_freeAt_90
      · have h := of_f hc h
        refine tr_iconst hO 10 (v := 0) (by decide) dX8_freeAt_10 ?_
        refine tr_istore hO 11 (v := 0) rfl (lv' := [(4, .int 0), (0, .ref (X.1 27 0)), (2, .int a2), (3, .int v1)]) hn (by decide) rfl dX8_freeAt_11 ?_
        refine tr_iconst hO 13 (v := 0) (by decide) dX8_freeAt_13 ?_
        refine tr_istore hO 14 (v := 0) rfl (lv' := [(5, .int 0), (4, .int 0), (0, .ref (X.1 27 0)), (2, .int a2), (3, .int v1)]) hn (by decide) rfl dX8_freeAt_14 ?_
        obtain ⟨K8, e_K8, h⟩ := of_lt h
        have K8_T : ∀ (v9 : Int32) (v10 : Int32) (μ11 : mT), K8 v9 v10 μ11 = some (r, μ') → tj X Γ μ11 86 [(0, .ref (X.1 27 0)), (2, .int a2), (3, .int v9), (4, .int v10)] [] := by
          intro v9 v10 μ11 h
          rw [e_K8] at h
          refine tr_goto hO 86 5 (by decide) dX8_freeAt_86 ?_
          exact ih _ _ _ h
        have L16_T : ∀ (n : Nat) (v4 : Int32) (v5 : Int32) (v6 : Int32) (μ7 : mT), f_X8_freeAt_L16 a2 K8 n v4 v5 v6 μ7 = some (r, μ') → tj X Γ μ7 16 [(0, .ref (X.1 27 0)), (2, .int a2), (3, .int v4), (4, .int v5), (5, .int v6)] [] := by
          intro n
          induction n with
          | zero =>
            intro v4 v5 v6 μ7 h
            rw [f_X8_freeAt_L16] at h
            cases h
          | succ n ih =>
            intro v4 v5 v6 μ7 h
            rw [f_X8_freeAt_L16] at h
            refine tr_iload hO 16 4 rfl dX8_freeAt_16 ?_
            refine tr_aload_n hO 18 0 rfl dX8_freeAt_18 ?_
            refine tr_get hO 19 (k := 0) (x_v0 (by decide)) rfl rfl iX8 (by decide) wF_X8_7 rfl rfl dX8_freeAt_19 ?_
            refine tr_bipush hO 22 (v := 13) (by decide) dX8_freeAt_22 ?_
            refine tr_iald hO 24 (x_v0 (by decide)) a_28 (by decide) dX8_freeAt_24 ?_
            refine tr_icmp_ge hO 25 86 (by decide) dX8_freeAt_25 (fun hc => ?_) (fun hc => ?_)
            · have h := of_t hc h
              refine tr_sub [0, 1, 2, 3] rfl ?_
              exact K8_T _ _ _ h
            · have h := of_f hc h
              refine tr_aload_n hO 28 0 rfl dX8_freeAt_28 ?_
              refine tr_get hO 29 (k := 0) (x_v0 (by decide)) rfl rfl iX8 (by decide) wF_X8_7 rfl rfl dX8_freeAt_29 ?_
              refine tr_sipush hO 32 (v := 530) (by decide) dX8_freeAt_32 ?_
              refine tr_iconst hO 35 (v := 2) (by decide) dX8_freeAt_35 ?_
              refine tr_iload hO 36 4 rfl dX8_freeAt_36 ?_
              refine tr_imul hO 38 dX8_freeAt_38 ?_
              refine tr_iadd hO 39 dX8_freeAt_39 ?_
              obtain ⟨hg, h⟩ := of_gd h
              refine tr_iald hO 40 (x_v0 (by decide)) a_28 hg dX8_freeAt_40 ?_
              obtain ⟨v12, e_v12, h⟩ := of_lt h
              refine tr_istore hO 41 (v := v12) e_v12 (lv' := [(6, .int v12), (0, .ref (X.1 27 0)), (2, .int a2), (3, .int v4), (4, .int v5), (5, .int v6)]) hn (by decide) rfl dX8_freeAt_41 ?_
              refine tr_aload_n hO 43 1 rfl dX8_freeAt_43 ?_
              refine tr_get hO 44 (k := 0) (x_v0 (by decide)) rfl rfl iX8 (by decide) wF_X8_7 rfl rfl dX8_freeAt_44 ?_
              refine tr_sipush hO 47 (v := 530) (by decide) dX8_freeAt_47 ?_
              refine tr_iconst hO 50 (v := 2) (by decide) dX8_freeAt_50 ?_
              refine tr_iload hO 51 5 rfl dX8_freeAt_51 ?_
              refine tr_imul hO 53 dX8_freeAt_53 ?_
              refine tr_iadd hO 54 dX8_freeAt_54 ?_
              refine tr_iconst hO 55 (v := 1) (by decide) dX8_freeAt_55 ?_
              refine tr_iadd hO 56 dX8_freeAt_56 ?_
              obtain ⟨hg, h⟩ := of_gd h
              refine tr_iald hO 57 (x_v0 (by decide)) a_28 hg dX8_freeAt_57 ?_
              obtain ⟨v13, e_v13, h⟩ := of_lt h
              refine tr_istore hO 58 (v := v13) e_v13 (lv' := [(7, .int v13), (6, .int v12), (0, .ref (X.1 27 0)), (2, .int a2), (3, .int v4), (4, .int v5), (5, .int v6)]) hn (by decide) rfl dX8_freeAt_58 ?_
              refine tr_iload hO 60 1 rfl dX8_freeAt_60 ?_
              refine tr_iload_n hO 62 4 rfl dX8_freeAt_62 ?_
              refine tr_iload_n hO 63 3 rfl dX8_freeAt_63 ?_
              refine tr_iadd hO 64 dX8_freeAt_64 ?_
              obtain ⟨J14, e_J14, h⟩ := of_lt h
              have J14_T : ∀ (v15 : Int32) (v16 : Int32) (μ17 : mT), J14 v15 v16 μ17 = some (r, μ') → tj X Γ μ17 80 [(0, .ref (X.1 27 0)), (2, .int a2), (3, .int v15), (4, .int v16), (5, .int v6)] [] := by
                intro v15 v16 μ17 h
                rw [e_J14] at h
                obtain ⟨v18, e_v18, h⟩ := of_lt h
                refine tr_iinc hO 80 (q := 4) (v := v18) (lv' := [(5, .int v18), (0, .ref (X.1 27 0)), (2, .int a2), (3, .int v15), (4, .int v16)]) hn rfl (by rw [e_v18]; rfl) (by decide) rfl dX8_freeAt_80 ?_
                refine tr_goto hO 83 16 (by decide) dX8_freeAt_83 ?_
                refine tr_sub [1, 2, 3, 4, 0] rfl ?_
                exact ih _ _ _ _ h
              refine tr_icmp_ge hO 65 80 (by decide) dX8_freeAt_65 (fun hc => ?_) (fun hc => ?_)
              · have h := of_t hc h
                refine tr_sub [2, 3, 4, 5, 6] rfl ?_
                exact J14_T _ _ _ h
              · have h := of_f hc h
                refine tr_iload hO 68 0 rfl dX8_freeAt_68 ?_
                refine tr_iload_n hO 70 4 rfl dX8_freeAt_70 ?_
                refine tr_icmp_le hO 71 80 (by decide) dX8_freeAt_71 (fun hc => ?_) (fun hc => ?_)
                · have h := of_t hc h
                  refine tr_sub [2, 3, 4, 5, 6] rfl ?_
                  exact J14_T _ _ _ h
                · have h := of_f hc h
                  refine tr_iload hO 74 0 rfl dX8_freeAt_74 ?_
                  refine tr_istore_n hO 76 (v := v13) rfl (lv' := [(3, .int v13), (7, .int v13), (6, .int v12), (0, .ref (X.1 27 0)), (2, .int a2), (4, .int v5), (5, .int v6)]) hn rfl (by decide) rfl dX8_freeAt_76 ?_
                  refine tr_iconst hO 77 (v := 1) (by decide) dX8_freeAt_77 ?_
                  refine tr_istore hO 78 (v := 1) rfl (lv' := [(4, .int 1), (3, .int v13), (7, .int v13), (6, .int v12), (0, .ref (X.1 27 0)), (2, .int a2), (5, .int v6)]) hn (by decide) rfl dX8_freeAt_78 ?_
                  refine tr_sub [4, 5, 1, 0, 6] rfl ?_
                  exact J14_T _ _ _ h
        refine tr_sub [2, 3, 4, 1, 0] rfl ?_
        exact L16_T _ _ _ _ _ h
  refine tr_sub [2, 4, 1, 0] rfl ?_
  exact L5_T _ _ _ _ h
set_option maxHeartbeats 4000000 in
set_option maxRecDepth 100000 in
theorem c_X8_comeTo {X : xT} (hX : xOK X) {a1 : Int32}  {μ μ' : mT} {r : Int32} (h : f_X8_comeTo a1 μ = some (r, μ')) : CMv X yX8_comeTo cX8_comeTo 4 0 0 [.ref (X.1 27 0), .int a1] μ μ' := by
  refine CMv_of hX (by decide +kernel) (lv := [(0, .ref (X.1 27 0)), (1, .int a1)]) (Nat.le_of_ble_eq_true rfl) rfl (fun Γ hO hn hQ => ?_)
  have hO : Ok X RX8 cX8_comeTo 0 0 Γ := hO
  unfold f_X8_comeTo at h
  refine tr_aload_n hO 0 0 rfl dX8_comeTo_0 ?_
  refine tr_get hO 1 (k := 0) (x_v0 (by decide)) rfl rfl iX8 (by decide) wF_X8_7 rfl rfl dX8_comeTo_1 ?_
  refine tr_bipush hO 4 (v := 6) (by decide) dX8_comeTo_4 ?_
  refine tr_iload_n hO 6 1 rfl dX8_comeTo_6 ?_
  obtain ⟨μ1, e_μ1, h⟩ := of_lt h
  refine tr_iast hO 7 e_μ1 (x_v0 (by decide)) a_28 (by decide) dX8_comeTo_7 ?_
  refine tr_iconst hO 8 (v := 0) (by decide) dX8_comeTo_8 ?_
  refine tr_istore_n hO 9 (v := 0) rfl (lv' := [(2, .int 0), (0, .ref (X.1 27 0)), (1, .int a1)]) hn rfl (by decide) rfl dX8_comeTo_9 ?_
  refine tr_iconst hO 10 (v := 0) (by decide) dX8_comeTo_10 ?_
  refine tr_istore_n hO 11 (v := 0) rfl (lv' := [(3, .int 0), (2, .int 0), (0, .ref (X.1 27 0)), (1, .int a1)]) hn rfl (by decide) rfl dX8_comeTo_11 ?_
  obtain ⟨K5, e_K5, h⟩ := of_lt h
  have K5_T : ∀ (v6 : Int32) (μ7 : mT), K5 v6 μ7 = some (r, μ') → tj X Γ μ7 102 [(0, .ref (X.1 27 0)), (2, .int v6)] [] := by
    intro v6 μ7 h
    rw [e_K5] at h
    refine tr_aload_n hO 102 0 rfl dX8_comeTo_102 ?_
    refine tr_get hO 103 (k := 0) (x_v0 (by decide)) rfl rfl iX8 (by decide) wF_X8_7 rfl rfl dX8_comeTo_103 ?_
    refine tr_bipush hO 106 (v := 13) (by decide) dX8_comeTo_106 ?_
    refine tr_iload_n hO 108 1 rfl dX8_comeTo_108 ?_
    obtain ⟨μ8, e_μ8, h⟩ := of_lt h
    refine tr_iast hO 109 e_μ8 (x_v0 (by decide)) a_28 (by decide) dX8_comeTo_109 ?_
    cases h
    exact tr_vret hO 110 hQ dX8_comeTo_110
  have L12_T : ∀ (n : Nat) (v2 : Int32) (v3 : Int32) (μ4 : mT), f_X8_comeTo_L12 a1 K5 n v2 v3 μ4 = some (r, μ') → tj X Γ μ4 12 [(0, .ref (X.1 27 0)), (1, .int a1), (2, .int v2), (3, .int v3)] [] := by
    intro n
    induction n with
    | zero =>
      intro v2 v3 μ4 h
      rw [f_X8_comeTo_L12] at h
      cases h
    | succ n ih =>
      intro v2 v3 μ4 h
      rw [f_X8_comeTo_L12] at h
      refine tr_iload_n hO 12 3 rfl dX8_comeTo_12 ?_
      refine tr_aload_n hO 13 0 rfl dX8_comeTo_13 ?_
      refine tr_get hO 14 (k := 0) (x_v0 (by decide)) rfl rfl iX8 (by decide) wF_X8_7 rfl rfl dX8_comeTo_14 ?_
      refine tr_bipush hO 17 (v := 13) (by decide) dX8_comeTo_17 ?_
      refine tr_iald hO 19 (x_v0 (by decide)) a_28 (by decide) dX8_comeTo_19 ?_
      refine tr_icmp_ge hO 20 102 (by decide) dX8_comeTo_20 (fun hc => ?_) (fun hc => ?_)
      · have h := of_t hc h
        refine tr_sub [0, 2] rfl ?_
        exact K5_T _ _ h
      · have h := of_f hc h
        refine tr_aload_n hO 23 0 rfl dX8_comeTo_23 ?_
        refine tr_get hO 24 (k := 0) (x_v0 (by decide)) rfl rfl iX8 (by decide) wF_X8_7 rfl rfl dX8_comeTo_24 ?_
        refine tr_sipush hO 27 (v := 530) (by decide) dX8_comeTo_27 ?_
        refine tr_iconst hO 30 (v := 2) (by decide) dX8_comeTo_30 ?_
        refine tr_iload_n hO 31 3 rfl dX8_comeTo_31 ?_
        refine tr_imul hO 32 dX8_comeTo_32 ?_
        refine tr_iadd hO 33 dX8_comeTo_33 ?_
        refine tr_iconst hO 34 (v := 1) (by decide) dX8_comeTo_34 ?_
        refine tr_iadd hO 35 dX8_comeTo_35 ?_
        obtain ⟨hg, h⟩ := of_gd h
        refine tr_iald hO 36 (x_v0 (by decide)) a_28 hg dX8_comeTo_36 ?_
        refine tr_iload_n hO 37 1 rfl dX8_comeTo_37 ?_
        obtain ⟨J9, e_J9, h⟩ := of_lt h
        have J9_T : ∀ (v10 : Int32) (μ11 : mT), J9 v10 μ11 = some (r, μ') → tj X Γ μ11 96 [(0, .ref (X.1 27 0)), (1, .int a1), (2, .int v10), (3, .int v3)] [] := by
          intro v10 μ11 h
          rw [e_J9] at h
          obtain ⟨v12, e_v12, h⟩ := of_lt h
          refine tr_iinc hO 96 (q := 3) (v := v12) (lv' := [(3, .int v12), (0, .ref (X.1 27 0)), (1, .int a1), (2, .int v10)]) hn rfl (by rw [e_v12]; rfl) (by decide) rfl dX8_comeTo_96 ?_
          refine tr_goto hO 99 12 (by decide) dX8_comeTo_99 ?_
          refine tr_sub [1, 2, 3, 0] rfl ?_
          exact ih _ _ _ h
        refine tr_icmp_le hO 38 96 (by decide) dX8_comeTo_38 (fun hc => ?_) (fun hc => ?_)
        · have h := of_t hc h
          exact J9_T _ _ h
        · have h := of_f hc h
          refine tr_aload_n hO 41 0 rfl dX8_comeTo_41 ?_
          refine tr_get hO 42 (k := 0) (x_v0 (by decide)) rfl rfl iX8 (by decide) wF_X8_7 rfl rfl dX8_comeTo_42 ?_
          refine tr_sipush hO 45 (v := 530) (by decide) dX8_comeTo_45 ?_
          refine tr_iconst hO 48 (v := 2) (by decide) dX8_comeTo_48 ?_
          refine tr_iload_n hO 49 2 rfl dX8_comeTo_49 ?_
          refine tr_imul hO 50 dX8_comeTo_50 ?_
          refine tr_iadd hO 51 dX8_comeTo_51 ?_
          refine tr_aload_n hO 52 0 rfl dX8_comeTo_52 ?_
          refine tr_get hO 53 (k := 0) (x_v0 (by decide)) rfl rfl iX8 (by decide) wF_X8_7 rfl rfl dX8_comeTo_53 ?_
          refine tr_sipush hO 56 (v := 530) (by decide) dX8_comeTo_56 ?_
          refine tr_iconst hO 59 (v := 2) (by decide) dX8_comeTo_59 ?_
          refine tr_iload_n hO 60 3 rfl dX8_comeTo_60 ?_
          refine tr_imul hO 61 dX8_comeTo_61 ?_
          refine tr_iadd hO 62 dX8_comeTo_62 ?_
          obtain ⟨hg, h⟩ := of_gd h
          refine tr_iald hO 63 (x_v0 (by decide)) a_28 hg dX8_comeTo_63 ?_
          obtain ⟨hg, h⟩ := of_gd h
          obtain ⟨μ13, e_μ13, h⟩ := of_lt h
          refine tr_iast hO 64 e_μ13 (x_v0 (by decide)) a_28 hg dX8_comeTo_64 ?_
          refine tr_aload_n hO 65 0 rfl dX8_comeTo_65 ?_
          refine tr_get hO 66 (k := 0) (x_v0 (by decide)) rfl rfl iX8 (by decide) wF_X8_7 rfl rfl dX8_comeTo_66 ?_
          refine tr_sipush hO 69 (v := 530) (by decide) dX8_comeTo_69 ?_
          refine tr_iconst hO 72 (v := 2) (by decide) dX8_comeTo_72 ?_
          refine tr_iload_n hO 73 2 rfl dX8_comeTo_73 ?_
          refine tr_imul hO 74 dX8_comeTo_74 ?_
          refine tr_iadd hO 75 dX8_comeTo_75 ?_
          refine tr_iconst hO 76 (v := 1) (by decide) dX8_comeTo_76 ?_
          refine tr_iadd hO 77 dX8_comeTo_77 ?_
          refine tr_aload_n hO 78 0 rfl dX8_comeTo_78 ?_
          refine tr_get hO 79 (k := 0) (x_v0 (by decide)) rfl rfl iX8 (by decide) wF_X8_7 rfl rfl dX8_comeTo_79 ?_
          refine tr_sipush hO 82 (v := 530) (by decide) dX8_comeTo_82 ?_
          refine tr_iconst hO 85 (v := 2) (by decide) dX8_comeTo_85 ?_
          refine tr_iload_n hO 86 3 rfl dX8_comeTo_86 ?_
          refine tr_imul hO 87 dX8_comeTo_87 ?_
          refine tr_iadd hO 88 dX8_comeTo_88 ?_
          refine tr_iconst hO 89 (v := 1) (by decide) dX8_comeTo_89 ?_
          refine tr_iadd hO 90 dX8_comeTo_90 ?_
          obtain ⟨hg, h⟩ := of_gd h
          refine tr_iald hO 91 (x_v0 (by decide)) a_28 hg dX8_comeTo_91 ?_
          obtain ⟨hg, h⟩ := of_gd h
          obtain ⟨μ14, e_μ14, h⟩ := of_lt h
          refine tr_iast hO 92 e_μ14 (x_v0 (by decide)) a_28 hg dX8_comeTo_92 ?_
          obtain ⟨v15, e_v15, h⟩ := of_lt h
          refine tr_iinc hO 93 (q := 2) (v := v15) (lv' := [(2, .int v15), (0, .ref (X.1 27 0)), (1, .int a1), (3, .int v3)]) hn rfl (by rw [e_v15]; rfl) (by decide) rfl dX8_comeTo_93 ?_
          refine tr_sub [1, 2, 0, 3] rfl ?_
          exact J9_T _ _ h
  refine tr_sub [2, 3, 1, 0] rfl ?_
  exact L12_T _ _ _ _ h
set_option maxHeartbeats 4000000 in
set_option maxRecDepth 100000 in
theorem c_X8_take {X : xT} (hX : xOK X) {a1 : Int32} {a2 : Int32}  {μ μ' : mT} {r : Int32} (h : f_X8_take a1 a2 μ = some (r, μ')) : CMv X yX8_take cX8_take 5 1 27 [.ref (X.1 27 0), .int a1, .int a2] μ μ' := by
  refine CMv_of hX (by decide +kernel) (lv := [(0, .ref (X.1 27 0)), (1, .int a1), (2, .int a2)]) (Nat.le_of_ble_eq_true rfl) rfl (fun Γ hO hn hQ => ?_)
  have hO : Ok X RX8 cX8_take 1 27 Γ := hO
  unfold f_X8_take at h
  refine tr_iload_n hO 0 1 rfl dX8_take_0 ?_
  refine tr_iload_n hO 1 2 rfl dX8_take_1 ?_
  refine tr_aload_n hO 2 0 rfl dX8_take_2 ?_
  refine tr_get hO 3 (k := 0) (x_v0 (by decide)) rfl rfl iX8 (by decide) wF_X8_7 rfl rfl dX8_take_3 ?_
  refine tr_iconst hO 6 (v := 3) (by decide) dX8_take_6 ?_
  refine tr_iald hO 7 (x_v0 (by decide)) a_28 (by decide) dX8_take_7 ?_
  refine tr_imul hO 8 dX8_take_8 ?_
  refine tr_iadd hO 9 dX8_take_9 ?_
  obtain ⟨v1, e_v1, h⟩ := of_lt h
  refine tr_istore_n hO 10 (v := v1) e_v1 (lv' := [(3, .int v1), (0, .ref (X.1 27 0)), (1, .int a1), (2, .int a2)]) hn rfl (by decide) rfl dX8_take_10 ?_
  refine tr_aload_n hO 11 1 rfl dX8_take_11 ?_
  refine tr_aload_n hO 12 1 rfl dX8_take_12 ?_
  refine tr_get hO 13 (k := 0) (x_v0 (by decide)) rfl rfl iX8 (by decide) wF_X8_7 rfl rfl dX8_take_13 ?_
  refine tr_bipush hO 16 (v := 6) (by decide) dX8_take_16 ?_
  refine tr_iald hO 18 (x_v0 (by decide)) a_28 (by decide) dX8_take_18 ?_
  refine tr_iload_n hO 19 0 rfl dX8_take_19 ?_
  obtain ⟨v2, μ3, hcall, h⟩ := of_bd h
  refine tr_callI hO 20 (na := 2) (As := [.int (μ 28 0 (6 : Int32).toNatClampNeg), .int v1]) (st := []) (c_X8_freeAt hX  hcall) rfl (x_v0 (by decide)) rfl rfl wM_X8_86 wI_X8_freeAt wS_X8_freeAt wN_X8 wC_X8_freeAt (by decide +kernel) rfl (by decide) (by decide) (Nat.le_of_ble_eq_true rfl) dX8_take_20 ?_
  refine tr_istore hO 23 (v := v2) rfl (lv' := [(4, .int v2), (3, .int v1), (0, .ref (X.1 27 0)), (1, .int a1), (2, .int a2)]) hn (by decide) rfl dX8_take_23 ?_
  refine tr_aload_n hO 25 2 rfl dX8_take_25 ?_
  refine tr_get hO 26 (k := 0) (x_v0 (by decide)) rfl rfl iX8 (by decide) wF_X8_7 rfl rfl dX8_take_26 ?_
  refine tr_bipush hO 29 (v := 16) (by decide) dX8_take_29 ?_
  refine tr_dup2 hO 31 rfl rfl dX8_take_31 ?_
  refine tr_iald hO 32 (x_v0 (by decide)) a_28 (by decide) dX8_take_32 ?_
  refine tr_iload hO 33 0 rfl dX8_take_33 ?_
  refine tr_aload_n hO 35 2 rfl dX8_take_35 ?_
  refine tr_get hO 36 (k := 0) (x_v0 (by decide)) rfl rfl iX8 (by decide) wF_X8_7 rfl rfl dX8_take_36 ?_
  refine tr_bipush hO 39 (v := 6) (by decide) dX8_take_39 ?_
  refine tr_iald hO 41 (x_v0 (by decide)) a_28 (by decide) dX8_take_41 ?_
  refine tr_isub hO 42 dX8_take_42 ?_
  refine tr_iadd hO 43 dX8_take_43 ?_
  obtain ⟨μ4, e_μ4, h⟩ := of_lt h
  refine tr_iast hO 44 e_μ4 (x_v0 (by decide)) a_28 (by decide) dX8_take_44 ?_
  refine tr_aload_n hO 45 2 rfl dX8_take_45 ?_
  refine tr_get hO 46 (k := 0) (x_v0 (by decide)) rfl rfl iX8 (by decide) wF_X8_7 rfl rfl dX8_take_46 ?_
  refine tr_bipush hO 49 (v := 14) (by decide) dX8_take_49 ?_
  refine tr_dup2 hO 51 rfl rfl dX8_take_51 ?_
  refine tr_iald hO 52 (x_v0 (by decide)) a_28 (by decide) dX8_take_52 ?_
  refine tr_iload_n hO 53 4 rfl dX8_take_53 ?_
  refine tr_iadd hO 54 dX8_take_54 ?_
  obtain ⟨μ5, e_μ5, h⟩ := of_lt h
  refine tr_iast hO 55 e_μ5 (x_v0 (by decide)) a_28 (by decide) dX8_take_55 ?_
  refine tr_aload_n hO 56 2 rfl dX8_take_56 ?_
  refine tr_get hO 57 (k := 0) (x_v0 (by decide)) rfl rfl iX8 (by decide) wF_X8_7 rfl rfl dX8_take_57 ?_
  refine tr_bipush hO 60 (v := 15) (by decide) dX8_take_60 ?_
  refine tr_dup2 hO 62 rfl rfl dX8_take_62 ?_
  refine tr_iald hO 63 (x_v0 (by decide)) a_28 (by decide) dX8_take_63 ?_
  refine tr_iconst hO 64 (v := 1) (by decide) dX8_take_64 ?_
  refine tr_iadd hO 65 dX8_take_65 ?_
  obtain ⟨μ6, e_μ6, h⟩ := of_lt h
  refine tr_iast hO 66 e_μ6 (x_v0 (by decide)) a_28 (by decide) dX8_take_66 ?_
  refine tr_aload_n hO 67 2 rfl dX8_take_67 ?_
  refine tr_iload hO 68 0 rfl dX8_take_68 ?_
  refine tr_iload_n hO 70 1 rfl dX8_take_70 ?_
  refine tr_iadd hO 71 dX8_take_71 ?_
  obtain ⟨v7, μ8, hcall, h⟩ := of_bd h
  refine tr_callV hO 72 (na := 1) (As := [.int (v2 + v1)]) (st := []) (c_X8_comeTo hX  hcall) rfl (x_v0 (by decide)) rfl rfl wM_X8_89 wI_X8_comeTo wS_X8_comeTo wN_X8 wC_X8_comeTo (by decide +kernel) rfl (by decide) (by decide) (Nat.le_of_ble_eq_true rfl) dX8_take_72 ?_
  cases h
  exact tr_vret hO 75 hQ dX8_take_75
set_option maxHeartbeats 4000000 in
set_option maxRecDepth 100000 in
theorem c_X8_drawOut {X : xT} (hX : xOK X) {a1 : Int32} {a2 : Int32}  {μ μ' : mT} {r : Int32} (h : f_X8_drawOut a1 a2 μ = some (r, μ')) : CMi X yX8_drawOut cX8_drawOut 6 .int 1 21 [.ref (X.1 27 0), .int a1, .int a2] μ r μ' := by
  refine CMi_of hX (by decide +kernel) (lv := [(0, .ref (X.1 27 0)), (1, .int a1), (2, .int a2)]) (Nat.le_of_ble_eq_true rfl) rfl (fun Γ hO hn hQ => ?_)
  have hO : Ok X RX8 cX8_drawOut 1 21 Γ := hO
  unfold f_X8_drawOut at h
  refine tr_bipush hO 0 (v := 60) (by decide) dX8_drawOut_0 ?_
  refine tr_bipush hO 2 (v := 30) (by decide) dX8_drawOut_2 ?_
  refine tr_iload_n hO 4 1 rfl dX8_drawOut_4 ?_
  refine tr_imul hO 5 dX8_drawOut_5 ?_
  refine tr_iadd hO 6 dX8_drawOut_6 ?_
  obtain ⟨v1, e_v1, h⟩ := of_lt h
  refine tr_istore_n hO 7 (v := v1) e_v1 (lv' := [(3, .int v1), (0, .ref (X.1 27 0)), (1, .int a1), (2, .int a2)]) hn rfl (by decide) rfl dX8_drawOut_7 ?_
  refine tr_aload_n hO 8 1 rfl dX8_drawOut_8 ?_
  refine tr_iload_n hO 9 2 rfl dX8_drawOut_9 ?_
  obtain ⟨v2, μ3, hcall, h⟩ := of_bd h
  refine tr_callI hO 10 (na := 1) (As := [.int a1]) (st := []) (c_X8_manyOn hX  hcall) rfl (x_v0 (by decide)) rfl rfl wM_X8_72 wI_X8_manyOn wS_X8_manyOn wN_X8 wC_X8_manyOn (by decide +kernel) rfl (by decide) (by decide) (Nat.le_of_ble_eq_true rfl) dX8_drawOut_10 ?_
  refine tr_iload_n hO 13 3 rfl dX8_drawOut_13 ?_
  refine tr_isub hO 14 dX8_drawOut_14 ?_
  obtain ⟨v4, e_v4, h⟩ := of_lt h
  refine tr_istore hO 15 (v := v4) e_v4 (lv' := [(4, .int v4), (3, .int v1), (0, .ref (X.1 27 0)), (1, .int a1), (2, .int a2)]) hn (by decide) rfl dX8_drawOut_15 ?_
  refine tr_iconst hO 17 (v := 0) (by decide) dX8_drawOut_17 ?_
  refine tr_istore hO 18 (v := 0) rfl (lv' := [(5, .int 0), (4, .int v4), (3, .int v1), (0, .ref (X.1 27 0)), (1, .int a1), (2, .int a2)]) hn (by decide) rfl dX8_drawOut_18 ?_
  obtain ⟨K7, e_K7, h⟩ := of_lt h
  have K7_T : ∀ (μ8 : mT), K7 μ8 = some (r, μ') → tj X Γ μ8 86 [(0, .ref (X.1 27 0)), (1, .int a1), (2, .int a2), (3, .int v1), (4, .int v4)] [] := by
    intro μ8 h
    rw [e_K7] at h
    refine tr_iconst hO 86 (v := 0) (by decide) dX8_drawOut_86 ?_
    refine tr_istore hO 87 (v := 0) rfl (lv' := [(5, .int 0), (0, .ref (X.1 27 0)), (1, .int a1), (2, .int a2), (3, .int v1), (4, .int v4)]) hn (by decide) rfl dX8_drawOut_87 ?_
    obtain ⟨K11, e_K11, h⟩ := of_lt h
    have K11_T : ∀ (μ12 : mT), K11 μ12 = some (r, μ') → tj X Γ μ12 122 [(0, .ref (X.1 27 0)), (1, .int a1), (2, .int a2), (4, .int v4)] [] := by
      intro μ12 h
      rw [e_K11] at h
      refine tr_aload_n hO 122 0 rfl dX8_drawOut_122 ?_
      refine tr_get hO 123 (k := 0) (x_v0 (by decide)) rfl rfl iX8 (by decide) wF_X8_7 rfl rfl dX8_drawOut_123 ?_
      refine tr_bipush hO 126 (v := 9) (by decide) dX8_drawOut_126 ?_
      refine tr_dup2 hO 128 rfl rfl dX8_drawOut_128 ?_
      refine tr_iald hO 129 (x_v0 (by decide)) a_28 (by decide) dX8_drawOut_129 ?_
      refine tr_iload_n hO 130 2 rfl dX8_drawOut_130 ?_
      refine tr_iadd hO 131 dX8_drawOut_131 ?_
      obtain ⟨μ13, e_μ13, h⟩ := of_lt h
      refine tr_iast hO 132 e_μ13 (x_v0 (by decide)) a_28 (by decide) dX8_drawOut_132 ?_
      refine tr_aload_n hO 133 0 rfl dX8_drawOut_133 ?_
      refine tr_get hO 134 (k := 0) (x_v0 (by decide)) rfl rfl iX8 (by decide) wF_X8_7 rfl rfl dX8_drawOut_134 ?_
      refine tr_bipush hO 137 (v := 20) (by decide) dX8_drawOut_137 ?_
      refine tr_iconst hO 139 (v := 4) (by decide) dX8_drawOut_139 ?_
      refine tr_iload_n hO 140 1 rfl dX8_drawOut_140 ?_
      refine tr_imul hO 141 dX8_drawOut_141 ?_
      refine tr_iadd hO 142 dX8_drawOut_142 ?_
      refine tr_iconst hO 143 (v := 1) (by decide) dX8_drawOut_143 ?_
      refine tr_iadd hO 144 dX8_drawOut_144 ?_
      refine tr_iload hO 145 3 rfl dX8_drawOut_145 ?_
      obtain ⟨hg, h⟩ := of_gd h
      obtain ⟨μ14, e_μ14, h⟩ := of_lt h
      refine tr_iast hO 147 e_μ14 (x_v0 (by decide)) a_28 hg dX8_drawOut_147 ?_
      refine tr_aload_n hO 148 0 rfl dX8_drawOut_148 ?_
      refine tr_get hO 149 (k := 0) (x_v0 (by decide)) rfl rfl iX8 (by decide) wF_X8_7 rfl rfl dX8_drawOut_149 ?_
      refine tr_bipush hO 152 (v := 20) (by decide) dX8_drawOut_152 ?_
      refine tr_iconst hO 154 (v := 4) (by decide) dX8_drawOut_154 ?_
      refine tr_iload_n hO 155 1 rfl dX8_drawOut_155 ?_
      refine tr_imul hO 156 dX8_drawOut_156 ?_
      refine tr_iadd hO 157 dX8_drawOut_157 ?_
      refine tr_iconst hO 158 (v := 2) (by decide) dX8_drawOut_158 ?_
      refine tr_iadd hO 159 dX8_drawOut_159 ?_
      refine tr_dup2 hO 160 rfl rfl dX8_drawOut_160 ?_
      obtain ⟨hg, h⟩ := of_gd h
      refine tr_iald hO 161 (x_v0 (by decide)) a_28 hg dX8_drawOut_161 ?_
      refine tr_iload_n hO 162 2 rfl dX8_drawOut_162 ?_
      refine tr_iadd hO 163 dX8_drawOut_163 ?_
      obtain ⟨hg, h⟩ := of_gd h
      obtain ⟨μ15, e_μ15, h⟩ := of_lt h
      refine tr_iast hO 164 e_μ15 (x_v0 (by decide)) a_28 hg dX8_drawOut_164 ?_
      refine tr_iload hO 165 3 rfl dX8_drawOut_165 ?_
      refine tr_if_le hO 167 174 (by decide) dX8_drawOut_167 (fun hc => ?_) (fun hc => ?_)
      · have h := of_t hc h
        refine tr_iconst hO 174 (v := 1) (by decide) dX8_drawOut_174 ?_
        cases h
        exact tr_iret hO 175 hQ rfl dX8_drawOut_175
      · have h := of_f hc h
        refine tr_iconst hO 170 (v := 2) (by decide) dX8_drawOut_170 ?_
        refine tr_goto hO 171 175 (by decide) dX8_drawOut_171 ?_
        cases h
        exact tr_iret hO 175 hQ rfl dX8_drawOut_175
    have L89_T : ∀ (n : Nat) (v9 : Int32) (μ10 : mT), f_X8_drawOut_L89 a1 a2 v1 v4 K11 n v9 μ10 = some (r, μ') → tj X Γ μ10 89 [(0, .ref (X.1 27 0)), (1, .int a1), (2, .int a2), (3, .int v1), (4, .int v4), (5, .int v9)] [] := by
      intro n
      induction n with
      | zero =>
        intro v9 μ10 h
        rw [f_X8_drawOut_L89] at h
        cases h
      | succ n ih =>
        intro v9 μ10 h
        rw [f_X8_drawOut_L89] at h
        refine tr_iload hO 89 5 rfl dX8_drawOut_89 ?_
        refine tr_iload hO 91 4 rfl dX8_drawOut_91 ?_
        refine tr_icmp_ge hO 93 122 (by decide) dX8_drawOut_93 (fun hc => ?_) (fun hc => ?_)
        · have h := of_t hc h
          refine tr_sub [0, 1, 2, 4] rfl ?_
          exact K11_T _ h
        · have h := of_f hc h
          refine tr_aload_n hO 96 0 rfl dX8_drawOut_96 ?_
          refine tr_get hO 97 (k := 0) (x_v0 (by decide)) rfl rfl iX8 (by decide) wF_X8_7 rfl rfl dX8_drawOut_97 ?_
          refine tr_iload_n hO 100 3 rfl dX8_drawOut_100 ?_
          refine tr_iload hO 101 5 rfl dX8_drawOut_101 ?_
          refine tr_iadd hO 103 dX8_drawOut_103 ?_
          refine tr_aload_n hO 104 0 rfl dX8_drawOut_104 ?_
          refine tr_get hO 105 (k := 0) (x_v0 (by decide)) rfl rfl iX8 (by decide) wF_X8_7 rfl rfl dX8_drawOut_105 ?_
          refine tr_iload_n hO 108 3 rfl dX8_drawOut_108 ?_
          refine tr_iload hO 109 5 rfl dX8_drawOut_109 ?_
          refine tr_iadd hO 111 dX8_drawOut_111 ?_
          refine tr_iload_n hO 112 2 rfl dX8_drawOut_112 ?_
          refine tr_iadd hO 113 dX8_drawOut_113 ?_
          obtain ⟨hg, h⟩ := of_gd h
          refine tr_iald hO 114 (x_v0 (by decide)) a_28 hg dX8_drawOut_114 ?_
          obtain ⟨hg, h⟩ := of_gd h
          obtain ⟨μ16, e_μ16, h⟩ := of_lt h
          refine tr_iast hO 115 e_μ16 (x_v0 (by decide)) a_28 hg dX8_drawOut_115 ?_
          obtain ⟨v17, e_v17, h⟩ := of_lt h
          refine tr_iinc hO 116 (q := 5) (v := v17) (lv' := [(5, .int v17), (0, .ref (X.1 27 0)), (1, .int a1), (2, .int a2), (3, .int v1), (4, .int v4)]) hn rfl (by rw [e_v17]; rfl) (by decide) rfl dX8_drawOut_116 ?_
          refine tr_goto hO 119 89 (by decide) dX8_drawOut_119 ?_
          refine tr_sub [1, 2, 3, 4, 5, 0] rfl ?_
          exact ih _ _ h
    refine tr_sub [1, 2, 3, 4, 5, 0] rfl ?_
    exact L89_T _ _ _ h
  have L20_T : ∀ (n : Nat) (v5 : Int32) (μ6 : mT), f_X8_drawOut_L20 a1 a2 v1 v4 K7 n v5 μ6 = some (r, μ') → tj X Γ μ6 20 [(0, .ref (X.1 27 0)), (1, .int a1), (2, .int a2), (3, .int v1), (4, .int v4), (5, .int v5)] [] := by
    intro n
    induction n with
    | zero =>
      intro v5 μ6 h
      rw [f_X8_drawOut_L20] at h
      cases h
    | succ n ih =>
      intro v5 μ6 h
      rw [f_X8_drawOut_L20] at h
      refine tr_iload hO 20 5 rfl dX8_drawOut_20 ?_
      refine tr_iload_n hO 22 2 rfl dX8_drawOut_22 ?_
      refine tr_icmp_ge hO 23 86 (by decide) dX8_drawOut_23 (fun hc => ?_) (fun hc => ?_)
      · have h := of_t hc h
        refine tr_sub [0, 1, 2, 3, 4] rfl ?_
        exact K7_T _ h
      · have h := of_f hc h
        refine tr_aload_n hO 26 0 rfl dX8_drawOut_26 ?_
        refine tr_get hO 27 (k := 0) (x_v0 (by decide)) rfl rfl iX8 (by decide) wF_X8_7 rfl rfl dX8_drawOut_27 ?_
        refine tr_sipush hO 30 (v := 300) (by decide) dX8_drawOut_30 ?_
        refine tr_aload_n hO 33 0 rfl dX8_drawOut_33 ?_
        refine tr_get hO 34 (k := 0) (x_v0 (by decide)) rfl rfl iX8 (by decide) wF_X8_7 rfl rfl dX8_drawOut_34 ?_
        refine tr_bipush hO 37 (v := 9) (by decide) dX8_drawOut_37 ?_
        refine tr_iald hO 39 (x_v0 (by decide)) a_28 (by decide) dX8_drawOut_39 ?_
        refine tr_iadd hO 40 dX8_drawOut_40 ?_
        refine tr_iload hO 41 5 rfl dX8_drawOut_41 ?_
        refine tr_iadd hO 43 dX8_drawOut_43 ?_
        refine tr_aload_n hO 44 0 rfl dX8_drawOut_44 ?_
        refine tr_get hO 45 (k := 0) (x_v0 (by decide)) rfl rfl iX8 (by decide) wF_X8_7 rfl rfl dX8_drawOut_45 ?_
        refine tr_iload_n hO 48 3 rfl dX8_drawOut_48 ?_
        refine tr_iload hO 49 5 rfl dX8_drawOut_49 ?_
        refine tr_iadd hO 51 dX8_drawOut_51 ?_
        obtain ⟨hg, h⟩ := of_gd h
        refine tr_iald hO 52 (x_v0 (by decide)) a_28 hg dX8_drawOut_52 ?_
        obtain ⟨hg, h⟩ := of_gd h
        obtain ⟨μ18, e_μ18, h⟩ := of_lt h
        refine tr_iast hO 53 e_μ18 (x_v0 (by decide)) a_28 hg dX8_drawOut_53 ?_
        refine tr_aload_n hO 54 0 rfl dX8_drawOut_54 ?_
        refine tr_get hO 55 (k := 0) (x_v0 (by decide)) rfl rfl iX8 (by decide) wF_X8_7 rfl rfl dX8_drawOut_55 ?_
        refine tr_sipush hO 58 (v := 330) (by decide) dX8_drawOut_58 ?_
        refine tr_iconst hO 61 (v := 4) (by decide) dX8_drawOut_61 ?_
        refine tr_aload_n hO 62 0 rfl dX8_drawOut_62 ?_
        refine tr_get hO 63 (k := 0) (x_v0 (by decide)) rfl rfl iX8 (by decide) wF_X8_7 rfl rfl dX8_drawOut_63 ?_
        refine tr_iload_n hO 66 3 rfl dX8_drawOut_66 ?_
        refine tr_iload hO 67 5 rfl dX8_drawOut_67 ?_
        refine tr_iadd hO 69 dX8_drawOut_69 ?_
        obtain ⟨hg, h⟩ := of_gd h
        refine tr_iald hO 70 (x_v0 (by decide)) a_28 hg dX8_drawOut_70 ?_
        refine tr_imul hO 71 dX8_drawOut_71 ?_
        refine tr_iadd hO 72 dX8_drawOut_72 ?_
        refine tr_iconst hO 73 (v := 2) (by decide) dX8_drawOut_73 ?_
        refine tr_iadd hO 74 dX8_drawOut_74 ?_
        refine tr_dup2 hO 75 rfl rfl dX8_drawOut_75 ?_
        obtain ⟨hg, h⟩ := of_gd h
        refine tr_iald hO 76 (x_v0 (by decide)) a_28 hg dX8_drawOut_76 ?_
        refine tr_iconst hO 77 (v := 1) (by decide) dX8_drawOut_77 ?_
        refine tr_iadd hO 78 dX8_drawOut_78 ?_
        obtain ⟨hg, h⟩ := of_gd h
        obtain ⟨μ19, e_μ19, h⟩ := of_lt h
        refine tr_iast hO 79 e_μ19 (x_v0 (by decide)) a_28 hg dX8_drawOut_79 ?_
        obtain ⟨v20, e_v20, h⟩ := of_lt h
        refine tr_iinc hO 80 (q := 5) (v := v20) (lv' := [(5, .int v20), (0, .ref (X.1 27 0)), (1, .int a1), (2, .int a2), (3, .int v1), (4, .int v4)]) hn rfl (by rw [e_v20]; rfl) (by decide) rfl dX8_drawOut_80 ?_
        refine tr_goto hO 83 20 (by decide) dX8_drawOut_83 ?_
        refine tr_sub [1, 2, 3, 4, 5, 0] rfl ?_
        exact ih _ _ h
  refine tr_sub [3, 4, 5, 2, 1, 0] rfl ?_
  exact L20_T _ _ _ h
