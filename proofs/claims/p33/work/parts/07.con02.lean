set_option maxHeartbeats 4000000 in
set_option maxRecDepth 100000 in
theorem c_X6_letLeave {X : xT} (hX : xOK X) {j : Nat} {a1 : Int32} (hj : j < 11) {μ μ' : mT} {r : Int32} (h : f_X6_letLeave j a1 μ = some (r, μ')) : CMi X yX6_letLeave cX6_letLeave 3 .int 4 89 [.ref (X.1 0 j), .int a1] μ r μ' := by
  refine CMi_of hX (by decide +kernel) (lv := [(0, .ref (X.1 0 j)), (1, .int a1)]) (Nat.le_of_ble_eq_true rfl) rfl (fun Γ hO hn hQ => ?_)
  have hO : Ok X RX6 cX6_letLeave 4 89 Γ := hO
  unfold f_X6_letLeave at h
  refine tr_aload_n hO 0 0 rfl dX6_letLeave_0 ?_
  refine tr_get hO 1 (k := 13) (x_vy (by decide) hj) rfl rfl iX6 (by decide) wF_X6_49 rfl rfl dX6_letLeave_1 ?_
  refine tr_iload_n hO 4 1 rfl dX6_letLeave_4 ?_
  obtain ⟨v1, μ2, hcall, h⟩ := of_bd h
  refine tr_callI hO 5 (na := 1) (As := [.int a1]) (st := []) (c_X3_has hX hj hcall) rfl (x_vy (by decide) hj) rfl rfl wM_X6_174 wI_X3_has wS_X3_has wN_X3 wC_X3_has (by decide +kernel) rfl (by decide) (by decide) (Nat.le_of_ble_eq_true rfl) dX6_letLeave_5 ?_
  refine tr_if_ne hO 8 13 (by decide) dX6_letLeave_8 (fun hc => ?_) (fun hc => ?_)
  · have h := of_f hc h
    refine tr_aload_n hO 13 0 rfl dX6_letLeave_13 ?_
    refine tr_iload_n hO 14 1 rfl dX6_letLeave_14 ?_
    obtain ⟨v3, μ4, hcall, h⟩ := of_bd h
    refine tr_callI hO 15 (na := 1) (As := [.int a1]) (st := []) (c_X6_couldLeave hX hj hcall) rfl (x_vy (by decide) hj) rfl rfl wM_X6_180 wI_X6_couldLeave wS_X6_couldLeave wN_X6 wC_X6_couldLeave (by decide +kernel) rfl (by decide) (by decide) (Nat.le_of_ble_eq_true rfl) dX6_letLeave_15 ?_
    refine tr_if_ne hO 18 24 (by decide) dX6_letLeave_18 (fun hc => ?_) (fun hc => ?_)
    · have h := of_f hc h
      refine tr_iconst hO 24 (v := 0) (by decide) dX6_letLeave_24 ?_
      refine tr_aload_n hO 25 0 rfl dX6_letLeave_25 ?_
      refine tr_get hO 26 (k := 0) (x_vy (by decide) hj) rfl rfl iX6 (by decide) wF_X6_53 rfl rfl dX6_letLeave_26 ?_
      refine tr_aload_n hO 29 0 rfl dX6_letLeave_29 ?_
      refine tr_get hO 30 (k := 13) (x_vy (by decide) hj) rfl rfl iX6 (by decide) wF_X6_49 rfl rfl dX6_letLeave_30 ?_
      refine tr_getN hO 33 (k := 1) (x_vy (by decide) hj) rfl rfl iX3 (by decide) (host := RX7) (by decide +kernel) rfl rfl dX6_letLeave_33 ?_
      refine tr_iload_n hO 36 1 rfl dX6_letLeave_36 ?_
      obtain ⟨hg, h⟩ := of_gd h
      refine tr_iald hO 37 (x_vy (by decide) hj) a_15 hg dX6_letLeave_37 ?_
      refine tr_isub hO 38 dX6_letLeave_38 ?_
      refine tr_max hO 39 wM_X6_186 (Nat.le_of_ble_eq_true rfl) (by decide) (by decide) dX6_letLeave_39 ?_
      obtain ⟨v5, e_v5, h⟩ := of_lt h
      refine tr_istore_n hO 42 (v := v5) e_v5 (lv' := [(2, .int v5), (0, .ref (X.1 0 j)), (1, .int a1)]) hn rfl (by decide) rfl dX6_letLeave_42 ?_
      refine tr_aload_n hO 43 1 rfl dX6_letLeave_43 ?_
      refine tr_dup hO 44 rfl dX6_letLeave_44 ?_
      refine tr_get hO 45 (k := 4) (x_vy (by decide) hj) rfl rfl iX6 (by decide) wF_X6_66 rfl rfl dX6_letLeave_45 ?_
      refine tr_iload_n hO 48 0 rfl dX6_letLeave_48 ?_
      refine tr_aload_n hO 49 1 rfl dX6_letLeave_49 ?_
      refine tr_get hO 50 (k := 6) (x_vy (by decide) hj) rfl rfl iX6 (by decide) wF_X6_18 rfl rfl dX6_letLeave_50 ?_
      refine tr_iconst hO 53 (v := 5) (by decide) dX6_letLeave_53 ?_
      refine tr_iald hO 54 (x_vy (by decide) hj) a_4 (by decide) dX6_letLeave_54 ?_
      refine tr_imul hO 55 dX6_letLeave_55 ?_
      refine tr_iadd hO 56 dX6_letLeave_56 ?_
      obtain ⟨μ6, e_μ6, h⟩ := of_lt h
      refine tr_put hO 57 (k := 4) (ty := .int) e_μ6 (x_vy (by decide) hj) rfl rfl rfl iX6 tyX6 tyX6_ok nmX6 (by decide) wF_X6_66 rfl rfl (by decide +kernel) rfl rfl (Nat.le_of_ble_eq_true rfl) dX6_letLeave_57 ?_
      refine tr_aload_n hO 60 1 rfl dX6_letLeave_60 ?_
      refine tr_get hO 61 (k := 11) (x_vy (by decide) hj) rfl rfl iX6 (by decide) wF_X6_35 rfl rfl dX6_letLeave_61 ?_
      refine tr_aload_n hO 64 1 rfl dX6_letLeave_64 ?_
      refine tr_get hO 65 (k := 0) (x_vy (by decide) hj) rfl rfl iX6 (by decide) wF_X6_53 rfl rfl dX6_letLeave_65 ?_
      obtain ⟨v7, μ8, hcall, h⟩ := of_bd h
      refine tr_callV hO 68 (na := 1) (As := [.int (μ6 0 j 0)]) (st := []) (c_X5_engineLeaves hX hj hcall) rfl (x_vy (by decide) hj) rfl rfl wM_X6_191 wI_X5_engineLeaves wS_X5_engineLeaves wN_X5 wC_X5_engineLeaves (by decide +kernel) rfl (by decide) (by decide) (Nat.le_of_ble_eq_true rfl) dX6_letLeave_68 ?_
      refine tr_aload_n hO 71 1 rfl dX6_letLeave_71 ?_
      refine tr_get hO 72 (k := 13) (x_vy (by decide) hj) rfl rfl iX6 (by decide) wF_X6_49 rfl rfl dX6_letLeave_72 ?_
      refine tr_iload_n hO 75 2 rfl dX6_letLeave_75 ?_
      obtain ⟨v9, μ10, hcall, h⟩ := of_bd h
      refine tr_callV hO 76 (na := 1) (As := [.int a1]) (st := []) (c_X3_remove hX hj hcall) rfl (x_vy (by decide) hj) rfl rfl wM_X6_177 wI_X3_remove wS_X3_remove wN_X3 wC_X3_remove (by decide +kernel) rfl (by decide) (by decide) (Nat.le_of_ble_eq_true rfl) dX6_letLeave_76 ?_
      refine tr_aload_n hO 79 1 rfl dX6_letLeave_79 ?_
      refine tr_dup hO 80 rfl dX6_letLeave_80 ?_
      refine tr_get hO 81 (k := 5) (x_vy (by decide) hj) rfl rfl iX6 (by decide) wF_X6_69 rfl rfl dX6_letLeave_81 ?_
      refine tr_iconst hO 84 (v := 1) (by decide) dX6_letLeave_84 ?_
      refine tr_iadd hO 85 dX6_letLeave_85 ?_
      obtain ⟨μ11, e_μ11, h⟩ := of_lt h
      refine tr_put hO 86 (k := 5) (ty := .int) e_μ11 (x_vy (by decide) hj) rfl rfl rfl iX6 tyX6 tyX6_ok nmX6 (by decide) wF_X6_69 rfl rfl (by decide +kernel) rfl rfl (Nat.le_of_ble_eq_true rfl) dX6_letLeave_86 ?_
      refine tr_iload_n hO 89 0 rfl dX6_letLeave_89 ?_
      cases h
      exact tr_iret hO 90 hQ rfl dX6_letLeave_90
    · have h := of_t hc h
      refine tr_bipush hO 21 (v := (-5)) (by decide) dX6_letLeave_21 ?_
      cases h
      exact tr_iret hO 23 hQ rfl dX6_letLeave_23
  · have h := of_t hc h
    refine tr_iconst hO 11 (v := (-1)) (by decide) dX6_letLeave_11 ?_
    cases h
    exact tr_iret hO 12 hQ rfl dX6_letLeave_12
set_option maxHeartbeats 4000000 in
set_option maxRecDepth 100000 in
theorem c_X6_aboutTrack {X : xT} (hX : xOK X) {j : Nat} {a1 : Int32} {a2 : Int32} (hj : j < 11) {μ μ' : mT} {r : Int32} (h : f_X6_aboutTrack j a1 a2 μ = some (r, μ')) : CMi X yX6_aboutTrack cX6_aboutTrack 3 .int 1 23 [.ref (X.1 0 j), .int a1, .int a2] μ r μ' := by
  refine CMi_of hX (by decide +kernel) (lv := [(0, .ref (X.1 0 j)), (1, .int a1), (2, .int a2)]) (Nat.le_of_ble_eq_true rfl) rfl (fun Γ hO hn hQ => ?_)
  have hO : Ok X RX6 cX6_aboutTrack 1 23 Γ := hO
  unfold f_X6_aboutTrack at h
  refine tr_aload_n hO 0 0 rfl dX6_aboutTrack_0 ?_
  refine tr_iload_n hO 1 1 rfl dX6_aboutTrack_1 ?_
  obtain ⟨v1, μ2, hcall, h⟩ := of_bd h
  refine tr_callI hO 2 (na := 1) (As := [.int a1]) (st := []) (c_X6_hasTrack hX hj hcall) rfl (x_vy (by decide) hj) rfl rfl wM_X6_97 wI_X6_hasTrack wS_X6_hasTrack wN_X6 wC_X6_hasTrack (by decide +kernel) rfl (by decide) (by decide) (Nat.le_of_ble_eq_true rfl) dX6_aboutTrack_2 ?_
  refine tr_if_ne hO 5 10 (by decide) dX6_aboutTrack_5 (fun hc => ?_) (fun hc => ?_)
  · have h := of_f hc h
    refine tr_iload_n hO 10 2 rfl dX6_aboutTrack_10 ?_
    by_cases hs0 : a2 = 0
    · have h := of_t hs0 h
      refine tr_tabIn hO 11 44 (by rw [hs0]; decide) (by rw [hs0]; decide) (by rw [hs0]; rfl) (by decide) dX6_aboutTrack_11 ?_
      refine tr_aload_n hO 44 0 rfl dX6_aboutTrack_44 ?_
      refine tr_get hO 45 (k := 8) (x_vy (by decide) hj) rfl rfl iX6 (by decide) wF_X6_23 rfl rfl dX6_aboutTrack_45 ?_
      refine tr_iload_n hO 48 1 rfl dX6_aboutTrack_48 ?_
      obtain ⟨hg, h⟩ := of_gd h
      refine tr_iald hO 49 (x_vy (by decide) hj) a_5 hg dX6_aboutTrack_49 ?_
      cases h
      exact tr_iret hO 50 hQ rfl dX6_aboutTrack_50
    have h := of_f hs0 h
    by_cases hs1 : a2 = 1
    · have h := of_t hs1 h
      refine tr_tabIn hO 11 51 (by rw [hs1]; decide) (by rw [hs1]; decide) (by rw [hs1]; rfl) (by decide) dX6_aboutTrack_11 ?_
      refine tr_aload_n hO 51 0 rfl dX6_aboutTrack_51 ?_
      refine tr_get hO 52 (k := 11) (x_vy (by decide) hj) rfl rfl iX6 (by decide) wF_X6_35 rfl rfl dX6_aboutTrack_52 ?_
      refine tr_iload_n hO 55 1 rfl dX6_aboutTrack_55 ?_
      obtain ⟨v3, μ4, hcall, h⟩ := of_bd h
      refine tr_callI hO 56 (na := 1) (As := [.int a1]) (st := []) (c_X5_manyIn hX hj hcall) rfl (x_vy (by decide) hj) rfl rfl wM_X6_121 wI_X5_manyIn wS_X5_manyIn wN_X5 wC_X5_manyIn (by decide +kernel) rfl (by decide) (by decide) (Nat.le_of_ble_eq_true rfl) dX6_aboutTrack_56 ?_
      cases h
      exact tr_iret hO 59 hQ rfl dX6_aboutTrack_59
    have h := of_f hs1 h
    by_cases hs2 : a2 = 2
    · have h := of_t hs2 h
      refine tr_tabIn hO 11 60 (by rw [hs2]; decide) (by rw [hs2]; decide) (by rw [hs2]; rfl) (by decide) dX6_aboutTrack_11 ?_
      refine tr_aload_n hO 60 0 rfl dX6_aboutTrack_60 ?_
      refine tr_get hO 61 (k := 11) (x_vy (by decide) hj) rfl rfl iX6 (by decide) wF_X6_35 rfl rfl dX6_aboutTrack_61 ?_
      refine tr_iload_n hO 64 1 rfl dX6_aboutTrack_64 ?_
      obtain ⟨v5, μ6, hcall, h⟩ := of_bd h
      refine tr_callI hO 65 (na := 1) (As := [.int a1]) (st := []) (c_X5_lengthOfRow hX hj hcall) rfl (x_vy (by decide) hj) rfl rfl wM_X6_104 wI_X5_lengthOfRow wS_X5_lengthOfRow wN_X5 wC_X5_lengthOfRow (by decide +kernel) rfl (by decide) (by decide) (Nat.le_of_ble_eq_true rfl) dX6_aboutTrack_65 ?_
      cases h
      exact tr_iret hO 68 hQ rfl dX6_aboutTrack_68
    have h := of_f hs2 h
    by_cases hs3 : a2 = 3
    · have h := of_t hs3 h
      refine tr_tabIn hO 11 69 (by rw [hs3]; decide) (by rw [hs3]; decide) (by rw [hs3]; rfl) (by decide) dX6_aboutTrack_11 ?_
      refine tr_aload_n hO 69 0 rfl dX6_aboutTrack_69 ?_
      refine tr_get hO 70 (k := 9) (x_vy (by decide) hj) rfl rfl iX6 (by decide) wF_X6_26 rfl rfl dX6_aboutTrack_70 ?_
      refine tr_iload_n hO 73 1 rfl dX6_aboutTrack_73 ?_
      obtain ⟨hg, h⟩ := of_gd h
      refine tr_iald hO 74 (x_vy (by decide) hj) a_6 hg dX6_aboutTrack_74 ?_
      cases h
      exact tr_iret hO 75 hQ rfl dX6_aboutTrack_75
    have h := of_f hs3 h
    by_cases hs4 : a2 = 4
    · have h := of_t hs4 h
      refine tr_tabIn hO 11 76 (by rw [hs4]; decide) (by rw [hs4]; decide) (by rw [hs4]; rfl) (by decide) dX6_aboutTrack_11 ?_
      refine tr_aload_n hO 76 0 rfl dX6_aboutTrack_76 ?_
      refine tr_get hO 77 (k := 10) (x_vy (by decide) hj) rfl rfl iX6 (by decide) wF_X6_29 rfl rfl dX6_aboutTrack_77 ?_
      refine tr_iload_n hO 80 1 rfl dX6_aboutTrack_80 ?_
      obtain ⟨hg, h⟩ := of_gd h
      refine tr_iald hO 81 (x_vy (by decide) hj) a_7 hg dX6_aboutTrack_81 ?_
      cases h
      exact tr_iret hO 82 hQ rfl dX6_aboutTrack_82
    have h := of_f hs4 h
    have hn_hs0 : ¬ a2.toInt = 0 := i_ne (by decide) hs0
    have hn_hs1 : ¬ a2.toInt = 1 := i_ne (by decide) hs1
    have hn_hs2 : ¬ a2.toInt = 2 := i_ne (by decide) hs2
    have hn_hs3 : ¬ a2.toInt = 3 := i_ne (by decide) hs3
    have hn_hs4 : ¬ a2.toInt = 4 := i_ne (by decide) hs4
    have hsw : a2.toInt < 0 ∨ (4 : Int) < a2.toInt := by omega
    refine tr_tabD hO 11 83 (by
      rcases hsw with hsw | hsw
      · exact Or.inl hsw
      · exact Or.inr (Or.inl hsw)
      ) (by decide) dX6_aboutTrack_11 ?_
    refine tr_bipush hO 83 (v := (-2)) (by decide) dX6_aboutTrack_83 ?_
    cases h
    exact tr_iret hO 85 hQ rfl dX6_aboutTrack_85
  · have h := of_t hc h
    refine tr_iconst hO 8 (v := (-1)) (by decide) dX6_aboutTrack_8 ?_
    cases h
    exact tr_iret hO 9 hQ rfl dX6_aboutTrack_9
set_option maxHeartbeats 4000000 in
set_option maxRecDepth 100000 in
theorem c_X6_aboutWagon {X : xT} (hX : xOK X) {j : Nat} {a1 : Int32} {a2 : Int32} (hj : j < 11) {μ μ' : mT} {r : Int32} (h : f_X6_aboutWagon j a1 a2 μ = some (r, μ')) : CMi X yX6_aboutWagon cX6_aboutWagon 5 .int 2 46 [.ref (X.1 0 j), .int a1, .int a2] μ r μ' := by
  refine CMi_of hX (by decide +kernel) (lv := [(0, .ref (X.1 0 j)), (1, .int a1), (2, .int a2)]) (Nat.le_of_ble_eq_true rfl) rfl (fun Γ hO hn hQ => ?_)
  have hO : Ok X RX6 cX6_aboutWagon 2 46 Γ := hO
  unfold f_X6_aboutWagon at h
  refine tr_iload_n hO 0 1 rfl dX6_aboutWagon_0 ?_
  refine tr_if_lt hO 1 15 (by decide) dX6_aboutWagon_1 (fun hc => ?_) (fun hc => ?_)
  · have h := of_t hc h
    refine tr_iconst hO 15 (v := (-1)) (by decide) dX6_aboutWagon_15 ?_
    cases h
    exact tr_iret hO 16 hQ rfl dX6_aboutWagon_16
  · have h := of_f hc h
    refine tr_iload_n hO 4 1 rfl dX6_aboutWagon_4 ?_
    refine tr_aload_n hO 5 0 rfl dX6_aboutWagon_5 ?_
    refine tr_get hO 6 (k := 11) (x_vy (by decide) hj) rfl rfl iX6 (by decide) wF_X6_35 rfl rfl dX6_aboutWagon_6 ?_
    refine tr_getN hO 9 (k := 0) (x_vy (by decide) hj) rfl rfl iX5 (by decide) (host := RX7) (by decide +kernel) rfl rfl dX6_aboutWagon_9 ?_
    refine tr_icmp_lt hO 12 17 (by decide) dX6_aboutWagon_12 (fun hc => ?_) (fun hc => ?_)
    · have h := of_t hc h
      refine tr_aload_n hO 17 0 rfl dX6_aboutWagon_17 ?_
      refine tr_get hO 18 (k := 11) (x_vy (by decide) hj) rfl rfl iX6 (by decide) wF_X6_35 rfl rfl dX6_aboutWagon_18 ?_
      refine tr_iload_n hO 21 1 rfl dX6_aboutWagon_21 ?_
      obtain ⟨v1, μ2, hcall, h⟩ := of_bd h
      refine tr_callI hO 22 (na := 1) (As := [.int a1]) (st := []) (c_X5_rowOf hX hj hcall) rfl (x_vy (by decide) hj) rfl rfl wM_X6_171 wI_X5_rowOf wS_X5_rowOf wN_X5 wC_X5_rowOf (by decide +kernel) rfl (by decide) (by decide) (Nat.le_of_ble_eq_true rfl) dX6_aboutWagon_22 ?_
      refine tr_istore_n hO 25 (v := v1) rfl (lv' := [(3, .int v1), (0, .ref (X.1 0 j)), (1, .int a1), (2, .int a2)]) hn rfl (by decide) rfl dX6_aboutWagon_25 ?_
      refine tr_iload_n hO 26 0 rfl dX6_aboutWagon_26 ?_
      refine tr_bipush hO 27 (v := (-6)) (by decide) dX6_aboutWagon_27 ?_
      obtain ⟨J3, e_J3, h⟩ := of_lt h
      have J3_T : ∀ (v4 : Int32) (μ5 : mT), J3 v4 μ5 = some (r, μ') → tj X Γ μ5 46 [(0, .ref (X.1 0 j)), (1, .int a1), (2, .int a2), (3, .int v1)] [.int v4] := by
        intro v4 μ5 h
        rw [e_J3] at h
        refine tr_istore hO 46 (v := v4) rfl (lv' := [(4, .int v4), (0, .ref (X.1 0 j)), (1, .int a1), (2, .int a2), (3, .int v1)]) hn (by decide) rfl dX6_aboutWagon_46 ?_
        refine tr_iload_n hO 48 3 rfl dX6_aboutWagon_48 ?_
        by_cases hs0 : a2 = 0
        · have h := of_t hs0 h
          refine tr_tabIn hO 49 96 (by rw [hs0]; decide) (by rw [hs0]; decide) (by rw [hs0]; rfl) (by decide) dX6_aboutWagon_49 ?_
          refine tr_aload_n hO 96 1 rfl dX6_aboutWagon_96 ?_
          refine tr_get hO 97 (k := 11) (x_vy (by decide) hj) rfl rfl iX6 (by decide) wF_X6_35 rfl rfl dX6_aboutWagon_97 ?_
          refine tr_getN hO 100 (k := 2) (x_vy (by decide) hj) rfl rfl iX5 (by decide) (host := RX7) (by decide +kernel) rfl rfl dX6_aboutWagon_100 ?_
          refine tr_iload_n hO 103 2 rfl dX6_aboutWagon_103 ?_
          obtain ⟨hg, h⟩ := of_gd h
          refine tr_iald hO 104 (x_vy (by decide) hj) a_8 hg dX6_aboutWagon_104 ?_
          cases h
          exact tr_iret hO 105 hQ rfl dX6_aboutWagon_105
        have h := of_f hs0 h
        by_cases hs1 : a2 = 1
        · have h := of_t hs1 h
          refine tr_tabIn hO 49 106 (by rw [hs1]; decide) (by rw [hs1]; decide) (by rw [hs1]; rfl) (by decide) dX6_aboutWagon_49 ?_
          refine tr_iload_n hO 106 4 rfl dX6_aboutWagon_106 ?_
          refine tr_bipush hO 107 (v := 8) (by decide) dX6_aboutWagon_107 ?_
          refine tr_icmp_ne hO 109 117 (by decide) dX6_aboutWagon_109 (fun hc => ?_) (fun hc => ?_)
          · have h := of_f hc h
            refine tr_iload_n hO 117 4 rfl dX6_aboutWagon_117 ?_
            cases h
            exact tr_iret hO 118 hQ rfl dX6_aboutWagon_118
          · have h := of_t hc h
            refine tr_bipush hO 112 (v := (-6)) (by decide) dX6_aboutWagon_112 ?_
            refine tr_goto hO 114 118 (by decide) dX6_aboutWagon_114 ?_
            cases h
            exact tr_iret hO 118 hQ rfl dX6_aboutWagon_118
        have h := of_f hs1 h
        by_cases hs2 : a2 = 2
        · have h := of_t hs2 h
          refine tr_tabIn hO 49 119 (by rw [hs2]; decide) (by rw [hs2]; decide) (by rw [hs2]; rfl) (by decide) dX6_aboutWagon_49 ?_
          refine tr_iload hO 119 0 rfl dX6_aboutWagon_119 ?_
          cases h
          exact tr_iret hO 121 hQ rfl dX6_aboutWagon_121
        have h := of_f hs2 h
        by_cases hs3 : a2 = 3
        · have h := of_t hs3 h
          refine tr_tabIn hO 49 122 (by rw [hs3]; decide) (by rw [hs3]; decide) (by rw [hs3]; rfl) (by decide) dX6_aboutWagon_49 ?_
          refine tr_iload_n hO 122 4 rfl dX6_aboutWagon_122 ?_
          refine tr_bipush hO 123 (v := 8) (by decide) dX6_aboutWagon_123 ?_
          refine tr_icmp_ne hO 125 132 (by decide) dX6_aboutWagon_125 (fun hc => ?_) (fun hc => ?_)
          · have h := of_f hc h
            refine tr_iconst hO 132 (v := 0) (by decide) dX6_aboutWagon_132 ?_
            cases h
            exact tr_iret hO 133 hQ rfl dX6_aboutWagon_133
          · have h := of_t hc h
            refine tr_iconst hO 128 (v := 1) (by decide) dX6_aboutWagon_128 ?_
            refine tr_goto hO 129 133 (by decide) dX6_aboutWagon_129 ?_
            cases h
            exact tr_iret hO 133 hQ rfl dX6_aboutWagon_133
        have h := of_f hs3 h
        by_cases hs4 : a2 = 4
        · have h := of_t hs4 h
          refine tr_tabIn hO 49 134 (by rw [hs4]; decide) (by rw [hs4]; decide) (by rw [hs4]; rfl) (by decide) dX6_aboutWagon_49 ?_
          refine tr_iload_n hO 134 4 rfl dX6_aboutWagon_134 ?_
          refine tr_bipush hO 135 (v := (-6)) (by decide) dX6_aboutWagon_135 ?_
          refine tr_icmp_ne hO 137 152 (by decide) dX6_aboutWagon_137 (fun hc => ?_) (fun hc => ?_)
          · have h := of_f hc h
            refine tr_bipush hO 152 (v := (-6)) (by decide) dX6_aboutWagon_152 ?_
            cases h
            exact tr_iret hO 154 hQ rfl dX6_aboutWagon_154
          · have h := of_t hc h
            refine tr_aload_n hO 140 1 rfl dX6_aboutWagon_140 ?_
            refine tr_get hO 141 (k := 11) (x_vy (by decide) hj) rfl rfl iX6 (by decide) wF_X6_35 rfl rfl dX6_aboutWagon_141 ?_
            refine tr_getN hO 144 (k := 3) (x_vy (by decide) hj) rfl rfl iX5 (by decide) (host := RX7) (by decide +kernel) rfl rfl dX6_aboutWagon_144 ?_
            refine tr_iload_n hO 147 2 rfl dX6_aboutWagon_147 ?_
            obtain ⟨hg, h⟩ := of_gd h
            refine tr_iald hO 148 (x_vy (by decide) hj) a_9 hg dX6_aboutWagon_148 ?_
            refine tr_goto hO 149 154 (by decide) dX6_aboutWagon_149 ?_
            cases h
            exact tr_iret hO 154 hQ rfl dX6_aboutWagon_154
        have h := of_f hs4 h
        by_cases hs5 : a2 = 5
        · have h := of_t hs5 h
          refine tr_tabIn hO 49 155 (by rw [hs5]; decide) (by rw [hs5]; decide) (by rw [hs5]; rfl) (by decide) dX6_aboutWagon_49 ?_
          refine tr_aload_n hO 155 1 rfl dX6_aboutWagon_155 ?_
          refine tr_get hO 156 (k := 11) (x_vy (by decide) hj) rfl rfl iX6 (by decide) wF_X6_35 rfl rfl dX6_aboutWagon_156 ?_
          refine tr_getN hO 159 (k := 4) (x_vy (by decide) hj) rfl rfl iX5 (by decide) (host := RX7) (by decide +kernel) rfl rfl dX6_aboutWagon_159 ?_
          refine tr_iload_n hO 162 2 rfl dX6_aboutWagon_162 ?_
          obtain ⟨hg, h⟩ := of_gd h
          refine tr_iald hO 163 (x_vy (by decide) hj) a_10 hg dX6_aboutWagon_163 ?_
          cases h
          exact tr_iret hO 164 hQ rfl dX6_aboutWagon_164
        have h := of_f hs5 h
        by_cases hs6 : a2 = 6
        · have h := of_t hs6 h
          refine tr_tabIn hO 49 165 (by rw [hs6]; decide) (by rw [hs6]; decide) (by rw [hs6]; rfl) (by decide) dX6_aboutWagon_49 ?_
          refine tr_aload_n hO 165 1 rfl dX6_aboutWagon_165 ?_
          refine tr_get hO 166 (k := 13) (x_vy (by decide) hj) rfl rfl iX6 (by decide) wF_X6_49 rfl rfl dX6_aboutWagon_166 ?_
          refine tr_iload_n hO 169 2 rfl dX6_aboutWagon_169 ?_
          obtain ⟨v6, μ7, hcall, h⟩ := of_bd h
          refine tr_callI hO 170 (na := 1) (As := [.int a1]) (st := []) (c_X3_trainOf hX hj hcall) rfl (x_vy (by decide) hj) rfl rfl wM_X6_165 wI_X3_trainOf wS_X3_trainOf wN_X3 wC_X3_trainOf (by decide +kernel) rfl (by decide) (by decide) (Nat.le_of_ble_eq_true rfl) dX6_aboutWagon_170 ?_
          cases h
          exact tr_iret hO 173 hQ rfl dX6_aboutWagon_173
        have h := of_f hs6 h
        by_cases hs7 : a2 = 7
        · have h := of_t hs7 h
          refine tr_tabIn hO 49 174 (by rw [hs7]; decide) (by rw [hs7]; decide) (by rw [hs7]; rfl) (by decide) dX6_aboutWagon_49 ?_
          refine tr_iload_n hO 174 4 rfl dX6_aboutWagon_174 ?_
          refine tr_bipush hO 175 (v := 8) (by decide) dX6_aboutWagon_175 ?_
          refine tr_icmp_ne hO 177 185 (by decide) dX6_aboutWagon_177 (fun hc => ?_) (fun hc => ?_)
          · have h := of_f hc h
            refine tr_iload hO 185 0 rfl dX6_aboutWagon_185 ?_
            cases h
            exact tr_iret hO 187 hQ rfl dX6_aboutWagon_187
          · have h := of_t hc h
            refine tr_bipush hO 180 (v := (-6)) (by decide) dX6_aboutWagon_180 ?_
            refine tr_goto hO 182 187 (by decide) dX6_aboutWagon_182 ?_
            cases h
            exact tr_iret hO 187 hQ rfl dX6_aboutWagon_187
        have h := of_f hs7 h
        have hn_hs0 : ¬ a2.toInt = 0 := i_ne (by decide) hs0
        have hn_hs1 : ¬ a2.toInt = 1 := i_ne (by decide) hs1
        have hn_hs2 : ¬ a2.toInt = 2 := i_ne (by decide) hs2
        have hn_hs3 : ¬ a2.toInt = 3 := i_ne (by decide) hs3
        have hn_hs4 : ¬ a2.toInt = 4 := i_ne (by decide) hs4
        have hn_hs5 : ¬ a2.toInt = 5 := i_ne (by decide) hs5
        have hn_hs6 : ¬ a2.toInt = 6 := i_ne (by decide) hs6
        have hn_hs7 : ¬ a2.toInt = 7 := i_ne (by decide) hs7
        have hsw : a2.toInt < 0 ∨ (7 : Int) < a2.toInt := by omega
        refine tr_tabD hO 49 188 (by
          rcases hsw with hsw | hsw
          · exact Or.inl hsw
          · exact Or.inr (Or.inl hsw)
          ) (by decide) dX6_aboutWagon_49 ?_
        refine tr_bipush hO 188 (v := (-2)) (by decide) dX6_aboutWagon_188 ?_
        cases h
        exact tr_iret hO 190 hQ rfl dX6_aboutWagon_190
      refine tr_icmp_ne hO 29 37 (by decide) dX6_aboutWagon_29 (fun hc => ?_) (fun hc => ?_)
      · have h := of_f hc h
        refine tr_aload_n hO 37 1 rfl dX6_aboutWagon_37 ?_
        refine tr_get hO 38 (k := 11) (x_vy (by decide) hj) rfl rfl iX6 (by decide) wF_X6_35 rfl rfl dX6_aboutWagon_38 ?_
        refine tr_iload_n hO 41 0 rfl dX6_aboutWagon_41 ?_
        refine tr_iload_n hO 42 2 rfl dX6_aboutWagon_42 ?_
        obtain ⟨v8, μ9, hcall, h⟩ := of_bd h
        refine tr_callI hO 43 (na := 2) (As := [.int v1, .int a1]) (st := []) (c_X5_placeIn hX hj hcall) rfl (x_vy (by decide) hj) rfl rfl wM_X6_209 wI_X5_placeIn wS_X5_placeIn wN_X5 wC_X5_placeIn (by decide +kernel) rfl (by decide) (by decide) (Nat.le_of_ble_eq_true rfl) dX6_aboutWagon_43 ?_
        refine tr_sub [1, 2, 3, 0] rfl ?_
        exact J3_T _ _ h
      · have h := of_t hc h
        refine tr_bipush hO 32 (v := (-6)) (by decide) dX6_aboutWagon_32 ?_
        refine tr_goto hO 34 46 (by decide) dX6_aboutWagon_34 ?_
        refine tr_sub [1, 2, 3, 0] rfl ?_
        exact J3_T _ _ h
    · have h := of_f hc h
      refine tr_iconst hO 15 (v := (-1)) (by decide) dX6_aboutWagon_15 ?_
      cases h
      exact tr_iret hO 16 hQ rfl dX6_aboutWagon_16
set_option maxHeartbeats 4000000 in
set_option maxRecDepth 100000 in
theorem c_X6_lengthOfList {X : xT} (hX : xOK X) {j : Nat} {a1 : Int32} (hj : j < 11) {μ μ' : mT} {r : Int32} (h : f_X6_lengthOfList j a1 μ = some (r, μ')) : CMi X yX6_lengthOfList cX6_lengthOfList 5 .int 2 44 [.ref (X.1 0 j), .int a1] μ r μ' := by
  refine CMi_of hX (by decide +kernel) (lv := [(0, .ref (X.1 0 j)), (1, .int a1)]) (Nat.le_of_ble_eq_true rfl) rfl (fun Γ hO hn hQ => ?_)
  have hO : Ok X RX6 cX6_lengthOfList 2 44 Γ := hO
  unfold f_X6_lengthOfList at h
  refine tr_aload_n hO 0 0 rfl dX6_lengthOfList_0 ?_
  refine tr_get hO 1 (k := 13) (x_vy (by decide) hj) rfl rfl iX6 (by decide) wF_X6_49 rfl rfl dX6_lengthOfList_1 ?_
  refine tr_iload_n hO 4 1 rfl dX6_lengthOfList_4 ?_
  obtain ⟨v1, μ2, hcall, h⟩ := of_bd h
  refine tr_callI hO 5 (na := 1) (As := [.int a1]) (st := []) (c_X3_sizeOf hX hj hcall) rfl (x_vy (by decide) hj) rfl rfl wM_X6_194 wI_X3_sizeOf wS_X3_sizeOf wN_X3 wC_X3_sizeOf (by decide +kernel) rfl (by decide) (by decide) (Nat.le_of_ble_eq_true rfl) dX6_lengthOfList_5 ?_
  refine tr_istore_n hO 8 (v := v1) rfl (lv' := [(2, .int v1), (0, .ref (X.1 0 j)), (1, .int a1)]) hn rfl (by decide) rfl dX6_lengthOfList_8 ?_
  refine tr_iconst hO 9 (v := 0) (by decide) dX6_lengthOfList_9 ?_
  refine tr_istore_n hO 10 (v := 0) rfl (lv' := [(3, .int 0), (2, .int v1), (0, .ref (X.1 0 j)), (1, .int a1)]) hn rfl (by decide) rfl dX6_lengthOfList_10 ?_
  refine tr_iconst hO 11 (v := 0) (by decide) dX6_lengthOfList_11 ?_
  refine tr_istore hO 12 (v := 0) rfl (lv' := [(4, .int 0), (3, .int 0), (2, .int v1), (0, .ref (X.1 0 j)), (1, .int a1)]) hn (by decide) rfl dX6_lengthOfList_12 ?_
  have L14_T : ∀ (n : Nat) (v3 : Int32) (v4 : Int32) (μ5 : mT), f_X6_lengthOfList_L14 j a1 v1 n v3 v4 μ5 = some (r, μ') → tj X Γ μ5 14 [(0, .ref (X.1 0 j)), (1, .int a1), (2, .int v1), (3, .int v3), (4, .int v4)] [] := by
    intro n
    induction n with
    | zero =>
      intro v3 v4 μ5 h
      rw [f_X6_lengthOfList_L14] at h
      cases h
    | succ n ih =>
      intro v3 v4 μ5 h
      rw [f_X6_lengthOfList_L14] at h
      refine tr_iload hO 14 4 rfl dX6_lengthOfList_14 ?_
      refine tr_iload_n hO 16 2 rfl dX6_lengthOfList_16 ?_
      refine tr_icmp_ge hO 17 46 (by decide) dX6_lengthOfList_17 (fun hc => ?_) (fun hc => ?_)
      · have h := of_t hc h
        refine tr_iload_n hO 46 3 rfl dX6_lengthOfList_46 ?_
        cases h
        exact tr_iret hO 47 hQ rfl dX6_lengthOfList_47
      · have h := of_f hc h
        refine tr_iload_n hO 20 3 rfl dX6_lengthOfList_20 ?_
        refine tr_aload_n hO 21 0 rfl dX6_lengthOfList_21 ?_
        refine tr_get hO 22 (k := 11) (x_vy (by decide) hj) rfl rfl iX6 (by decide) wF_X6_35 rfl rfl dX6_lengthOfList_22 ?_
        refine tr_aload_n hO 25 0 rfl dX6_lengthOfList_25 ?_
        refine tr_get hO 26 (k := 13) (x_vy (by decide) hj) rfl rfl iX6 (by decide) wF_X6_49 rfl rfl dX6_lengthOfList_26 ?_
        refine tr_iload_n hO 29 1 rfl dX6_lengthOfList_29 ?_
        refine tr_iload hO 30 4 rfl dX6_lengthOfList_30 ?_
        obtain ⟨v6, μ7, hcall, h⟩ := of_bd h
        refine tr_callI hO 32 (na := 2) (As := [.int a1, .int v4]) (st := [.ref (X.1 1 j), .int v3]) (c_X3_wagonOf hX hj hcall) rfl (x_vy (by decide) hj) rfl rfl wM_X6_206 wI_X3_wagonOf wS_X3_wagonOf wN_X3 wC_X3_wagonOf (by decide +kernel) rfl (by decide) (by decide) (Nat.le_of_ble_eq_true rfl) dX6_lengthOfList_32 ?_
        obtain ⟨v8, μ9, hcall, h⟩ := of_bd h
        refine tr_callI hO 35 (na := 1) (As := [.int v6]) (st := [.int v3]) (c_X5_lengthOfWagon hX hj hcall) rfl (x_vy (by decide) hj) rfl rfl wM_X6_224 wI_X5_lengthOfWagon wS_X5_lengthOfWagon wN_X5 wC_X5_lengthOfWagon (by decide +kernel) rfl (by decide) (by decide) (Nat.le_of_ble_eq_true rfl) dX6_lengthOfList_35 ?_
        refine tr_iadd hO 38 dX6_lengthOfList_38 ?_
        obtain ⟨v10, e_v10, h⟩ := of_lt h
        refine tr_istore_n hO 39 (v := v10) e_v10 (lv' := [(3, .int v10), (0, .ref (X.1 0 j)), (1, .int a1), (2, .int v1), (4, .int v4)]) hn rfl (by decide) rfl dX6_lengthOfList_39 ?_
        obtain ⟨v11, e_v11, h⟩ := of_lt h
        refine tr_iinc hO 40 (q := 4) (v := v11) (lv' := [(4, .int v11), (3, .int v10), (0, .ref (X.1 0 j)), (1, .int a1), (2, .int v1)]) hn rfl (by rw [e_v11]; rfl) (by decide) rfl dX6_lengthOfList_40 ?_
        refine tr_goto hO 43 14 (by decide) dX6_lengthOfList_43 ?_
        refine tr_sub [2, 3, 4, 1, 0] rfl ?_
        exact ih _ _ _ h
  refine tr_sub [3, 4, 2, 1, 0] rfl ?_
  exact L14_T _ _ _ _ h
set_option maxHeartbeats 4000000 in
set_option maxRecDepth 100000 in
theorem c_X6_aboutTrain {X : xT} (hX : xOK X) {j : Nat} {a1 : Int32} {a2 : Int32} (hj : j < 11) {μ μ' : mT} {r : Int32} (h : f_X6_aboutTrain j a1 a2 μ = some (r, μ')) : CMi X yX6_aboutTrain cX6_aboutTrain 3 .int 3 68 [.ref (X.1 0 j), .int a1, .int a2] μ r μ' := by
  refine CMi_of hX (by decide +kernel) (lv := [(0, .ref (X.1 0 j)), (1, .int a1), (2, .int a2)]) (Nat.le_of_ble_eq_true rfl) rfl (fun Γ hO hn hQ => ?_)
  have hO : Ok X RX6 cX6_aboutTrain 3 68 Γ := hO
  unfold f_X6_aboutTrain at h
  refine tr_aload_n hO 0 0 rfl dX6_aboutTrain_0 ?_
  refine tr_get hO 1 (k := 13) (x_vy (by decide) hj) rfl rfl iX6 (by decide) wF_X6_49 rfl rfl dX6_aboutTrain_1 ?_
  refine tr_iload_n hO 4 1 rfl dX6_aboutTrain_4 ?_
  obtain ⟨v1, μ2, hcall, h⟩ := of_bd h
  refine tr_callI hO 5 (na := 1) (As := [.int a1]) (st := []) (c_X3_has hX hj hcall) rfl (x_vy (by decide) hj) rfl rfl wM_X6_174 wI_X3_has wS_X3_has wN_X3 wC_X3_has (by decide +kernel) rfl (by decide) (by decide) (Nat.le_of_ble_eq_true rfl) dX6_aboutTrain_5 ?_
  refine tr_if_ne hO 8 13 (by decide) dX6_aboutTrain_8 (fun hc => ?_) (fun hc => ?_)
  · have h := of_f hc h
    refine tr_iload_n hO 13 2 rfl dX6_aboutTrain_13 ?_
    refine tr_if_lt hO 14 23 (by decide) dX6_aboutTrain_14 (fun hc => ?_) (fun hc => ?_)
    · have h := of_t hc h
      refine tr_bipush hO 23 (v := (-2)) (by decide) dX6_aboutTrain_23 ?_
      cases h
      exact tr_iret hO 25 hQ rfl dX6_aboutTrain_25
    · have h := of_f hc h
      refine tr_iload_n hO 17 2 rfl dX6_aboutTrain_17 ?_
      refine tr_bipush hO 18 (v := 10) (by decide) dX6_aboutTrain_18 ?_
      refine tr_icmp_le hO 20 26 (by decide) dX6_aboutTrain_20 (fun hc => ?_) (fun hc => ?_)
      · have h := of_t hc h
        refine tr_iload_n hO 26 2 rfl dX6_aboutTrain_26 ?_
        refine tr_if_ne hO 27 39 (by decide) dX6_aboutTrain_27 (fun hc => ?_) (fun hc => ?_)
        · have h := of_f hc h
          refine tr_iload_n hO 39 2 rfl dX6_aboutTrain_39 ?_
          refine tr_iconst hO 40 (v := 1) (by decide) dX6_aboutTrain_40 ?_
          refine tr_icmp_ne hO 41 54 (by decide) dX6_aboutTrain_41 (fun hc => ?_) (fun hc => ?_)
          · have h := of_f hc h
            refine tr_iload_n hO 54 2 rfl dX6_aboutTrain_54 ?_
            refine tr_bipush hO 55 (v := 10) (by decide) dX6_aboutTrain_55 ?_
            refine tr_icmp_ne hO 57 68 (by decide) dX6_aboutTrain_57 (fun hc => ?_) (fun hc => ?_)
            · have h := of_f hc h
              refine tr_aload_n hO 68 0 rfl dX6_aboutTrain_68 ?_
              refine tr_get hO 69 (k := 13) (x_vy (by decide) hj) rfl rfl iX6 (by decide) wF_X6_49 rfl rfl dX6_aboutTrain_69 ?_
              refine tr_iload_n hO 72 1 rfl dX6_aboutTrain_72 ?_
              refine tr_iload_n hO 73 2 rfl dX6_aboutTrain_73 ?_
              refine tr_iconst hO 74 (v := 2) (by decide) dX6_aboutTrain_74 ?_
              refine tr_isub hO 75 dX6_aboutTrain_75 ?_
              obtain ⟨v3, μ4, hcall, h⟩ := of_bd h
              refine tr_callI hO 76 (na := 2) (As := [.int a1, .int (a2 - 2)]) (st := []) (c_X3_wagonOf hX hj hcall) rfl (x_vy (by decide) hj) rfl rfl wM_X6_206 wI_X3_wagonOf wS_X3_wagonOf wN_X3 wC_X3_wagonOf (by decide +kernel) rfl (by decide) (by decide) (Nat.le_of_ble_eq_true rfl) dX6_aboutTrain_76 ?_
              cases h
              exact tr_iret hO 79 hQ rfl dX6_aboutTrain_79
            · have h := of_t hc h
              refine tr_aload_n hO 60 0 rfl dX6_aboutTrain_60 ?_
              refine tr_iload_n hO 61 1 rfl dX6_aboutTrain_61 ?_
              obtain ⟨v5, μ6, hcall, h⟩ := of_bd h
              refine tr_callI hO 62 (na := 1) (As := [.int a1]) (st := []) (c_X6_lengthOfList hX hj hcall) rfl (x_vy (by decide) hj) rfl rfl wM_X6_221 wI_X6_lengthOfList wS_X6_lengthOfList wN_X6 wC_X6_lengthOfList (by decide +kernel) rfl (by decide) (by decide) (Nat.le_of_ble_eq_true rfl) dX6_aboutTrain_62 ?_
              refine tr_goto hO 65 79 (by decide) dX6_aboutTrain_65 ?_
              cases h
              exact tr_iret hO 79 hQ rfl dX6_aboutTrain_79
          · have h := of_t hc h
            refine tr_aload_n hO 44 0 rfl dX6_aboutTrain_44 ?_
            refine tr_get hO 45 (k := 13) (x_vy (by decide) hj) rfl rfl iX6 (by decide) wF_X6_49 rfl rfl dX6_aboutTrain_45 ?_
            refine tr_getN hO 48 (k := 1) (x_vy (by decide) hj) rfl rfl iX3 (by decide) (host := RX7) (by decide +kernel) rfl rfl dX6_aboutTrain_48 ?_
            refine tr_iload_n hO 51 1 rfl dX6_aboutTrain_51 ?_
            obtain ⟨hg, h⟩ := of_gd h
            refine tr_iald hO 52 (x_vy (by decide) hj) a_15 hg dX6_aboutTrain_52 ?_
            cases h
            exact tr_iret hO 53 hQ rfl dX6_aboutTrain_53
        · have h := of_t hc h
          refine tr_aload_n hO 30 0 rfl dX6_aboutTrain_30 ?_
          refine tr_get hO 31 (k := 13) (x_vy (by decide) hj) rfl rfl iX6 (by decide) wF_X6_49 rfl rfl dX6_aboutTrain_31 ?_
          refine tr_iload_n hO 34 1 rfl dX6_aboutTrain_34 ?_
          obtain ⟨v7, μ8, hcall, h⟩ := of_bd h
          refine tr_callI hO 35 (na := 1) (As := [.int a1]) (st := []) (c_X3_sizeOf hX hj hcall) rfl (x_vy (by decide) hj) rfl rfl wM_X6_194 wI_X3_sizeOf wS_X3_sizeOf wN_X3 wC_X3_sizeOf (by decide +kernel) rfl (by decide) (by decide) (Nat.le_of_ble_eq_true rfl) dX6_aboutTrain_35 ?_
          cases h
          exact tr_iret hO 38 hQ rfl dX6_aboutTrain_38
      · have h := of_f hc h
        refine tr_bipush hO 23 (v := (-2)) (by decide) dX6_aboutTrain_23 ?_
        cases h
        exact tr_iret hO 25 hQ rfl dX6_aboutTrain_25
  · have h := of_t hc h
    refine tr_iconst hO 11 (v := (-1)) (by decide) dX6_aboutTrain_11 ?_
    cases h
    exact tr_iret hO 12 hQ rfl dX6_aboutTrain_12
set_option maxHeartbeats 4000000 in
set_option maxRecDepth 100000 in
theorem c_X6_aboutYard {X : xT} (hX : xOK X) {j : Nat} {a1 : Int32} (hj : j < 11) {μ μ' : mT} {r : Int32} (h : f_X6_aboutYard j a1 μ = some (r, μ')) : CMi X yX6_aboutYard cX6_aboutYard 2 .int 1 23 [.ref (X.1 0 j), .int a1] μ r μ' := by
  refine CMi_of hX (by decide +kernel) (lv := [(0, .ref (X.1 0 j)), (1, .int a1)]) (Nat.le_of_ble_eq_true rfl) rfl (fun Γ hO hn hQ => ?_)
  have hO : Ok X RX6 cX6_aboutYard 1 23 Γ := hO
  unfold f_X6_aboutYard at h
  refine tr_iload_n hO 0 1 rfl dX6_aboutYard_0 ?_
  by_cases hs0 : a1 = 0
  · have h := of_t hs0 h
    refine tr_tabIn hO 1 68 (by rw [hs0]; decide) (by rw [hs0]; decide) (by rw [hs0]; rfl) (by decide) dX6_aboutYard_1 ?_
    refine tr_aload_n hO 68 0 rfl dX6_aboutYard_68 ?_
    refine tr_get hO 69 (k := 0) (x_vy (by decide) hj) rfl rfl iX6 (by decide) wF_X6_53 rfl rfl dX6_aboutYard_69 ?_
    cases h
    exact tr_iret hO 72 hQ rfl dX6_aboutYard_72
  have h := of_f hs0 h
  by_cases hs1 : a1 = 1
  · have h := of_t hs1 h
    refine tr_tabIn hO 1 73 (by rw [hs1]; decide) (by rw [hs1]; decide) (by rw [hs1]; rfl) (by decide) dX6_aboutYard_1 ?_
    refine tr_aload_n hO 73 0 rfl dX6_aboutYard_73 ?_
    refine tr_get hO 74 (k := 7) (x_vy (by decide) hj) rfl rfl iX6 (by decide) wF_X6_78 rfl rfl dX6_aboutYard_74 ?_
    cases h
    exact tr_iret hO 77 hQ rfl dX6_aboutYard_77
  have h := of_f hs1 h
  by_cases hs2 : a1 = 2
  · have h := of_t hs2 h
    refine tr_tabIn hO 1 78 (by rw [hs2]; decide) (by rw [hs2]; decide) (by rw [hs2]; rfl) (by decide) dX6_aboutYard_1 ?_
    refine tr_aload_n hO 78 0 rfl dX6_aboutYard_78 ?_
    refine tr_get hO 79 (k := 11) (x_vy (by decide) hj) rfl rfl iX6 (by decide) wF_X6_35 rfl rfl dX6_aboutYard_79 ?_
    refine tr_getN hO 82 (k := 0) (x_vy (by decide) hj) rfl rfl iX5 (by decide) (host := RX7) (by decide +kernel) rfl rfl dX6_aboutYard_82 ?_
    cases h
    exact tr_iret hO 85 hQ rfl dX6_aboutYard_85
  have h := of_f hs2 h
  by_cases hs3 : a1 = 3
  · have h := of_t hs3 h
    refine tr_tabIn hO 1 86 (by rw [hs3]; decide) (by rw [hs3]; decide) (by rw [hs3]; rfl) (by decide) dX6_aboutYard_1 ?_
    refine tr_aload_n hO 86 0 rfl dX6_aboutYard_86 ?_
    refine tr_get hO 87 (k := 11) (x_vy (by decide) hj) rfl rfl iX6 (by decide) wF_X6_35 rfl rfl dX6_aboutYard_87 ?_
    refine tr_bipush hO 90 (v := 8) (by decide) dX6_aboutYard_90 ?_
    obtain ⟨v1, μ2, hcall, h⟩ := of_bd h
    refine tr_callI hO 92 (na := 1) (As := [.int 8]) (st := []) (c_X5_manyIn hX hj hcall) rfl (x_vy (by decide) hj) rfl rfl wM_X6_121 wI_X5_manyIn wS_X5_manyIn wN_X5 wC_X5_manyIn (by decide +kernel) rfl (by decide) (by decide) (Nat.le_of_ble_eq_true rfl) dX6_aboutYard_92 ?_
    cases h
    exact tr_iret hO 95 hQ rfl dX6_aboutYard_95
  have h := of_f hs3 h
  by_cases hs4 : a1 = 4
  · have h := of_t hs4 h
    refine tr_tabIn hO 1 96 (by rw [hs4]; decide) (by rw [hs4]; decide) (by rw [hs4]; rfl) (by decide) dX6_aboutYard_1 ?_
    refine tr_aload_n hO 96 0 rfl dX6_aboutYard_96 ?_
    refine tr_get hO 97 (k := 11) (x_vy (by decide) hj) rfl rfl iX6 (by decide) wF_X6_35 rfl rfl dX6_aboutYard_97 ?_
    refine tr_bipush hO 100 (v := 8) (by decide) dX6_aboutYard_100 ?_
    obtain ⟨v3, μ4, hcall, h⟩ := of_bd h
    refine tr_callI hO 102 (na := 1) (As := [.int 8]) (st := []) (c_X5_lengthOfRow hX hj hcall) rfl (x_vy (by decide) hj) rfl rfl wM_X6_104 wI_X5_lengthOfRow wS_X5_lengthOfRow wN_X5 wC_X5_lengthOfRow (by decide +kernel) rfl (by decide) (by decide) (Nat.le_of_ble_eq_true rfl) dX6_aboutYard_102 ?_
    cases h
    exact tr_iret hO 105 hQ rfl dX6_aboutYard_105
  have h := of_f hs4 h
  by_cases hs5 : a1 = 5
  · have h := of_t hs5 h
    refine tr_tabIn hO 1 106 (by rw [hs5]; decide) (by rw [hs5]; decide) (by rw [hs5]; rfl) (by decide) dX6_aboutYard_1 ?_
    refine tr_aload_n hO 106 0 rfl dX6_aboutYard_106 ?_
    refine tr_get hO 107 (k := 11) (x_vy (by decide) hj) rfl rfl iX6 (by decide) wF_X6_35 rfl rfl dX6_aboutYard_107 ?_
    refine tr_getN hO 110 (k := 1) (x_vy (by decide) hj) rfl rfl iX5 (by decide) (host := RX7) (by decide +kernel) rfl rfl dX6_aboutYard_110 ?_
    cases h
    exact tr_iret hO 113 hQ rfl dX6_aboutYard_113
  have h := of_f hs5 h
  by_cases hs6 : a1 = 6
  · have h := of_t hs6 h
    refine tr_tabIn hO 1 114 (by rw [hs6]; decide) (by rw [hs6]; decide) (by rw [hs6]; rfl) (by decide) dX6_aboutYard_1 ?_
    refine tr_aload_n hO 114 0 rfl dX6_aboutYard_114 ?_
    refine tr_get hO 115 (k := 13) (x_vy (by decide) hj) rfl rfl iX6 (by decide) wF_X6_49 rfl rfl dX6_aboutYard_115 ?_
    refine tr_getN hO 118 (k := 0) (x_vy (by decide) hj) rfl rfl iX3 (by decide) (host := RX7) (by decide +kernel) rfl rfl dX6_aboutYard_118 ?_
    cases h
    exact tr_iret hO 121 hQ rfl dX6_aboutYard_121
  have h := of_f hs6 h
  by_cases hs7 : a1 = 7
  · have h := of_t hs7 h
    refine tr_tabIn hO 1 122 (by rw [hs7]; decide) (by rw [hs7]; decide) (by rw [hs7]; rfl) (by decide) dX6_aboutYard_1 ?_
    refine tr_aload_n hO 122 0 rfl dX6_aboutYard_122 ?_
    refine tr_get hO 123 (k := 5) (x_vy (by decide) hj) rfl rfl iX6 (by decide) wF_X6_69 rfl rfl dX6_aboutYard_123 ?_
    cases h
    exact tr_iret hO 126 hQ rfl dX6_aboutYard_126
  have h := of_f hs7 h
  by_cases hs8 : a1 = 8
  · have h := of_t hs8 h
    refine tr_tabIn hO 1 127 (by rw [hs8]; decide) (by rw [hs8]; decide) (by rw [hs8]; rfl) (by decide) dX6_aboutYard_1 ?_
    refine tr_aload_n hO 127 0 rfl dX6_aboutYard_127 ?_
    refine tr_get hO 128 (k := 12) (x_vy (by decide) hj) rfl rfl iX6 (by decide) wF_X6_42 rfl rfl dX6_aboutYard_128 ?_
    refine tr_getN hO 131 (k := 0) (x_vy (by decide) hj) rfl rfl iX0 (by decide) (host := RX7) (by decide +kernel) rfl rfl dX6_aboutYard_131 ?_
    cases h
    exact tr_iret hO 134 hQ rfl dX6_aboutYard_134
  have h := of_f hs8 h
  by_cases hs9 : a1 = 9
  · have h := of_t hs9 h
    refine tr_tabIn hO 1 135 (by rw [hs9]; decide) (by rw [hs9]; decide) (by rw [hs9]; rfl) (by decide) dX6_aboutYard_1 ?_
    refine tr_aload_n hO 135 0 rfl dX6_aboutYard_135 ?_
    refine tr_get hO 136 (k := 1) (x_vy (by decide) hj) rfl rfl iX6 (by decide) wF_X6_57 rfl rfl dX6_aboutYard_136 ?_
    cases h
    exact tr_iret hO 139 hQ rfl dX6_aboutYard_139
  have h := of_f hs9 h
  by_cases hs10 : a1 = 10
  · have h := of_t hs10 h
    refine tr_tabIn hO 1 140 (by rw [hs10]; decide) (by rw [hs10]; decide) (by rw [hs10]; rfl) (by decide) dX6_aboutYard_1 ?_
    refine tr_aload_n hO 140 0 rfl dX6_aboutYard_140 ?_
    refine tr_get hO 141 (k := 2) (x_vy (by decide) hj) rfl rfl iX6 (by decide) wF_X6_60 rfl rfl dX6_aboutYard_141 ?_
    cases h
    exact tr_iret hO 144 hQ rfl dX6_aboutYard_144
  have h := of_f hs10 h
  by_cases hs11 : a1 = 11
  · have h := of_t hs11 h
    refine tr_tabIn hO 1 145 (by rw [hs11]; decide) (by rw [hs11]; decide) (by rw [hs11]; rfl) (by decide) dX6_aboutYard_1 ?_
    refine tr_aload_n hO 145 0 rfl dX6_aboutYard_145 ?_
    refine tr_get hO 146 (k := 3) (x_vy (by decide) hj) rfl rfl iX6 (by decide) wF_X6_63 rfl rfl dX6_aboutYard_146 ?_
    cases h
    exact tr_iret hO 149 hQ rfl dX6_aboutYard_149
  have h := of_f hs11 h
  by_cases hs12 : a1 = 12
  · have h := of_t hs12 h
    refine tr_tabIn hO 1 150 (by rw [hs12]; decide) (by rw [hs12]; decide) (by rw [hs12]; rfl) (by decide) dX6_aboutYard_1 ?_
    refine tr_aload_n hO 150 0 rfl dX6_aboutYard_150 ?_
    refine tr_get hO 151 (k := 4) (x_vy (by decide) hj) rfl rfl iX6 (by decide) wF_X6_66 rfl rfl dX6_aboutYard_151 ?_
    cases h
    exact tr_iret hO 154 hQ rfl dX6_aboutYard_154
  have h := of_f hs12 h
  have hn_hs0 : ¬ a1.toInt = 0 := i_ne (by decide) hs0
  have hn_hs1 : ¬ a1.toInt = 1 := i_ne (by decide) hs1
  have hn_hs2 : ¬ a1.toInt = 2 := i_ne (by decide) hs2
  have hn_hs3 : ¬ a1.toInt = 3 := i_ne (by decide) hs3
  have hn_hs4 : ¬ a1.toInt = 4 := i_ne (by decide) hs4
  have hn_hs5 : ¬ a1.toInt = 5 := i_ne (by decide) hs5
  have hn_hs6 : ¬ a1.toInt = 6 := i_ne (by decide) hs6
  have hn_hs7 : ¬ a1.toInt = 7 := i_ne (by decide) hs7
  have hn_hs8 : ¬ a1.toInt = 8 := i_ne (by decide) hs8
  have hn_hs9 : ¬ a1.toInt = 9 := i_ne (by decide) hs9
  have hn_hs10 : ¬ a1.toInt = 10 := i_ne (by decide) hs10
  have hn_hs11 : ¬ a1.toInt = 11 := i_ne (by decide) hs11
  have hn_hs12 : ¬ a1.toInt = 12 := i_ne (by decide) hs12
  have hsw : a1.toInt < 0 ∨ (12 : Int) < a1.toInt := by omega
  refine tr_tabD hO 1 155 (by
    rcases hsw with hsw | hsw
    · exact Or.inl hsw
    · exact Or.inr (Or.inl hsw)
    ) (by decide) dX6_aboutYard_1 ?_
  refine tr_iload_n hO 155 1 rfl dX6_aboutYard_155 ?_
  refine tr_bipush hO 156 (v := 15) (by decide) dX6_aboutYard_156 ?_
  refine tr_icmp_lt hO 158 179 (by decide) dX6_aboutYard_158 (fun hc => ?_) (fun hc => ?_)
  · have h := of_t hc h
    refine tr_bipush hO 179 (v := (-2)) (by decide) dX6_aboutYard_179 ?_
    cases h
    exact tr_iret hO 181 hQ rfl dX6_aboutYard_181
  · have h := of_f hc h
    refine tr_iload_n hO 161 1 rfl dX6_aboutYard_161 ?_
    refine tr_bipush hO 162 (v := 21) (by decide) dX6_aboutYard_162 ?_
    refine tr_icmp_ge hO 164 179 (by decide) dX6_aboutYard_164 (fun hc => ?_) (fun hc => ?_)
    · have h := of_t hc h
      refine tr_bipush hO 179 (v := (-2)) (by decide) dX6_aboutYard_179 ?_
      cases h
      exact tr_iret hO 181 hQ rfl dX6_aboutYard_181
    · have h := of_f hc h
      refine tr_aload_n hO 167 0 rfl dX6_aboutYard_167 ?_
      refine tr_get hO 168 (k := 6) (x_vy (by decide) hj) rfl rfl iX6 (by decide) wF_X6_18 rfl rfl dX6_aboutYard_168 ?_
      refine tr_iload_n hO 171 1 rfl dX6_aboutYard_171 ?_
      refine tr_bipush hO 172 (v := 15) (by decide) dX6_aboutYard_172 ?_
      refine tr_isub hO 174 dX6_aboutYard_174 ?_
      obtain ⟨hg, h⟩ := of_gd h
      refine tr_iald hO 175 (x_vy (by decide) hj) a_4 hg dX6_aboutYard_175 ?_
      refine tr_goto hO 176 181 (by decide) dX6_aboutYard_176 ?_
      cases h
      exact tr_iret hO 181 hQ rfl dX6_aboutYard_181
set_option maxHeartbeats 4000000 in
set_option maxRecDepth 100000 in
theorem c_X7_set {X : xT} (hX : xOK X) {a1 : Int32} {a2 : Int32}  {μ μ' : mT} {r : Int32} (h : f_X7_set a1 a2 μ = some (r, μ')) : CMi X yX7_set cX7_set 3 .int 4 89 [.ref (X.1 18 0), .int a1, .int a2] μ r μ' := by
  refine CMi_of hX (by decide +kernel) (lv := [(0, .ref (X.1 18 0)), (1, .int a1), (2, .int a2)]) (Nat.le_of_ble_eq_true rfl) rfl (fun Γ hO hn hQ => ?_)
  have hO : Ok X RX7 cX7_set 4 89 Γ := hO
  unfold f_X7_set at h
  refine tr_aload_n hO 0 0 rfl dX7_set_0 ?_
  refine tr_get hO 1 (k := 2) (x_v0 (by decide)) rfl rfl iX7 (by decide) wF_X7_26 rfl rfl dX7_set_1 ?_
  refine tr_aload_n hO 4 0 rfl dX7_set_4 ?_
  refine tr_get hO 5 (k := 0) (x_v0 (by decide)) rfl rfl iX7 (by decide) wF_X7_12 rfl rfl dX7_set_5 ?_
  obtain ⟨v1, μ2, hcall, h⟩ := of_bd h
  refine tr_callV hO 8 (na := 1) (As := [.ref (X.1 0 0)]) (st := []) (c_X1_note hX (by decide) hcall) rfl (x_v0 (by decide)) rfl rfl wM_X7_49 wI_X1_note wS_X1_note wN_X1 wC_X1_note (by decide +kernel) rfl (by decide) (by decide) (Nat.le_of_ble_eq_true rfl) dX7_set_8 ?_
  refine tr_aload_n hO 11 0 rfl dX7_set_11 ?_
  refine tr_get hO 12 (k := 2) (x_v0 (by decide)) rfl rfl iX7 (by decide) wF_X7_26 rfl rfl dX7_set_12 ?_
  refine tr_aload_n hO 15 0 rfl dX7_set_15 ?_
  refine tr_get hO 16 (k := 0) (x_v0 (by decide)) rfl rfl iX7 (by decide) wF_X7_12 rfl rfl dX7_set_16 ?_
  refine tr_iload_n hO 19 1 rfl dX7_set_19 ?_
  refine tr_iload_n hO 20 2 rfl dX7_set_20 ?_
  obtain ⟨v3, μ4, hcall, h⟩ := of_bd h
  refine tr_callI hO 21 (na := 2) (As := [.int a1, .int a2]) (st := [.ref (X.1 19 0)]) (c_X6_changeSetting hX (by decide) hcall) rfl (x_vy (by decide) (by decide)) rfl rfl wM_X7_53 wI_X6_changeSetting wS_X6_changeSetting wN_X6 wC_X6_changeSetting (by decide +kernel) rfl (by decide) (by decide) (Nat.le_of_ble_eq_true rfl) dX7_set_21 ?_
  obtain ⟨v5, μ6, hcall, h⟩ := of_bd h
  refine tr_callI hO 24 (na := 1) (As := [.int v3]) (st := []) (c_X1_kept hX  hcall) rfl (x_v0 (by decide)) rfl rfl wM_X7_57 wI_X1_kept wS_X1_kept wN_X1 wC_X1_kept (by decide +kernel) rfl (by decide) (by decide) (Nat.le_of_ble_eq_true rfl) dX7_set_24 ?_
  cases h
  exact tr_iret hO 27 hQ rfl dX7_set_27
set_option maxHeartbeats 4000000 in
set_option maxRecDepth 100000 in
theorem c_X7_track {X : xT} (hX : xOK X) {a1 : Int32}  {μ μ' : mT} {r : Int32} (h : f_X7_track a1 μ = some (r, μ')) : CMi X yX7_track cX7_track 2 .int 4 89 [.ref (X.1 18 0), .int a1] μ r μ' := by
  refine CMi_of hX (by decide +kernel) (lv := [(0, .ref (X.1 18 0)), (1, .int a1)]) (Nat.le_of_ble_eq_true rfl) rfl (fun Γ hO hn hQ => ?_)
  have hO : Ok X RX7 cX7_track 4 89 Γ := hO
  unfold f_X7_track at h
  refine tr_aload_n hO 0 0 rfl dX7_track_0 ?_
  refine tr_get hO 1 (k := 2) (x_v0 (by decide)) rfl rfl iX7 (by decide) wF_X7_26 rfl rfl dX7_track_1 ?_
  refine tr_aload_n hO 4 0 rfl dX7_track_4 ?_
  refine tr_get hO 5 (k := 0) (x_v0 (by decide)) rfl rfl iX7 (by decide) wF_X7_12 rfl rfl dX7_track_5 ?_
  obtain ⟨v1, μ2, hcall, h⟩ := of_bd h
  refine tr_callV hO 8 (na := 1) (As := [.ref (X.1 0 0)]) (st := []) (c_X1_note hX (by decide) hcall) rfl (x_v0 (by decide)) rfl rfl wM_X7_49 wI_X1_note wS_X1_note wN_X1 wC_X1_note (by decide +kernel) rfl (by decide) (by decide) (Nat.le_of_ble_eq_true rfl) dX7_track_8 ?_
  refine tr_aload_n hO 11 0 rfl dX7_track_11 ?_
  refine tr_get hO 12 (k := 2) (x_v0 (by decide)) rfl rfl iX7 (by decide) wF_X7_26 rfl rfl dX7_track_12 ?_
  refine tr_aload_n hO 15 0 rfl dX7_track_15 ?_
  refine tr_get hO 16 (k := 0) (x_v0 (by decide)) rfl rfl iX7 (by decide) wF_X7_12 rfl rfl dX7_track_16 ?_
  refine tr_iload_n hO 19 1 rfl dX7_track_19 ?_
  obtain ⟨v3, μ4, hcall, h⟩ := of_bd h
  refine tr_callI hO 20 (na := 1) (As := [.int a1]) (st := [.ref (X.1 19 0)]) (c_X6_addTrack hX (by decide) hcall) rfl (x_vy (by decide) (by decide)) rfl rfl wM_X7_61 wI_X6_addTrack wS_X6_addTrack wN_X6 wC_X6_addTrack (by decide +kernel) rfl (by decide) (by decide) (Nat.le_of_ble_eq_true rfl) dX7_track_20 ?_
  obtain ⟨v5, μ6, hcall, h⟩ := of_bd h
  refine tr_callI hO 23 (na := 1) (As := [.int v3]) (st := []) (c_X1_kept hX  hcall) rfl (x_v0 (by decide)) rfl rfl wM_X7_57 wI_X1_kept wS_X1_kept wN_X1 wC_X1_kept (by decide +kernel) rfl (by decide) (by decide) (Nat.le_of_ble_eq_true rfl) dX7_track_23 ?_
  cases h
  exact tr_iret hO 26 hQ rfl dX7_track_26
set_option maxHeartbeats 4000000 in
set_option maxRecDepth 100000 in
theorem c_X7_wagon {X : xT} (hX : xOK X) {a1 : Int32} {a2 : Int32}  {μ μ' : mT} {r : Int32} (h : f_X7_wagon a1 a2 μ = some (r, μ')) : CMi X yX7_wagon cX7_wagon 3 .int 4 89 [.ref (X.1 18 0), .int a1, .int a2] μ r μ' := by
  refine CMi_of hX (by decide +kernel) (lv := [(0, .ref (X.1 18 0)), (1, .int a1), (2, .int a2)]) (Nat.le_of_ble_eq_true rfl) rfl (fun Γ hO hn hQ => ?_)
  have hO : Ok X RX7 cX7_wagon 4 89 Γ := hO
  unfold f_X7_wagon at h
  refine tr_aload_n hO 0 0 rfl dX7_wagon_0 ?_
  refine tr_get hO 1 (k := 2) (x_v0 (by decide)) rfl rfl iX7 (by decide) wF_X7_26 rfl rfl dX7_wagon_1 ?_
  refine tr_aload_n hO 4 0 rfl dX7_wagon_4 ?_
  refine tr_get hO 5 (k := 0) (x_v0 (by decide)) rfl rfl iX7 (by decide) wF_X7_12 rfl rfl dX7_wagon_5 ?_
  obtain ⟨v1, μ2, hcall, h⟩ := of_bd h
  refine tr_callV hO 8 (na := 1) (As := [.ref (X.1 0 0)]) (st := []) (c_X1_note hX (by decide) hcall) rfl (x_v0 (by decide)) rfl rfl wM_X7_49 wI_X1_note wS_X1_note wN_X1 wC_X1_note (by decide +kernel) rfl (by decide) (by decide) (Nat.le_of_ble_eq_true rfl) dX7_wagon_8 ?_
  refine tr_aload_n hO 11 0 rfl dX7_wagon_11 ?_
  refine tr_get hO 12 (k := 2) (x_v0 (by decide)) rfl rfl iX7 (by decide) wF_X7_26 rfl rfl dX7_wagon_12 ?_
  refine tr_aload_n hO 15 0 rfl dX7_wagon_15 ?_
  refine tr_get hO 16 (k := 0) (x_v0 (by decide)) rfl rfl iX7 (by decide) wF_X7_12 rfl rfl dX7_wagon_16 ?_
  refine tr_iload_n hO 19 1 rfl dX7_wagon_19 ?_
  refine tr_iload_n hO 20 2 rfl dX7_wagon_20 ?_
  obtain ⟨v3, μ4, hcall, h⟩ := of_bd h
  refine tr_callI hO 21 (na := 2) (As := [.int a1, .int a2]) (st := [.ref (X.1 19 0)]) (c_X6_addWagon hX (by decide) hcall) rfl (x_vy (by decide) (by decide)) rfl rfl wM_X7_64 wI_X6_addWagon wS_X6_addWagon wN_X6 wC_X6_addWagon (by decide +kernel) rfl (by decide) (by decide) (Nat.le_of_ble_eq_true rfl) dX7_wagon_21 ?_
  obtain ⟨v5, μ6, hcall, h⟩ := of_bd h
  refine tr_callI hO 24 (na := 1) (As := [.int v3]) (st := []) (c_X1_kept hX  hcall) rfl (x_v0 (by decide)) rfl rfl wM_X7_57 wI_X1_kept wS_X1_kept wN_X1 wC_X1_kept (by decide +kernel) rfl (by decide) (by decide) (Nat.le_of_ble_eq_true rfl) dX7_wagon_24 ?_
  cases h
  exact tr_iret hO 27 hQ rfl dX7_wagon_27
set_option maxHeartbeats 4000000 in
set_option maxRecDepth 100000 in
theorem c_X7_block {X : xT} (hX : xOK X) {a1 : Int32} {a2 : Int32}  {μ μ' : mT} {r : Int32} (h : f_X7_block a1 a2 μ = some (r, μ')) : CMi X yX7_block cX7_block 3 .int 4 89 [.ref (X.1 18 0), .int a1, .int a2] μ r μ' := by
  refine CMi_of hX (by decide +kernel) (lv := [(0, .ref (X.1 18 0)), (1, .int a1), (2, .int a2)]) (Nat.le_of_ble_eq_true rfl) rfl (fun Γ hO hn hQ => ?_)
  have hO : Ok X RX7 cX7_block 4 89 Γ := hO
  unfold f_X7_block at h
  refine tr_aload_n hO 0 0 rfl dX7_block_0 ?_
  refine tr_get hO 1 (k := 2) (x_v0 (by decide)) rfl rfl iX7 (by decide) wF_X7_26 rfl rfl dX7_block_1 ?_
  refine tr_aload_n hO 4 0 rfl dX7_block_4 ?_
  refine tr_get hO 5 (k := 0) (x_v0 (by decide)) rfl rfl iX7 (by decide) wF_X7_12 rfl rfl dX7_block_5 ?_
  obtain ⟨v1, μ2, hcall, h⟩ := of_bd h
  refine tr_callV hO 8 (na := 1) (As := [.ref (X.1 0 0)]) (st := []) (c_X1_note hX (by decide) hcall) rfl (x_v0 (by decide)) rfl rfl wM_X7_49 wI_X1_note wS_X1_note wN_X1 wC_X1_note (by decide +kernel) rfl (by decide) (by decide) (Nat.le_of_ble_eq_true rfl) dX7_block_8 ?_
  refine tr_aload_n hO 11 0 rfl dX7_block_11 ?_
  refine tr_get hO 12 (k := 2) (x_v0 (by decide)) rfl rfl iX7 (by decide) wF_X7_26 rfl rfl dX7_block_12 ?_
  refine tr_aload_n hO 15 0 rfl dX7_block_15 ?_
  refine tr_get hO 16 (k := 0) (x_v0 (by decide)) rfl rfl iX7 (by decide) wF_X7_12 rfl rfl dX7_block_16 ?_
  refine tr_iload_n hO 19 1 rfl dX7_block_19 ?_
  refine tr_iload_n hO 20 2 rfl dX7_block_20 ?_
  obtain ⟨v3, μ4, hcall, h⟩ := of_bd h
  refine tr_callI hO 21 (na := 2) (As := [.int a1, .int a2]) (st := [.ref (X.1 19 0)]) (c_X6_addBlock hX (by decide) hcall) rfl (x_vy (by decide) (by decide)) rfl rfl wM_X7_67 wI_X6_addBlock wS_X6_addBlock wN_X6 wC_X6_addBlock (by decide +kernel) rfl (by decide) (by decide) (Nat.le_of_ble_eq_true rfl) dX7_block_21 ?_
  obtain ⟨v5, μ6, hcall, h⟩ := of_bd h
  refine tr_callI hO 24 (na := 1) (As := [.int v3]) (st := []) (c_X1_kept hX  hcall) rfl (x_v0 (by decide)) rfl rfl wM_X7_57 wI_X1_kept wS_X1_kept wN_X1 wC_X1_kept (by decide +kernel) rfl (by decide) (by decide) (Nat.le_of_ble_eq_true rfl) dX7_block_24 ?_
  cases h
  exact tr_iret hO 27 hQ rfl dX7_block_27
set_option maxHeartbeats 4000000 in
set_option maxRecDepth 100000 in
theorem c_X7_pull {X : xT} (hX : xOK X) {a1 : Int32} {a2 : Int32}  {μ μ' : mT} {r : Int32} (h : f_X7_pull a1 a2 μ = some (r, μ')) : CMi X yX7_pull cX7_pull 3 .int 5 112 [.ref (X.1 18 0), .int a1, .int a2] μ r μ' := by
  refine CMi_of hX (by decide +kernel) (lv := [(0, .ref (X.1 18 0)), (1, .int a1), (2, .int a2)]) (Nat.le_of_ble_eq_true rfl) rfl (fun Γ hO hn hQ => ?_)
  have hO : Ok X RX7 cX7_pull 5 112 Γ := hO
  unfold f_X7_pull at h
  refine tr_aload_n hO 0 0 rfl dX7_pull_0 ?_
  refine tr_get hO 1 (k := 2) (x_v0 (by decide)) rfl rfl iX7 (by decide) wF_X7_26 rfl rfl dX7_pull_1 ?_
  refine tr_aload_n hO 4 0 rfl dX7_pull_4 ?_
  refine tr_get hO 5 (k := 0) (x_v0 (by decide)) rfl rfl iX7 (by decide) wF_X7_12 rfl rfl dX7_pull_5 ?_
  obtain ⟨v1, μ2, hcall, h⟩ := of_bd h
  refine tr_callV hO 8 (na := 1) (As := [.ref (X.1 0 0)]) (st := []) (c_X1_note hX (by decide) hcall) rfl (x_v0 (by decide)) rfl rfl wM_X7_49 wI_X1_note wS_X1_note wN_X1 wC_X1_note (by decide +kernel) rfl (by decide) (by decide) (Nat.le_of_ble_eq_true rfl) dX7_pull_8 ?_
  refine tr_aload_n hO 11 0 rfl dX7_pull_11 ?_
  refine tr_get hO 12 (k := 2) (x_v0 (by decide)) rfl rfl iX7 (by decide) wF_X7_26 rfl rfl dX7_pull_12 ?_
  refine tr_aload_n hO 15 0 rfl dX7_pull_15 ?_
  refine tr_get hO 16 (k := 0) (x_v0 (by decide)) rfl rfl iX7 (by decide) wF_X7_12 rfl rfl dX7_pull_16 ?_
  refine tr_iload_n hO 19 1 rfl dX7_pull_19 ?_
  refine tr_iload_n hO 20 2 rfl dX7_pull_20 ?_
  obtain ⟨v3, μ4, hcall, h⟩ := of_bd h
  refine tr_callI hO 21 (na := 2) (As := [.int a1, .int a2]) (st := [.ref (X.1 19 0)]) (c_X6_takeOut hX (by decide) hcall) rfl (x_vy (by decide) (by decide)) rfl rfl wM_X7_70 wI_X6_takeOut wS_X6_takeOut wN_X6 wC_X6_takeOut (by decide +kernel) rfl (by decide) (by decide) (Nat.le_of_ble_eq_true rfl) dX7_pull_21 ?_
  obtain ⟨v5, μ6, hcall, h⟩ := of_bd h
  refine tr_callI hO 24 (na := 1) (As := [.int v3]) (st := []) (c_X1_kept hX  hcall) rfl (x_v0 (by decide)) rfl rfl wM_X7_57 wI_X1_kept wS_X1_kept wN_X1 wC_X1_kept (by decide +kernel) rfl (by decide) (by decide) (Nat.le_of_ble_eq_true rfl) dX7_pull_24 ?_
  cases h
  exact tr_iret hO 27 hQ rfl dX7_pull_27
set_option maxHeartbeats 4000000 in
set_option maxRecDepth 100000 in
theorem c_X7_push {X : xT} (hX : xOK X) {a1 : Int32} {a2 : Int32}  {μ μ' : mT} {r : Int32} (h : f_X7_push a1 a2 μ = some (r, μ')) : CMi X yX7_push cX7_push 3 .int 4 91 [.ref (X.1 18 0), .int a1, .int a2] μ r μ' := by
  refine CMi_of hX (by decide +kernel) (lv := [(0, .ref (X.1 18 0)), (1, .int a1), (2, .int a2)]) (Nat.le_of_ble_eq_true rfl) rfl (fun Γ hO hn hQ => ?_)
  have hO : Ok X RX7 cX7_push 4 91 Γ := hO
  unfold f_X7_push at h
  refine tr_aload_n hO 0 0 rfl dX7_push_0 ?_
  refine tr_get hO 1 (k := 2) (x_v0 (by decide)) rfl rfl iX7 (by decide) wF_X7_26 rfl rfl dX7_push_1 ?_
  refine tr_aload_n hO 4 0 rfl dX7_push_4 ?_
  refine tr_get hO 5 (k := 0) (x_v0 (by decide)) rfl rfl iX7 (by decide) wF_X7_12 rfl rfl dX7_push_5 ?_
  obtain ⟨v1, μ2, hcall, h⟩ := of_bd h
  refine tr_callV hO 8 (na := 1) (As := [.ref (X.1 0 0)]) (st := []) (c_X1_note hX (by decide) hcall) rfl (x_v0 (by decide)) rfl rfl wM_X7_49 wI_X1_note wS_X1_note wN_X1 wC_X1_note (by decide +kernel) rfl (by decide) (by decide) (Nat.le_of_ble_eq_true rfl) dX7_push_8 ?_
  refine tr_aload_n hO 11 0 rfl dX7_push_11 ?_
  refine tr_get hO 12 (k := 2) (x_v0 (by decide)) rfl rfl iX7 (by decide) wF_X7_26 rfl rfl dX7_push_12 ?_
  refine tr_aload_n hO 15 0 rfl dX7_push_15 ?_
  refine tr_get hO 16 (k := 0) (x_v0 (by decide)) rfl rfl iX7 (by decide) wF_X7_12 rfl rfl dX7_push_16 ?_
  refine tr_iload_n hO 19 1 rfl dX7_push_19 ?_
  refine tr_iload_n hO 20 2 rfl dX7_push_20 ?_
  obtain ⟨v3, μ4, hcall, h⟩ := of_bd h
  refine tr_callI hO 21 (na := 2) (As := [.int a1, .int a2]) (st := [.ref (X.1 19 0)]) (c_X6_bringIn hX (by decide) hcall) rfl (x_vy (by decide) (by decide)) rfl rfl wM_X7_73 wI_X6_bringIn wS_X6_bringIn wN_X6 wC_X6_bringIn (by decide +kernel) rfl (by decide) (by decide) (Nat.le_of_ble_eq_true rfl) dX7_push_21 ?_
  obtain ⟨v5, μ6, hcall, h⟩ := of_bd h
  refine tr_callI hO 24 (na := 1) (As := [.int v3]) (st := []) (c_X1_kept hX  hcall) rfl (x_v0 (by decide)) rfl rfl wM_X7_57 wI_X1_kept wS_X1_kept wN_X1 wC_X1_kept (by decide +kernel) rfl (by decide) (by decide) (Nat.le_of_ble_eq_true rfl) dX7_push_24 ?_
  cases h
  exact tr_iret hO 27 hQ rfl dX7_push_27
set_option maxHeartbeats 4000000 in
set_option maxRecDepth 100000 in
theorem c_X7_round {X : xT} (hX : xOK X)   {μ μ' : mT} {r : Int32} (h : f_X7_round μ = some (r, μ')) : CMi X yX7_round cX7_round 1 .int 4 89 [.ref (X.1 18 0)] μ r μ' := by
  refine CMi_of hX (by decide +kernel) (lv := [(0, .ref (X.1 18 0))]) (Nat.le_of_ble_eq_true rfl) rfl (fun Γ hO hn hQ => ?_)
  have hO : Ok X RX7 cX7_round 4 89 Γ := hO
  unfold f_X7_round at h
  refine tr_aload_n hO 0 0 rfl dX7_round_0 ?_
  refine tr_get hO 1 (k := 2) (x_v0 (by decide)) rfl rfl iX7 (by decide) wF_X7_26 rfl rfl dX7_round_1 ?_
  refine tr_aload_n hO 4 0 rfl dX7_round_4 ?_
  refine tr_get hO 5 (k := 0) (x_v0 (by decide)) rfl rfl iX7 (by decide) wF_X7_12 rfl rfl dX7_round_5 ?_
  obtain ⟨v1, μ2, hcall, h⟩ := of_bd h
  refine tr_callV hO 8 (na := 1) (As := [.ref (X.1 0 0)]) (st := []) (c_X1_note hX (by decide) hcall) rfl (x_v0 (by decide)) rfl rfl wM_X7_49 wI_X1_note wS_X1_note wN_X1 wC_X1_note (by decide +kernel) rfl (by decide) (by decide) (Nat.le_of_ble_eq_true rfl) dX7_round_8 ?_
  refine tr_aload_n hO 11 0 rfl dX7_round_11 ?_
  refine tr_get hO 12 (k := 2) (x_v0 (by decide)) rfl rfl iX7 (by decide) wF_X7_26 rfl rfl dX7_round_12 ?_
  refine tr_aload_n hO 15 0 rfl dX7_round_15 ?_
  refine tr_get hO 16 (k := 0) (x_v0 (by decide)) rfl rfl iX7 (by decide) wF_X7_12 rfl rfl dX7_round_16 ?_
  obtain ⟨v3, μ4, hcall, h⟩ := of_bd h
  refine tr_callI hO 19 (na := 0) (As := []) (st := [.ref (X.1 19 0)]) (c_X6_goRound hX (by decide) hcall) rfl (x_vy (by decide) (by decide)) rfl rfl wM_X7_76 wI_X6_goRound wS_X6_goRound wN_X6 wC_X6_goRound (by decide +kernel) rfl (by decide) (by decide) (Nat.le_of_ble_eq_true rfl) dX7_round_19 ?_
  obtain ⟨v5, μ6, hcall, h⟩ := of_bd h
  refine tr_callI hO 22 (na := 1) (As := [.int v3]) (st := []) (c_X1_kept hX  hcall) rfl (x_v0 (by decide)) rfl rfl wM_X7_57 wI_X1_kept wS_X1_kept wN_X1 wC_X1_kept (by decide +kernel) rfl (by decide) (by decide) (Nat.le_of_ble_eq_true rfl) dX7_round_22 ?_
  cases h
  exact tr_iret hO 25 hQ rfl dX7_round_25
set_option maxHeartbeats 4000000 in
set_option maxRecDepth 100000 in
theorem c_X7_pass {X : xT} (hX : xOK X) {a1 : Int32}  {μ μ' : mT} {r : Int32} (h : f_X7_pass a1 μ = some (r, μ')) : CMi X yX7_pass cX7_pass 2 .int 4 89 [.ref (X.1 18 0), .int a1] μ r μ' := by
  refine CMi_of hX (by decide +kernel) (lv := [(0, .ref (X.1 18 0)), (1, .int a1)]) (Nat.le_of_ble_eq_true rfl) rfl (fun Γ hO hn hQ => ?_)
  have hO : Ok X RX7 cX7_pass 4 89 Γ := hO
  unfold f_X7_pass at h
  refine tr_aload_n hO 0 0 rfl dX7_pass_0 ?_
  refine tr_get hO 1 (k := 2) (x_v0 (by decide)) rfl rfl iX7 (by decide) wF_X7_26 rfl rfl dX7_pass_1 ?_
  refine tr_aload_n hO 4 0 rfl dX7_pass_4 ?_
  refine tr_get hO 5 (k := 0) (x_v0 (by decide)) rfl rfl iX7 (by decide) wF_X7_12 rfl rfl dX7_pass_5 ?_
  obtain ⟨v1, μ2, hcall, h⟩ := of_bd h
  refine tr_callV hO 8 (na := 1) (As := [.ref (X.1 0 0)]) (st := []) (c_X1_note hX (by decide) hcall) rfl (x_v0 (by decide)) rfl rfl wM_X7_49 wI_X1_note wS_X1_note wN_X1 wC_X1_note (by decide +kernel) rfl (by decide) (by decide) (Nat.le_of_ble_eq_true rfl) dX7_pass_8 ?_
  refine tr_aload_n hO 11 0 rfl dX7_pass_11 ?_
  refine tr_get hO 12 (k := 2) (x_v0 (by decide)) rfl rfl iX7 (by decide) wF_X7_26 rfl rfl dX7_pass_12 ?_
  refine tr_aload_n hO 15 0 rfl dX7_pass_15 ?_
  refine tr_get hO 16 (k := 0) (x_v0 (by decide)) rfl rfl iX7 (by decide) wF_X7_12 rfl rfl dX7_pass_16 ?_
  refine tr_iload_n hO 19 1 rfl dX7_pass_19 ?_
  obtain ⟨v3, μ4, hcall, h⟩ := of_bd h
  refine tr_callI hO 20 (na := 1) (As := [.int a1]) (st := [.ref (X.1 19 0)]) (c_X6_letPass hX (by decide) hcall) rfl (x_vy (by decide) (by decide)) rfl rfl wM_X7_80 wI_X6_letPass wS_X6_letPass wN_X6 wC_X6_letPass (by decide +kernel) rfl (by decide) (by decide) (Nat.le_of_ble_eq_true rfl) dX7_pass_20 ?_
  obtain ⟨v5, μ6, hcall, h⟩ := of_bd h
  refine tr_callI hO 23 (na := 1) (As := [.int v3]) (st := []) (c_X1_kept hX  hcall) rfl (x_v0 (by decide)) rfl rfl wM_X7_57 wI_X1_kept wS_X1_kept wN_X1 wC_X1_kept (by decide +kernel) rfl (by decide) (by decide) (Nat.le_of_ble_eq_true rfl) dX7_pass_23 ?_
  cases h
  exact tr_iret hO 26 hQ rfl dX7_pass_26
set_option maxHeartbeats 4000000 in
set_option maxRecDepth 100000 in
theorem c_X7_readList {X : xT} (hX : xOK X) {a1 : Int64}  {μ μ' : mT} {r : Int32} (h : f_X7_readList a1 μ = some (r, μ')) : CMi X yX7_readList cX7_readList 8 .int 0 0 [.ref (X.1 18 0), .long a1] μ r μ' := by
  refine CMi_of hX (by decide +kernel) (lv := [(0, .ref (X.1 18 0)), (1, .long a1)]) (Nat.le_of_ble_eq_true rfl) rfl (fun Γ hO hn hQ => ?_)
  have hO : Ok X RX7 cX7_readList 0 0 Γ := hO
  unfold f_X7_readList at h
  refine tr_lload_n hO 0 1 rfl dX7_readList_0 ?_
  refine tr_lstore_n hO 1 (v := a1) rfl (lv' := [(3, .long a1), (0, .ref (X.1 18 0)), (1, .long a1)]) hn rfl (by decide) rfl dX7_readList_1 ?_
  refine tr_iconst hO 2 (v := 0) (by decide) dX7_readList_2 ?_
  refine tr_istore hO 3 (v := 0) rfl (lv' := [(5, .int 0), (3, .long a1), (0, .ref (X.1 18 0)), (1, .long a1)]) hn (by decide) rfl dX7_readList_3 ?_
  refine tr_iconst hO 5 (v := 0) (by decide) dX7_readList_5 ?_
  refine tr_istore hO 6 (v := 0) rfl (lv' := [(6, .int 0), (5, .int 0), (3, .long a1), (0, .ref (X.1 18 0)), (1, .long a1)]) hn (by decide) rfl dX7_readList_6 ?_
  obtain ⟨K5, e_K5, h⟩ := of_lt h
  have K5_T : ∀ (v6 : Int64) (v7 : Int32) (μ8 : mT), K5 v6 v7 μ8 = some (r, μ') → tj X Γ μ8 62 [(3, .long v6), (5, .int v7)] [] := by
    intro v6 v7 μ8 h
    rw [e_K5] at h
    refine tr_lload_n hO 62 0 rfl dX7_readList_62 ?_
    refine tr_lconst hO 63 (v := 0) (by decide) dX7_readList_63 ?_
    refine tr_lcmp hO 64 dX7_readList_64 ?_
    refine tr_if_ne hO 65 73 (by decide) dX7_readList_65 (fun hc => ?_) (fun hc => ?_)
    · have h := of_f hc h
      refine tr_iconst hO 73 (v := 0) (by decide) dX7_readList_73 ?_
      cases h
      exact tr_iret hO 74 hQ rfl dX7_readList_74
    · have h := of_t hc h
      refine tr_iload hO 68 1 rfl dX7_readList_68 ?_
      refine tr_goto hO 70 74 (by decide) dX7_readList_70 ?_
      cases h
      exact tr_iret hO 74 hQ rfl dX7_readList_74
  have L8_T : ∀ (n : Nat) (v1 : Int64) (v2 : Int32) (v3 : Int32) (μ4 : mT), f_X7_readList_L8 K5 n v1 v2 v3 μ4 = some (r, μ') → tj X Γ μ4 8 [(0, .ref (X.1 18 0)), (3, .long v1), (5, .int v2), (6, .int v3)] [] := by
    intro n
    induction n with
    | zero =>
      intro v1 v2 v3 μ4 h
      rw [f_X7_readList_L8] at h
      cases h
    | succ n ih =>
      intro v1 v2 v3 μ4 h
      rw [f_X7_readList_L8] at h
      refine tr_iload hO 8 3 rfl dX7_readList_8 ?_
      refine tr_bipush hO 10 (v := 8) (by decide) dX7_readList_10 ?_
      refine tr_icmp_ge hO 12 62 (by decide) dX7_readList_12 (fun hc => ?_) (fun hc => ?_)
      · have h := of_t hc h
        refine tr_sub [1, 2] rfl ?_
        exact K5_T _ _ _ h
      · have h := of_f hc h
        refine tr_lload_n hO 15 1 rfl dX7_readList_15 ?_
        refine tr_lconst hO 16 (v := 0) (by decide) dX7_readList_16 ?_
        refine tr_lcmp hO 17 dX7_readList_17 ?_
        refine tr_if_le hO 18 62 (by decide) dX7_readList_18 (fun hc => ?_) (fun hc => ?_)
        · have h := of_t hc h
          refine tr_sub [1, 2] rfl ?_
          exact K5_T _ _ _ h
        · have h := of_f hc h
          refine tr_lload_n hO 21 1 rfl dX7_readList_21 ?_
          refine tr_ldc2 hO 22 (v := 31) wK_X7_91 dX7_readList_22 ?_
          refine tr_lrem hO 25 (by decide) dX7_readList_25 ?_
          refine tr_l2i hO 26 dX7_readList_26 ?_
          obtain ⟨v9, e_v9, h⟩ := of_lt h
          refine tr_istore hO 27 (v := v9) e_v9 (lv' := [(7, .int v9), (0, .ref (X.1 18 0)), (3, .long v1), (5, .int v2), (6, .int v3)]) hn (by decide) rfl dX7_readList_27 ?_
          refine tr_iload hO 29 0 rfl dX7_readList_29 ?_
          refine tr_if_ne hO 31 36 (by decide) dX7_readList_31 (fun hc => ?_) (fun hc => ?_)
          · have h := of_f hc h
            refine tr_aload_n hO 36 1 rfl dX7_readList_36 ?_
            refine tr_get hO 37 (k := 6) (x_v0 (by decide)) rfl rfl iX7 (by decide) wF_X7_45 rfl rfl dX7_readList_37 ?_
            refine tr_iload hO 40 4 rfl dX7_readList_40 ?_
            refine tr_iload hO 42 0 rfl dX7_readList_42 ?_
            refine tr_iconst hO 44 (v := 1) (by decide) dX7_readList_44 ?_
            refine tr_isub hO 45 dX7_readList_45 ?_
            obtain ⟨hg, h⟩ := of_gd h
            obtain ⟨μ10, e_μ10, h⟩ := of_lt h
            refine tr_iast hO 46 e_μ10 (x_v0 (by decide)) a_26 hg dX7_readList_46 ?_
            obtain ⟨v11, e_v11, h⟩ := of_lt h
            refine tr_iinc hO 47 (q := 3) (v := v11) (lv' := [(5, .int v11), (7, .int v9), (0, .ref (X.1 18 0)), (3, .long v1), (6, .int v3)]) hn rfl (by rw [e_v11]; rfl) (by decide) rfl dX7_readList_47 ?_
            refine tr_lload_n hO 50 3 rfl dX7_readList_50 ?_
            refine tr_ldc2 hO 51 (v := 31) wK_X7_91 dX7_readList_51 ?_
            refine tr_ldiv hO 54 (by decide) dX7_readList_54 ?_
            obtain ⟨v12, e_v12, h⟩ := of_lt h
            refine tr_lstore_n hO 55 (v := v12) e_v12 (lv' := [(3, .long v12), (5, .int v11), (7, .int v9), (0, .ref (X.1 18 0)), (6, .int v3)]) hn rfl (by decide) rfl dX7_readList_55 ?_
            obtain ⟨v13, e_v13, h⟩ := of_lt h
            refine tr_iinc hO 56 (q := 4) (v := v13) (lv' := [(6, .int v13), (3, .long v12), (5, .int v11), (7, .int v9), (0, .ref (X.1 18 0))]) hn rfl (by rw [e_v13]; rfl) (by decide) rfl dX7_readList_56 ?_
            refine tr_goto hO 59 8 (by decide) dX7_readList_59 ?_
            refine tr_sub [4, 1, 2, 0] rfl ?_
            exact ih _ _ _ _ h
          · have h := of_t hc h
            refine tr_iconst hO 34 (v := 0) (by decide) dX7_readList_34 ?_
            cases h
            exact tr_iret hO 35 hQ rfl dX7_readList_35
  refine tr_sub [3, 2, 1, 0] rfl ?_
  exact L8_T _ _ _ _ _ h
set_option maxHeartbeats 4000000 in
set_option maxRecDepth 100000 in
theorem c_X7_train {X : xT} (hX : xOK X) {a1 : Int64} {a3 : Int32}  {μ μ' : mT} {r : Int32} (h : f_X7_train a1 a3 μ = some (r, μ')) : CMi X yX7_train cX7_train 5 .int 4 94 [.ref (X.1 18 0), .long a1, .int a3] μ r μ' := by
  refine CMi_of hX (by decide +kernel) (lv := [(0, .ref (X.1 18 0)), (1, .long a1), (3, .int a3)]) (Nat.le_of_ble_eq_true rfl) rfl (fun Γ hO hn hQ => ?_)
  have hO : Ok X RX7 cX7_train 4 94 Γ := hO
  unfold f_X7_train at h
  refine tr_aload_n hO 0 0 rfl dX7_train_0 ?_
  refine tr_get hO 1 (k := 2) (x_v0 (by decide)) rfl rfl iX7 (by decide) wF_X7_26 rfl rfl dX7_train_1 ?_
  refine tr_aload_n hO 4 0 rfl dX7_train_4 ?_
  refine tr_get hO 5 (k := 0) (x_v0 (by decide)) rfl rfl iX7 (by decide) wF_X7_12 rfl rfl dX7_train_5 ?_
  obtain ⟨v1, μ2, hcall, h⟩ := of_bd h
  refine tr_callV hO 8 (na := 1) (As := [.ref (X.1 0 0)]) (st := []) (c_X1_note hX (by decide) hcall) rfl (x_v0 (by decide)) rfl rfl wM_X7_49 wI_X1_note wS_X1_note wN_X1 wC_X1_note (by decide +kernel) rfl (by decide) (by decide) (Nat.le_of_ble_eq_true rfl) dX7_train_8 ?_
  refine tr_aload_n hO 11 0 rfl dX7_train_11 ?_
  refine tr_lload_n hO 12 1 rfl dX7_train_12 ?_
  obtain ⟨v3, μ4, hcall, h⟩ := of_bd h
  refine tr_callI hO 13 (na := 1) (As := [.long a1]) (st := []) (c_X7_readList hX  hcall) rfl (x_v0 (by decide)) rfl rfl wM_X7_83 wI_X7_readList wS_X7_readList wN_X7 wC_X7_readList (by decide +kernel) rfl (by decide) (by decide) (Nat.le_of_ble_eq_true rfl) dX7_train_13 ?_
  refine tr_istore hO 16 (v := v3) rfl (lv' := [(4, .int v3), (0, .ref (X.1 18 0)), (1, .long a1), (3, .int a3)]) hn (by decide) rfl dX7_train_16 ?_
  refine tr_aload_n hO 18 1 rfl dX7_train_18 ?_
  refine tr_get hO 19 (k := 2) (x_v0 (by decide)) rfl rfl iX7 (by decide) wF_X7_26 rfl rfl dX7_train_19 ?_
  refine tr_aload_n hO 22 1 rfl dX7_train_22 ?_
  refine tr_get hO 23 (k := 0) (x_v0 (by decide)) rfl rfl iX7 (by decide) wF_X7_12 rfl rfl dX7_train_23 ?_
  refine tr_aload_n hO 26 1 rfl dX7_train_26 ?_
  refine tr_get hO 27 (k := 6) (x_v0 (by decide)) rfl rfl iX7 (by decide) wF_X7_45 rfl rfl dX7_train_27 ?_
  refine tr_iload hO 30 0 rfl dX7_train_30 ?_
  refine tr_iload_n hO 32 3 rfl dX7_train_32 ?_
  obtain ⟨v5, μ6, hcall, h⟩ := of_bd h
  refine tr_callI hO 33 (na := 3) (As := [.ref (X.1 26 0), .int v3, .int a3]) (st := [.ref (X.1 19 0)]) (c_X6_addTrain hX (by decide) hcall) rfl (x_vy (by decide) (by decide)) rfl rfl wM_X7_87 wI_X6_addTrain wS_X6_addTrain wN_X6 wC_X6_addTrain (by decide +kernel) rfl (by decide) (by decide) (Nat.le_of_ble_eq_true rfl) dX7_train_33 ?_
  obtain ⟨v7, μ8, hcall, h⟩ := of_bd h
  refine tr_callI hO 36 (na := 1) (As := [.int v5]) (st := []) (c_X1_kept hX  hcall) rfl (x_v0 (by decide)) rfl rfl wM_X7_57 wI_X1_kept wS_X1_kept wN_X1 wC_X1_kept (by decide +kernel) rfl (by decide) (by decide) (Nat.le_of_ble_eq_true rfl) dX7_train_36 ?_
  cases h
  exact tr_iret hO 39 hQ rfl dX7_train_39
set_option maxHeartbeats 4000000 in
set_option maxRecDepth 100000 in
theorem c_X7_leave {X : xT} (hX : xOK X) {a1 : Int32}  {μ μ' : mT} {r : Int32} (h : f_X7_leave a1 μ = some (r, μ')) : CMi X yX7_leave cX7_leave 2 .int 5 111 [.ref (X.1 18 0), .int a1] μ r μ' := by
  refine CMi_of hX (by decide +kernel) (lv := [(0, .ref (X.1 18 0)), (1, .int a1)]) (Nat.le_of_ble_eq_true rfl) rfl (fun Γ hO hn hQ => ?_)
  have hO : Ok X RX7 cX7_leave 5 111 Γ := hO
  unfold f_X7_leave at h
  refine tr_aload_n hO 0 0 rfl dX7_leave_0 ?_
  refine tr_get hO 1 (k := 2) (x_v0 (by decide)) rfl rfl iX7 (by decide) wF_X7_26 rfl rfl dX7_leave_1 ?_
  refine tr_aload_n hO 4 0 rfl dX7_leave_4 ?_
  refine tr_get hO 5 (k := 0) (x_v0 (by decide)) rfl rfl iX7 (by decide) wF_X7_12 rfl rfl dX7_leave_5 ?_
  obtain ⟨v1, μ2, hcall, h⟩ := of_bd h
  refine tr_callV hO 8 (na := 1) (As := [.ref (X.1 0 0)]) (st := []) (c_X1_note hX (by decide) hcall) rfl (x_v0 (by decide)) rfl rfl wM_X7_49 wI_X1_note wS_X1_note wN_X1 wC_X1_note (by decide +kernel) rfl (by decide) (by decide) (Nat.le_of_ble_eq_true rfl) dX7_leave_8 ?_
  refine tr_aload_n hO 11 0 rfl dX7_leave_11 ?_
  refine tr_get hO 12 (k := 2) (x_v0 (by decide)) rfl rfl iX7 (by decide) wF_X7_26 rfl rfl dX7_leave_12 ?_
  refine tr_aload_n hO 15 0 rfl dX7_leave_15 ?_
  refine tr_get hO 16 (k := 0) (x_v0 (by decide)) rfl rfl iX7 (by decide) wF_X7_12 rfl rfl dX7_leave_16 ?_
  refine tr_iload_n hO 19 1 rfl dX7_leave_19 ?_
  obtain ⟨v3, μ4, hcall, h⟩ := of_bd h
  refine tr_callI hO 20 (na := 1) (As := [.int a1]) (st := [.ref (X.1 19 0)]) (c_X6_letLeave hX (by decide) hcall) rfl (x_vy (by decide) (by decide)) rfl rfl wM_X7_96 wI_X6_letLeave wS_X6_letLeave wN_X6 wC_X6_letLeave (by decide +kernel) rfl (by decide) (by decide) (Nat.le_of_ble_eq_true rfl) dX7_leave_20 ?_
  obtain ⟨v5, μ6, hcall, h⟩ := of_bd h
  refine tr_callI hO 23 (na := 1) (As := [.int v3]) (st := []) (c_X1_kept hX  hcall) rfl (x_v0 (by decide)) rfl rfl wM_X7_57 wI_X1_kept wS_X1_kept wN_X1 wC_X1_kept (by decide +kernel) rfl (by decide) (by decide) (Nat.le_of_ble_eq_true rfl) dX7_leave_23 ?_
  cases h
  exact tr_iret hO 26 hQ rfl dX7_leave_26
set_option maxHeartbeats 4000000 in
set_option maxRecDepth 100000 in
theorem c_X7_ofTrack {X : xT} (hX : xOK X) {a1 : Int32} {a2 : Int32}  {μ μ' : mT} {r : Int32} (h : f_X7_ofTrack a1 a2 μ = some (r, μ')) : CMi X yX7_ofTrack cX7_ofTrack 3 .int 2 45 [.ref (X.1 18 0), .int a1, .int a2] μ r μ' := by
  refine CMi_of hX (by decide +kernel) (lv := [(0, .ref (X.1 18 0)), (1, .int a1), (2, .int a2)]) (Nat.le_of_ble_eq_true rfl) rfl (fun Γ hO hn hQ => ?_)
  have hO : Ok X RX7 cX7_ofTrack 2 45 Γ := hO
  unfold f_X7_ofTrack at h
  refine tr_aload_n hO 0 0 rfl dX7_ofTrack_0 ?_
  refine tr_get hO 1 (k := 0) (x_v0 (by decide)) rfl rfl iX7 (by decide) wF_X7_12 rfl rfl dX7_ofTrack_1 ?_
  refine tr_iload_n hO 4 1 rfl dX7_ofTrack_4 ?_
  refine tr_iload_n hO 5 2 rfl dX7_ofTrack_5 ?_
  obtain ⟨v1, μ2, hcall, h⟩ := of_bd h
  refine tr_callI hO 6 (na := 2) (As := [.int a1, .int a2]) (st := []) (c_X6_aboutTrack hX (by decide) hcall) rfl (x_vy (by decide) (by decide)) rfl rfl wM_X7_99 wI_X6_aboutTrack wS_X6_aboutTrack wN_X6 wC_X6_aboutTrack (by decide +kernel) rfl (by decide) (by decide) (Nat.le_of_ble_eq_true rfl) dX7_ofTrack_6 ?_
  cases h
  exact tr_iret hO 9 hQ rfl dX7_ofTrack_9
set_option maxHeartbeats 4000000 in
set_option maxRecDepth 100000 in
theorem c_X7_at {X : xT} (hX : xOK X) {a1 : Int32} {a2 : Int32}  {μ μ' : mT} {r : Int32} (h : f_X7_at a1 a2 μ = some (r, μ')) : CMi X yX7_at cX7_at 3 .int 1 23 [.ref (X.1 18 0), .int a1, .int a2] μ r μ' := by
  refine CMi_of hX (by decide +kernel) (lv := [(0, .ref (X.1 18 0)), (1, .int a1), (2, .int a2)]) (Nat.le_of_ble_eq_true rfl) rfl (fun Γ hO hn hQ => ?_)
  have hO : Ok X RX7 cX7_at 1 23 Γ := hO
  unfold f_X7_at at h
  refine tr_iload_n hO 0 1 rfl dX7_at_0 ?_
  refine tr_bipush hO 1 (v := (-6)) (by decide) dX7_at_1 ?_
  refine tr_icmp_ne hO 3 20 (by decide) dX7_at_3 (fun hc => ?_) (fun hc => ?_)
  · have h := of_f hc h
    refine tr_aload_n hO 20 0 rfl dX7_at_20 ?_
    refine tr_get hO 21 (k := 0) (x_v0 (by decide)) rfl rfl iX7 (by decide) wF_X7_12 rfl rfl dX7_at_21 ?_
    refine tr_iload_n hO 24 1 rfl dX7_at_24 ?_
    obtain ⟨v1, μ2, hcall, h⟩ := of_bd h
    refine tr_callI hO 25 (na := 1) (As := [.int a1]) (st := []) (c_X6_hasTrack hX (by decide) hcall) rfl (x_vy (by decide) (by decide)) rfl rfl wM_X7_111 wI_X6_hasTrack wS_X6_hasTrack wN_X6 wC_X6_hasTrack (by decide +kernel) rfl (by decide) (by decide) (Nat.le_of_ble_eq_true rfl) dX7_at_25 ?_
    refine tr_if_eq hO 28 46 (by decide) dX7_at_28 (fun hc => ?_) (fun hc => ?_)
    · have h := of_t hc h
      refine tr_iconst hO 46 (v := (-1)) (by decide) dX7_at_46 ?_
      cases h
      exact tr_iret hO 47 hQ rfl dX7_at_47
    · have h := of_f hc h
      refine tr_aload_n hO 31 0 rfl dX7_at_31 ?_
      refine tr_get hO 32 (k := 0) (x_v0 (by decide)) rfl rfl iX7 (by decide) wF_X7_12 rfl rfl dX7_at_32 ?_
      refine tr_getN hO 35 (k := 11) (x_vy (by decide) (by decide)) rfl rfl iX6 (by decide) (host := RX7) (by decide +kernel) rfl rfl dX7_at_35 ?_
      refine tr_iload_n hO 38 1 rfl dX7_at_38 ?_
      refine tr_iload_n hO 39 2 rfl dX7_at_39 ?_
      obtain ⟨v3, μ4, hcall, h⟩ := of_bd h
      refine tr_callI hO 40 (na := 2) (As := [.int a1, .int a2]) (st := []) (c_X5_wagonAt hX (by decide) hcall) rfl (x_vy (by decide) (by decide)) rfl rfl wM_X7_106 wI_X5_wagonAt wS_X5_wagonAt wN_X5 wC_X5_wagonAt (by decide +kernel) rfl (by decide) (by decide) (Nat.le_of_ble_eq_true rfl) dX7_at_40 ?_
      refine tr_goto hO 43 47 (by decide) dX7_at_43 ?_
      cases h
      exact tr_iret hO 47 hQ rfl dX7_at_47
  · have h := of_t hc h
    refine tr_aload_n hO 6 0 rfl dX7_at_6 ?_
    refine tr_get hO 7 (k := 0) (x_v0 (by decide)) rfl rfl iX7 (by decide) wF_X7_12 rfl rfl dX7_at_7 ?_
    refine tr_getN hO 10 (k := 11) (x_vy (by decide) (by decide)) rfl rfl iX6 (by decide) (host := RX7) (by decide +kernel) rfl rfl dX7_at_10 ?_
    refine tr_bipush hO 13 (v := 8) (by decide) dX7_at_13 ?_
    refine tr_iload_n hO 15 2 rfl dX7_at_15 ?_
    obtain ⟨v5, μ6, hcall, h⟩ := of_bd h
    refine tr_callI hO 16 (na := 2) (As := [.int 8, .int a2]) (st := []) (c_X5_wagonAt hX (by decide) hcall) rfl (x_vy (by decide) (by decide)) rfl rfl wM_X7_106 wI_X5_wagonAt wS_X5_wagonAt wN_X5 wC_X5_wagonAt (by decide +kernel) rfl (by decide) (by decide) (Nat.le_of_ble_eq_true rfl) dX7_at_16 ?_
    cases h
    exact tr_iret hO 19 hQ rfl dX7_at_19
set_option maxHeartbeats 4000000 in
set_option maxRecDepth 100000 in
theorem c_X7_ofWagon {X : xT} (hX : xOK X) {a1 : Int32} {a2 : Int32}  {μ μ' : mT} {r : Int32} (h : f_X7_ofWagon a1 a2 μ = some (r, μ')) : CMi X yX7_ofWagon cX7_ofWagon 3 .int 3 70 [.ref (X.1 18 0), .int a1, .int a2] μ r μ' := by
  refine CMi_of hX (by decide +kernel) (lv := [(0, .ref (X.1 18 0)), (1, .int a1), (2, .int a2)]) (Nat.le_of_ble_eq_true rfl) rfl (fun Γ hO hn hQ => ?_)
  have hO : Ok X RX7 cX7_ofWagon 3 70 Γ := hO
  unfold f_X7_ofWagon at h
  refine tr_aload_n hO 0 0 rfl dX7_ofWagon_0 ?_
  refine tr_get hO 1 (k := 0) (x_v0 (by decide)) rfl rfl iX7 (by decide) wF_X7_12 rfl rfl dX7_ofWagon_1 ?_
  refine tr_iload_n hO 4 1 rfl dX7_ofWagon_4 ?_
  refine tr_iload_n hO 5 2 rfl dX7_ofWagon_5 ?_
  obtain ⟨v1, μ2, hcall, h⟩ := of_bd h
  refine tr_callI hO 6 (na := 2) (As := [.int a1, .int a2]) (st := []) (c_X6_aboutWagon hX (by decide) hcall) rfl (x_vy (by decide) (by decide)) rfl rfl wM_X7_115 wI_X6_aboutWagon wS_X6_aboutWagon wN_X6 wC_X6_aboutWagon (by decide +kernel) rfl (by decide) (by decide) (Nat.le_of_ble_eq_true rfl) dX7_ofWagon_6 ?_
  cases h
  exact tr_iret hO 9 hQ rfl dX7_ofWagon_9
set_option maxHeartbeats 4000000 in
set_option maxRecDepth 100000 in
theorem c_X7_ofTrain {X : xT} (hX : xOK X) {a1 : Int32} {a2 : Int32}  {μ μ' : mT} {r : Int32} (h : f_X7_ofTrain a1 a2 μ = some (r, μ')) : CMi X yX7_ofTrain cX7_ofTrain 3 .int 4 90 [.ref (X.1 18 0), .int a1, .int a2] μ r μ' := by
  refine CMi_of hX (by decide +kernel) (lv := [(0, .ref (X.1 18 0)), (1, .int a1), (2, .int a2)]) (Nat.le_of_ble_eq_true rfl) rfl (fun Γ hO hn hQ => ?_)
  have hO : Ok X RX7 cX7_ofTrain 4 90 Γ := hO
  unfold f_X7_ofTrain at h
  refine tr_aload_n hO 0 0 rfl dX7_ofTrain_0 ?_
  refine tr_get hO 1 (k := 0) (x_v0 (by decide)) rfl rfl iX7 (by decide) wF_X7_12 rfl rfl dX7_ofTrain_1 ?_
  refine tr_iload_n hO 4 1 rfl dX7_ofTrain_4 ?_
  refine tr_iload_n hO 5 2 rfl dX7_ofTrain_5 ?_
  obtain ⟨v1, μ2, hcall, h⟩ := of_bd h
  refine tr_callI hO 6 (na := 2) (As := [.int a1, .int a2]) (st := []) (c_X6_aboutTrain hX (by decide) hcall) rfl (x_vy (by decide) (by decide)) rfl rfl wM_X7_118 wI_X6_aboutTrain wS_X6_aboutTrain wN_X6 wC_X6_aboutTrain (by decide +kernel) rfl (by decide) (by decide) (Nat.le_of_ble_eq_true rfl) dX7_ofTrain_6 ?_
  cases h
  exact tr_iret hO 9 hQ rfl dX7_ofTrain_9
set_option maxHeartbeats 4000000 in
set_option maxRecDepth 100000 in
theorem c_X7_count {X : xT} (hX : xOK X) {a1 : Int32}  {μ μ' : mT} {r : Int32} (h : f_X7_count a1 μ = some (r, μ')) : CMi X yX7_count cX7_count 2 .int 2 44 [.ref (X.1 18 0), .int a1] μ r μ' := by
  refine CMi_of hX (by decide +kernel) (lv := [(0, .ref (X.1 18 0)), (1, .int a1)]) (Nat.le_of_ble_eq_true rfl) rfl (fun Γ hO hn hQ => ?_)
  have hO : Ok X RX7 cX7_count 2 44 Γ := hO
  unfold f_X7_count at h
  refine tr_iload_n hO 0 1 rfl dX7_count_0 ?_
  refine tr_bipush hO 1 (v := 13) (by decide) dX7_count_1 ?_
  refine tr_icmp_ne hO 3 14 (by decide) dX7_count_3 (fun hc => ?_) (fun hc => ?_)
  · have h := of_f hc h
    refine tr_iload_n hO 14 1 rfl dX7_count_14 ?_
    refine tr_bipush hO 15 (v := 14) (by decide) dX7_count_15 ?_
    refine tr_icmp_ne hO 17 28 (by decide) dX7_count_17 (fun hc => ?_) (fun hc => ?_)
    · have h := of_f hc h
      refine tr_aload_n hO 28 0 rfl dX7_count_28 ?_
      refine tr_get hO 29 (k := 0) (x_v0 (by decide)) rfl rfl iX7 (by decide) wF_X7_12 rfl rfl dX7_count_29 ?_
      refine tr_iload_n hO 32 1 rfl dX7_count_32 ?_
      obtain ⟨v1, μ2, hcall, h⟩ := of_bd h
      refine tr_callI hO 33 (na := 1) (As := [.int a1]) (st := []) (c_X6_aboutYard hX (by decide) hcall) rfl (x_vy (by decide) (by decide)) rfl rfl wM_X7_128 wI_X6_aboutYard wS_X6_aboutYard wN_X6 wC_X6_aboutYard (by decide +kernel) rfl (by decide) (by decide) (Nat.le_of_ble_eq_true rfl) dX7_count_33 ?_
      cases h
      exact tr_iret hO 36 hQ rfl dX7_count_36
    · have h := of_t hc h
      refine tr_aload_n hO 20 0 rfl dX7_count_20 ?_
      refine tr_get hO 21 (k := 2) (x_v0 (by decide)) rfl rfl iX7 (by decide) wF_X7_26 rfl rfl dX7_count_21 ?_
      refine tr_getN hO 24 (k := 0) (x_v0 (by decide)) rfl rfl iX1 (by decide) (host := RX7) (by decide +kernel) rfl rfl dX7_count_24 ?_
      cases h
      exact tr_iret hO 27 hQ rfl dX7_count_27
  · have h := of_t hc h
    refine tr_aload_n hO 6 0 rfl dX7_count_6 ?_
    refine tr_get hO 7 (k := 5) (x_v0 (by decide)) rfl rfl iX7 (by decide) wF_X7_41 rfl rfl dX7_count_7 ?_
    refine tr_getN hO 10 (k := 0) (x_v0 (by decide)) rfl rfl iX2 (by decide) (host := RX7) (by decide +kernel) rfl rfl dX7_count_10 ?_
    cases h
    exact tr_iret hO 13 hQ rfl dX7_count_13
set_option maxHeartbeats 4000000 in
set_option maxRecDepth 100000 in
theorem c_X7_freeFrom {X : xT} (hX : xOK X) {a1 : Int32}  {μ μ' : mT} {r : Int32} (h : f_X7_freeFrom a1 μ = some (r, μ')) : CMi X yX7_freeFrom cX7_freeFrom 2 .int 1 25 [.ref (X.1 18 0), .int a1] μ r μ' := by
  refine CMi_of hX (by decide +kernel) (lv := [(0, .ref (X.1 18 0)), (1, .int a1)]) (Nat.le_of_ble_eq_true rfl) rfl (fun Γ hO hn hQ => ?_)
  have hO : Ok X RX7 cX7_freeFrom 1 25 Γ := hO
  unfold f_X7_freeFrom at h
  refine tr_iload_n hO 0 1 rfl dX7_freeFrom_0 ?_
  refine tr_iconst hO 1 (v := 1) (by decide) dX7_freeFrom_1 ?_
  refine tr_icmp_lt hO 2 12 (by decide) dX7_freeFrom_2 (fun hc => ?_) (fun hc => ?_)
  · have h := of_t hc h
    refine tr_bipush hO 12 (v := (-2)) (by decide) dX7_freeFrom_12 ?_
    cases h
    exact tr_iret hO 14 hQ rfl dX7_freeFrom_14
  · have h := of_f hc h
    refine tr_iload_n hO 5 1 rfl dX7_freeFrom_5 ?_
    refine tr_sipush hO 6 (v := 500) (by decide) dX7_freeFrom_6 ?_
    refine tr_icmp_le hO 9 15 (by decide) dX7_freeFrom_9 (fun hc => ?_) (fun hc => ?_)
    · have h := of_t hc h
      refine tr_aload_n hO 15 0 rfl dX7_freeFrom_15 ?_
      refine tr_get hO 16 (k := 0) (x_v0 (by decide)) rfl rfl iX7 (by decide) wF_X7_12 rfl rfl dX7_freeFrom_16 ?_
      refine tr_getN hO 19 (k := 12) (x_vy (by decide) (by decide)) rfl rfl iX6 (by decide) (host := RX7) (by decide +kernel) rfl rfl dX7_freeFrom_19 ?_
      refine tr_aload_n hO 22 0 rfl dX7_freeFrom_22 ?_
      refine tr_get hO 23 (k := 0) (x_v0 (by decide)) rfl rfl iX7 (by decide) wF_X7_12 rfl rfl dX7_freeFrom_23 ?_
      refine tr_getN hO 26 (k := 0) (x_vy (by decide) (by decide)) rfl rfl iX6 (by decide) (host := RX7) (by decide +kernel) rfl rfl dX7_freeFrom_26 ?_
      refine tr_iload_n hO 29 1 rfl dX7_freeFrom_29 ?_
      obtain ⟨v1, μ2, hcall, h⟩ := of_bd h
      refine tr_callI hO 30 (na := 2) (As := [.int (μ 0 0 0), .int a1]) (st := []) (c_X0_firstFree hX (by decide) hcall) rfl (x_vy (by decide) (by decide)) rfl rfl wM_X7_138 wI_X0_firstFree wS_X0_firstFree wN_X0 wC_X0_firstFree (by decide +kernel) rfl (by decide) (by decide) (Nat.le_of_ble_eq_true rfl) dX7_freeFrom_30 ?_
      cases h
      exact tr_iret hO 33 hQ rfl dX7_freeFrom_33
    · have h := of_f hc h
      refine tr_bipush hO 12 (v := (-2)) (by decide) dX7_freeFrom_12 ?_
      cases h
      exact tr_iret hO 14 hQ rfl dX7_freeFrom_14
set_option maxHeartbeats 4000000 in
set_option maxRecDepth 100000 in
theorem c_X7_straight {X : xT} (hX : xOK X) {a1 : Int32}  {μ μ' : mT} {r : Int32} (h : f_X7_straight a1 μ = some (r, μ')) : CMi X yX7_straight cX7_straight 2 .int 5 116 [.ref (X.1 18 0), .int a1] μ r μ' := by
  refine CMi_of hX (by decide +kernel) (lv := [(0, .ref (X.1 18 0)), (1, .int a1)]) (Nat.le_of_ble_eq_true rfl) rfl (fun Γ hO hn hQ => ?_)
  have hO : Ok X RX7 cX7_straight 5 116 Γ := hO
  unfold f_X7_straight at h
  refine tr_aload_n hO 0 0 rfl dX7_straight_0 ?_
  refine tr_get hO 1 (k := 0) (x_v0 (by decide)) rfl rfl iX7 (by decide) wF_X7_12 rfl rfl dX7_straight_1 ?_
  refine tr_getN hO 4 (k := 13) (x_vy (by decide) (by decide)) rfl rfl iX6 (by decide) (host := RX7) (by decide +kernel) rfl rfl dX7_straight_4 ?_
  refine tr_iload_n hO 7 1 rfl dX7_straight_7 ?_
  obtain ⟨v1, μ2, hcall, h⟩ := of_bd h
  refine tr_callI hO 8 (na := 1) (As := [.int a1]) (st := []) (c_X3_has hX (by decide) hcall) rfl (x_vy (by decide) (by decide)) rfl rfl wM_X7_147 wI_X3_has wS_X3_has wN_X3 wC_X3_has (by decide +kernel) rfl (by decide) (by decide) (Nat.le_of_ble_eq_true rfl) dX7_straight_8 ?_
  refine tr_if_ne hO 11 16 (by decide) dX7_straight_11 (fun hc => ?_) (fun hc => ?_)
  · have h := of_f hc h
    refine tr_aload_n hO 16 0 rfl dX7_straight_16 ?_
    refine tr_get hO 17 (k := 1) (x_v0 (by decide)) rfl rfl iX7 (by decide) wF_X7_19 rfl rfl dX7_straight_17 ?_
    refine tr_aload_n hO 20 0 rfl dX7_straight_20 ?_
    refine tr_get hO 21 (k := 0) (x_v0 (by decide)) rfl rfl iX7 (by decide) wF_X7_12 rfl rfl dX7_straight_21 ?_
    refine tr_iload_n hO 24 1 rfl dX7_straight_24 ?_
    obtain ⟨v3, μ4, hcall, h⟩ := of_bd h
    refine tr_callI hO 25 (na := 2) (As := [.ref (X.1 0 0), .int a1]) (st := []) (c_X4_fewestPulls hX (by decide) hcall) rfl (x_v0 (by decide)) rfl rfl wM_X7_152 wI_X4_fewestPulls wS_X4_fewestPulls wN_X4 wC_X4_fewestPulls (by decide +kernel) rfl (by decide) (by decide) (Nat.le_of_ble_eq_true rfl) dX7_straight_25 ?_
    refine tr_bipush hO 28 (v := (-6)) (by decide) dX7_straight_28 ?_
    refine tr_icmp_ne hO 30 37 (by decide) dX7_straight_30 (fun hc => ?_) (fun hc => ?_)
    · have h := of_f hc h
      refine tr_iconst hO 37 (v := 1) (by decide) dX7_straight_37 ?_
      cases h
      exact tr_iret hO 38 hQ rfl dX7_straight_38
    · have h := of_t hc h
      refine tr_iconst hO 33 (v := 0) (by decide) dX7_straight_33 ?_
      refine tr_goto hO 34 38 (by decide) dX7_straight_34 ?_
      cases h
      exact tr_iret hO 38 hQ rfl dX7_straight_38
  · have h := of_t hc h
    refine tr_iconst hO 14 (v := (-1)) (by decide) dX7_straight_14 ?_
    cases h
    exact tr_iret hO 15 hQ rfl dX7_straight_15
set_option maxHeartbeats 4000000 in
set_option maxRecDepth 100000 in
theorem c_X7_pulls {X : xT} (hX : xOK X) {a1 : Int32}  {μ μ' : mT} {r : Int32} (h : f_X7_pulls a1 μ = some (r, μ')) : CMi X yX7_pulls cX7_pulls 2 .int 5 116 [.ref (X.1 18 0), .int a1] μ r μ' := by
  refine CMi_of hX (by decide +kernel) (lv := [(0, .ref (X.1 18 0)), (1, .int a1)]) (Nat.le_of_ble_eq_true rfl) rfl (fun Γ hO hn hQ => ?_)
  have hO : Ok X RX7 cX7_pulls 5 116 Γ := hO
  unfold f_X7_pulls at h
  refine tr_aload_n hO 0 0 rfl dX7_pulls_0 ?_
  refine tr_get hO 1 (k := 0) (x_v0 (by decide)) rfl rfl iX7 (by decide) wF_X7_12 rfl rfl dX7_pulls_1 ?_
  refine tr_getN hO 4 (k := 13) (x_vy (by decide) (by decide)) rfl rfl iX6 (by decide) (host := RX7) (by decide +kernel) rfl rfl dX7_pulls_4 ?_
  refine tr_iload_n hO 7 1 rfl dX7_pulls_7 ?_
  obtain ⟨v1, μ2, hcall, h⟩ := of_bd h
  refine tr_callI hO 8 (na := 1) (As := [.int a1]) (st := []) (c_X3_has hX (by decide) hcall) rfl (x_vy (by decide) (by decide)) rfl rfl wM_X7_147 wI_X3_has wS_X3_has wN_X3 wC_X3_has (by decide +kernel) rfl (by decide) (by decide) (Nat.le_of_ble_eq_true rfl) dX7_pulls_8 ?_
  refine tr_if_eq hO 11 29 (by decide) dX7_pulls_11 (fun hc => ?_) (fun hc => ?_)
  · have h := of_t hc h
    refine tr_iconst hO 29 (v := (-1)) (by decide) dX7_pulls_29 ?_
    cases h
    exact tr_iret hO 30 hQ rfl dX7_pulls_30
  · have h := of_f hc h
    refine tr_aload_n hO 14 0 rfl dX7_pulls_14 ?_
    refine tr_get hO 15 (k := 1) (x_v0 (by decide)) rfl rfl iX7 (by decide) wF_X7_19 rfl rfl dX7_pulls_15 ?_
    refine tr_aload_n hO 18 0 rfl dX7_pulls_18 ?_
    refine tr_get hO 19 (k := 0) (x_v0 (by decide)) rfl rfl iX7 (by decide) wF_X7_12 rfl rfl dX7_pulls_19 ?_
    refine tr_iload_n hO 22 1 rfl dX7_pulls_22 ?_
    obtain ⟨v3, μ4, hcall, h⟩ := of_bd h
    refine tr_callI hO 23 (na := 2) (As := [.ref (X.1 0 0), .int a1]) (st := []) (c_X4_fewestPulls hX (by decide) hcall) rfl (x_v0 (by decide)) rfl rfl wM_X7_152 wI_X4_fewestPulls wS_X4_fewestPulls wN_X4 wC_X4_fewestPulls (by decide +kernel) rfl (by decide) (by decide) (Nat.le_of_ble_eq_true rfl) dX7_pulls_23 ?_
    refine tr_goto hO 26 30 (by decide) dX7_pulls_26 ?_
    cases h
    exact tr_iret hO 30 hQ rfl dX7_pulls_30
set_option maxHeartbeats 4000000 in
set_option maxRecDepth 100000 in
theorem c_X7_wouldLeave {X : xT} (hX : xOK X) {a1 : Int32}  {μ μ' : mT} {r : Int32} (h : f_X7_wouldLeave a1 μ = some (r, μ')) : CMi X yX7_wouldLeave cX7_wouldLeave 2 .int 5 116 [.ref (X.1 18 0), .int a1] μ r μ' := by
  refine CMi_of hX (by decide +kernel) (lv := [(0, .ref (X.1 18 0)), (1, .int a1)]) (Nat.le_of_ble_eq_true rfl) rfl (fun Γ hO hn hQ => ?_)
  have hO : Ok X RX7 cX7_wouldLeave 5 116 Γ := hO
  unfold f_X7_wouldLeave at h
  refine tr_aload_n hO 0 0 rfl dX7_wouldLeave_0 ?_
  refine tr_get hO 1 (k := 0) (x_v0 (by decide)) rfl rfl iX7 (by decide) wF_X7_12 rfl rfl dX7_wouldLeave_1 ?_
  refine tr_getN hO 4 (k := 13) (x_vy (by decide) (by decide)) rfl rfl iX6 (by decide) (host := RX7) (by decide +kernel) rfl rfl dX7_wouldLeave_4 ?_
  refine tr_iload_n hO 7 1 rfl dX7_wouldLeave_7 ?_
  obtain ⟨v1, μ2, hcall, h⟩ := of_bd h
  refine tr_callI hO 8 (na := 1) (As := [.int a1]) (st := []) (c_X3_has hX (by decide) hcall) rfl (x_vy (by decide) (by decide)) rfl rfl wM_X7_147 wI_X3_has wS_X3_has wN_X3 wC_X3_has (by decide +kernel) rfl (by decide) (by decide) (Nat.le_of_ble_eq_true rfl) dX7_wouldLeave_8 ?_
  refine tr_if_ne hO 11 16 (by decide) dX7_wouldLeave_11 (fun hc => ?_) (fun hc => ?_)
  · have h := of_f hc h
    refine tr_aload_n hO 16 0 rfl dX7_wouldLeave_16 ?_
    refine tr_get hO 17 (k := 1) (x_v0 (by decide)) rfl rfl iX7 (by decide) wF_X7_19 rfl rfl dX7_wouldLeave_17 ?_
    refine tr_aload_n hO 20 0 rfl dX7_wouldLeave_20 ?_
    refine tr_get hO 21 (k := 0) (x_v0 (by decide)) rfl rfl iX7 (by decide) wF_X7_12 rfl rfl dX7_wouldLeave_21 ?_
    refine tr_iload_n hO 24 1 rfl dX7_wouldLeave_24 ?_
    obtain ⟨v3, μ4, hcall, h⟩ := of_bd h
    refine tr_callI hO 25 (na := 2) (As := [.ref (X.1 0 0), .int a1]) (st := []) (c_X4_fewestPulls hX (by decide) hcall) rfl (x_v0 (by decide)) rfl rfl wM_X7_152 wI_X4_fewestPulls wS_X4_fewestPulls wN_X4 wC_X4_fewestPulls (by decide +kernel) rfl (by decide) (by decide) (Nat.le_of_ble_eq_true rfl) dX7_wouldLeave_25 ?_
    refine tr_bipush hO 28 (v := (-6)) (by decide) dX7_wouldLeave_28 ?_
    refine tr_icmp_ne hO 30 38 (by decide) dX7_wouldLeave_30 (fun hc => ?_) (fun hc => ?_)
    · have h := of_f hc h
      refine tr_aload_n hO 38 0 rfl dX7_wouldLeave_38 ?_
      refine tr_get hO 39 (k := 1) (x_v0 (by decide)) rfl rfl iX7 (by decide) wF_X7_19 rfl rfl dX7_wouldLeave_39 ?_
      refine tr_getN hO 42 (k := 0) (x_v0 (by decide)) rfl rfl iX4 (by decide) (host := RX7) (by decide +kernel) rfl rfl dX7_wouldLeave_42 ?_
      refine tr_getN hO 45 (k := 0) (x_vy (by decide) (by decide)) rfl rfl iX6 (by decide) (host := RX7) (by decide +kernel) rfl rfl dX7_wouldLeave_45 ?_
      cases h
      exact tr_iret hO 48 hQ rfl dX7_wouldLeave_48
    · have h := of_t hc h
      refine tr_bipush hO 33 (v := (-6)) (by decide) dX7_wouldLeave_33 ?_
      refine tr_goto hO 35 48 (by decide) dX7_wouldLeave_35 ?_
      cases h
      exact tr_iret hO 48 hQ rfl dX7_wouldLeave_48
  · have h := of_t hc h
    refine tr_iconst hO 14 (v := (-1)) (by decide) dX7_wouldLeave_14 ?_
    cases h
    exact tr_iret hO 15 hQ rfl dX7_wouldLeave_15
set_option maxHeartbeats 4000000 in
set_option maxRecDepth 100000 in
theorem c_X7_moves {X : xT} (hX : xOK X) {a1 : Int32}  {μ μ' : mT} {r : Int32} (h : f_X7_moves a1 μ = some (r, μ')) : CMi X yX7_moves cX7_moves 2 .int 6 143 [.ref (X.1 18 0), .int a1] μ r μ' := by
  refine CMi_of hX (by decide +kernel) (lv := [(0, .ref (X.1 18 0)), (1, .int a1)]) (Nat.le_of_ble_eq_true rfl) rfl (fun Γ hO hn hQ => ?_)
  have hO : Ok X RX7 cX7_moves 6 143 Γ := hO
  unfold f_X7_moves at h
  refine tr_aload_n hO 0 0 rfl dX7_moves_0 ?_
  refine tr_get hO 1 (k := 0) (x_v0 (by decide)) rfl rfl iX7 (by decide) wF_X7_12 rfl rfl dX7_moves_1 ?_
  refine tr_getN hO 4 (k := 13) (x_vy (by decide) (by decide)) rfl rfl iX6 (by decide) (host := RX7) (by decide +kernel) rfl rfl dX7_moves_4 ?_
  refine tr_iload_n hO 7 1 rfl dX7_moves_7 ?_
  obtain ⟨v1, μ2, hcall, h⟩ := of_bd h
  refine tr_callI hO 8 (na := 1) (As := [.int a1]) (st := []) (c_X3_has hX (by decide) hcall) rfl (x_vy (by decide) (by decide)) rfl rfl wM_X7_147 wI_X3_has wS_X3_has wN_X3 wC_X3_has (by decide +kernel) rfl (by decide) (by decide) (Nat.le_of_ble_eq_true rfl) dX7_moves_8 ?_
  refine tr_if_eq hO 11 29 (by decide) dX7_moves_11 (fun hc => ?_) (fun hc => ?_)
  · have h := of_t hc h
    refine tr_iconst hO 29 (v := (-1)) (by decide) dX7_moves_29 ?_
    cases h
    exact tr_iret hO 30 hQ rfl dX7_moves_30
  · have h := of_f hc h
    refine tr_aload_n hO 14 0 rfl dX7_moves_14 ?_
    refine tr_get hO 15 (k := 1) (x_v0 (by decide)) rfl rfl iX7 (by decide) wF_X7_19 rfl rfl dX7_moves_15 ?_
    refine tr_aload_n hO 18 0 rfl dX7_moves_18 ?_
    refine tr_get hO 19 (k := 0) (x_v0 (by decide)) rfl rfl iX7 (by decide) wF_X7_12 rfl rfl dX7_moves_19 ?_
    refine tr_iload_n hO 22 1 rfl dX7_moves_22 ?_
    obtain ⟨v3, μ4, hcall, h⟩ := of_bd h
    refine tr_callI hO 23 (na := 2) (As := [.ref (X.1 0 0), .int a1]) (st := []) (c_X4_fewestMoves hX (by decide) hcall) rfl (x_v0 (by decide)) rfl rfl wM_X7_159 wI_X4_fewestMoves wS_X4_fewestMoves wN_X4 wC_X4_fewestMoves (by decide +kernel) rfl (by decide) (by decide) (Nat.le_of_ble_eq_true rfl) dX7_moves_23 ?_
    refine tr_goto hO 26 30 (by decide) dX7_moves_26 ?_
    cases h
    exact tr_iret hO 30 hQ rfl dX7_moves_30
set_option maxHeartbeats 4000000 in
set_option maxRecDepth 100000 in
theorem c_X7_roomFor {X : xT} (hX : xOK X)   {μ μ' : mT} {r : Int32} (h : f_X7_roomFor μ = some (r, μ')) : CMi X yX7_roomFor cX7_roomFor 1 .int 3 70 [.ref (X.1 18 0)] μ r μ' := by
  refine CMi_of hX (by decide +kernel) (lv := [(0, .ref (X.1 18 0))]) (Nat.le_of_ble_eq_true rfl) rfl (fun Γ hO hn hQ => ?_)
  have hO : Ok X RX7 cX7_roomFor 3 70 Γ := hO
  unfold f_X7_roomFor at h
  refine tr_aload_n hO 0 0 rfl dX7_roomFor_0 ?_
  refine tr_get hO 1 (k := 0) (x_v0 (by decide)) rfl rfl iX7 (by decide) wF_X7_12 rfl rfl dX7_roomFor_1 ?_
  refine tr_aload_n hO 4 0 rfl dX7_roomFor_4 ?_
  refine tr_get hO 5 (k := 0) (x_v0 (by decide)) rfl rfl iX7 (by decide) wF_X7_12 rfl rfl dX7_roomFor_5 ?_
  refine tr_getN hO 8 (k := 11) (x_vy (by decide) (by decide)) rfl rfl iX6 (by decide) (host := RX7) (by decide +kernel) rfl rfl dX7_roomFor_8 ?_
  refine tr_bipush hO 11 (v := 8) (by decide) dX7_roomFor_11 ?_
  obtain ⟨v1, μ2, hcall, h⟩ := of_bd h
  refine tr_callI hO 13 (na := 1) (As := [.int 8]) (st := [.ref (X.1 0 0)]) (c_X5_manyIn hX (by decide) hcall) rfl (x_vy (by decide) (by decide)) rfl rfl wM_X7_162 wI_X5_manyIn wS_X5_manyIn wN_X5 wC_X5_manyIn (by decide +kernel) rfl (by decide) (by decide) (Nat.le_of_ble_eq_true rfl) dX7_roomFor_13 ?_
  obtain ⟨v3, μ4, hcall, h⟩ := of_bd h
  refine tr_callI hO 16 (na := 1) (As := [.int v1]) (st := []) (c_X6_tracksFor hX (by decide) hcall) rfl (x_vy (by decide) (by decide)) rfl rfl wM_X7_165 wI_X6_tracksFor wS_X6_tracksFor wN_X6 wC_X6_tracksFor (by decide +kernel) rfl (by decide) (by decide) (Nat.le_of_ble_eq_true rfl) dX7_roomFor_16 ?_
  cases h
  exact tr_iret hO 19 hQ rfl dX7_roomFor_19
