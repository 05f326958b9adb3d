set_option maxHeartbeats 4000000 in
set_option maxRecDepth 100000 in
theorem c_X8_readOne {X : xT} (hX : xOK X)   {μ μ' : mT} {r : Int32} (h : f_X8_readOne μ = some (r, μ')) : CMv X yX8_readOne cX8_readOne 3 3 66 [.ref (X.1 27 0)] μ μ' := by
  refine CMv_of hX (by decide +kernel) (lv := [(0, .ref (X.1 27 0))]) (Nat.le_of_ble_eq_true rfl) rfl (fun Γ hO hn hQ => ?_)
  have hO : Ok X RX8 cX8_readOne 3 66 Γ := hO
  unfold f_X8_readOne at h
  refine tr_iconst hO 0 (v := 3) (by decide) dX8_readOne_0 ?_
  refine tr_aload_n hO 1 0 rfl dX8_readOne_1 ?_
  refine tr_get hO 2 (k := 16) (x_v0 (by decide)) rfl rfl iX8 (by decide) wF_X8_179 rfl rfl dX8_readOne_2 ?_
  refine tr_imul hO 5 dX8_readOne_5 ?_
  obtain ⟨v1, e_v1, h⟩ := of_lt h
  refine tr_istore_n hO 6 (v := v1) e_v1 (lv' := [(1, .int v1), (0, .ref (X.1 27 0))]) hn rfl (by decide) rfl dX8_readOne_6 ?_
  refine tr_aload_n hO 7 1 rfl dX8_readOne_7 ?_
  obtain ⟨v2, μ3, hcall, h⟩ := of_bd h
  refine tr_callI hO 8 (na := 0) (As := []) (st := []) (c_X8_sign hX  hcall) rfl (x_v0 (by decide)) rfl rfl wM_X8_170 wI_X8_sign wS_X8_sign wN_X8 wC_X8_sign (by decide +kernel) rfl (by decide) (by decide) (Nat.le_of_ble_eq_true rfl) dX8_readOne_8 ?_
  refine tr_istore_n hO 11 (v := v2) rfl (lv' := [(2, .int v2), (1, .int v1), (0, .ref (X.1 27 0))]) hn rfl (by decide) rfl dX8_readOne_11 ?_
  refine tr_aload_n hO 12 2 rfl dX8_readOne_12 ?_
  refine tr_get hO 13 (k := 15) (x_v0 (by decide)) rfl rfl iX8 (by decide) wF_X8_44 rfl rfl dX8_readOne_13 ?_
  refine tr_iload_n hO 16 1 rfl dX8_readOne_16 ?_
  refine tr_iload_n hO 17 0 rfl dX8_readOne_17 ?_
  obtain ⟨hg, h⟩ := of_gd h
  obtain ⟨μ4, e_μ4, h⟩ := of_lt h
  refine tr_iast hO 18 e_μ4 (x_v0 (by decide)) a_39 hg dX8_readOne_18 ?_
  refine tr_aload_n hO 19 2 rfl dX8_readOne_19 ?_
  refine tr_get hO 20 (k := 15) (x_v0 (by decide)) rfl rfl iX8 (by decide) wF_X8_44 rfl rfl dX8_readOne_20 ?_
  refine tr_iload_n hO 23 1 rfl dX8_readOne_23 ?_
  refine tr_iconst hO 24 (v := 1) (by decide) dX8_readOne_24 ?_
  refine tr_iadd hO 25 dX8_readOne_25 ?_
  refine tr_iconst hO 26 (v := 0) (by decide) dX8_readOne_26 ?_
  obtain ⟨hg, h⟩ := of_gd h
  obtain ⟨μ5, e_μ5, h⟩ := of_lt h
  refine tr_iast hO 27 e_μ5 (x_v0 (by decide)) a_39 hg dX8_readOne_27 ?_
  refine tr_aload_n hO 28 2 rfl dX8_readOne_28 ?_
  refine tr_iload_n hO 29 0 rfl dX8_readOne_29 ?_
  refine tr_bipush hO 30 (v := 112) (by decide) dX8_readOne_30 ?_
  obtain ⟨J6, e_J6, h⟩ := of_lt h
  have J6_T : ∀ (v7 : Int32) (μ8 : mT), J6 v7 μ8 = some (r, μ') → tj X Γ μ8 64 [(0, .ref (X.1 27 0)), (1, .int v1), (2, .int v2)] [.int v7, .ref (X.1 27 0)] := by
    intro v7 μ8 h
    rw [e_J6] at h
    obtain ⟨hg, h⟩ := of_gd h
    obtain ⟨μ9, e_μ9, h⟩ := of_lt h
    refine tr_put hO 64 (k := 18) (ty := .boolean) e_μ9 (x_v0 (by decide)) rfl rfl rfl iX8 tyX8 tyX8_ok nmX8 (by decide) wF_X8_173 rfl rfl (by decide +kernel) (isB_n hg) (isB_f hg) (Nat.le_of_ble_eq_true rfl) dX8_readOne_64 ?_
    refine tr_aload_n hO 67 0 rfl dX8_readOne_67 ?_
    refine tr_get hO 68 (k := 18) (x_v0 (by decide)) rfl rfl iX8 (by decide) wF_X8_173 rfl rfl dX8_readOne_68 ?_
    refine tr_if_eq hO 71 75 (by decide) dX8_readOne_71 (fun hc => ?_) (fun hc => ?_)
    · have h := of_t hc h
      refine tr_aload_n hO 75 0 rfl dX8_readOne_75 ?_
      refine tr_dup hO 76 rfl dX8_readOne_76 ?_
      refine tr_get hO 77 (k := 17) (x_v0 (by decide)) rfl rfl iX8 (by decide) wF_X8_167 rfl rfl dX8_readOne_77 ?_
      refine tr_iconst hO 80 (v := 1) (by decide) dX8_readOne_80 ?_
      refine tr_iadd hO 81 dX8_readOne_81 ?_
      obtain ⟨μ10, e_μ10, h⟩ := of_lt h
      refine tr_put hO 82 (k := 17) (ty := .int) e_μ10 (x_v0 (by decide)) rfl rfl rfl iX8 tyX8 tyX8_ok nmX8 (by decide) wF_X8_167 rfl rfl (by decide +kernel) rfl rfl (Nat.le_of_ble_eq_true rfl) dX8_readOne_82 ?_
      refine tr_iload_n hO 85 2 rfl dX8_readOne_85 ?_
      refine tr_bipush hO 86 (v := 112) (by decide) dX8_readOne_86 ?_
      obtain ⟨J11, e_J11, h⟩ := of_lt h
      have J11_T : ∀ (μ12 : mT), J11 μ12 = some (r, μ') → tj X Γ μ12 157 [(0, .ref (X.1 27 0))] [] := by
        intro μ12 h
        rw [e_J11] at h
        refine tr_aload_n hO 157 0 rfl dX8_readOne_157 ?_
        refine tr_dup hO 158 rfl dX8_readOne_158 ?_
        refine tr_get hO 159 (k := 16) (x_v0 (by decide)) rfl rfl iX8 (by decide) wF_X8_179 rfl rfl dX8_readOne_159 ?_
        refine tr_iconst hO 162 (v := 1) (by decide) dX8_readOne_162 ?_
        refine tr_iadd hO 163 dX8_readOne_163 ?_
        obtain ⟨μ13, e_μ13, h⟩ := of_lt h
        refine tr_put hO 164 (k := 16) (ty := .int) e_μ13 (x_v0 (by decide)) rfl rfl rfl iX8 tyX8 tyX8_ok nmX8 (by decide) wF_X8_179 rfl rfl (by decide +kernel) rfl rfl (Nat.le_of_ble_eq_true rfl) dX8_readOne_164 ?_
        cases h
        exact tr_vret hO 167 hQ dX8_readOne_167
      obtain ⟨J14, e_J14, h⟩ := of_lt h
      have J14_T : ∀ (μ15 : mT), J14 μ15 = some (r, μ') → tj X Γ μ15 97 [(0, .ref (X.1 27 0)), (1, .int v1)] [] := by
        intro μ15 h
        rw [e_J14] at h
        refine tr_aload_n hO 97 0 rfl dX8_readOne_97 ?_
        refine tr_get hO 98 (k := 15) (x_v0 (by decide)) rfl rfl iX8 (by decide) wF_X8_44 rfl rfl dX8_readOne_98 ?_
        refine tr_iload_n hO 101 1 rfl dX8_readOne_101 ?_
        refine tr_iconst hO 102 (v := 1) (by decide) dX8_readOne_102 ?_
        refine tr_iadd hO 103 dX8_readOne_103 ?_
        refine tr_aload_n hO 104 0 rfl dX8_readOne_104 ?_
        refine tr_bipush hO 105 (v := 65) (by decide) dX8_readOne_105 ?_
        refine tr_bipush hO 107 (v := 7) (by decide) dX8_readOne_107 ?_
        obtain ⟨v16, μ17, hcall, h⟩ := of_bd h
        refine tr_callI hO 109 (na := 2) (As := [.int 65, .int 7]) (st := [.int (v1 + 1), .ref (X.1 39 0)]) (c_X8_one hX  hcall) rfl (x_v0 (by decide)) rfl rfl wM_X8_176 wI_X8_one wS_X8_one wN_X8 wC_X8_one (by decide +kernel) rfl (by decide) (by decide) (Nat.le_of_ble_eq_true rfl) dX8_readOne_109 ?_
        obtain ⟨hg, h⟩ := of_gd h
        obtain ⟨μ18, e_μ18, h⟩ := of_lt h
        refine tr_iast hO 112 e_μ18 (x_v0 (by decide)) a_39 hg dX8_readOne_112 ?_
        refine tr_aload_n hO 113 0 rfl dX8_readOne_113 ?_
        refine tr_get hO 114 (k := 15) (x_v0 (by decide)) rfl rfl iX8 (by decide) wF_X8_44 rfl rfl dX8_readOne_114 ?_
        refine tr_iload_n hO 117 1 rfl dX8_readOne_117 ?_
        refine tr_iconst hO 118 (v := 2) (by decide) dX8_readOne_118 ?_
        refine tr_iadd hO 119 dX8_readOne_119 ?_
        refine tr_aload_n hO 120 0 rfl dX8_readOne_120 ?_
        refine tr_get hO 121 (k := 18) (x_v0 (by decide)) rfl rfl iX8 (by decide) wF_X8_173 rfl rfl dX8_readOne_121 ?_
        obtain ⟨J19, e_J19, h⟩ := of_lt h
        have J19_T : ∀ (v20 : Int32) (μ21 : mT), J19 v20 μ21 = some (r, μ') → tj X Γ μ21 135 [(0, .ref (X.1 27 0))] [.int v20, .int (v1 + 2), .ref (X.1 39 0)] := by
          intro v20 μ21 h
          rw [e_J19] at h
          obtain ⟨hg, h⟩ := of_gd h
          obtain ⟨μ22, e_μ22, h⟩ := of_lt h
          refine tr_iast hO 135 e_μ22 (x_v0 (by decide)) a_39 hg dX8_readOne_135 ?_
          refine tr_goto hO 136 157 (by decide) dX8_readOne_136 ?_
          exact J11_T _ h
        refine tr_if_eq hO 124 131 (by decide) dX8_readOne_124 (fun hc => ?_) (fun hc => ?_)
        · have h := of_t hc h
          refine tr_aload_n hO 131 0 rfl dX8_readOne_131 ?_
          obtain ⟨v23, μ24, hcall, h⟩ := of_bd h
          refine tr_callI hO 132 (na := 0) (As := []) (st := [.int (v1 + 2), .ref (X.1 39 0)]) (c_X8_number hX  hcall) rfl (x_v0 (by decide)) rfl rfl wM_X8_182 wI_X8_number wS_X8_number wN_X8 wC_X8_number (by decide +kernel) rfl (by decide) (by decide) (Nat.le_of_ble_eq_true rfl) dX8_readOne_132 ?_
          refine tr_sub [0] rfl ?_
          exact J19_T _ _ h
        · have h := of_f hc h
          refine tr_iconst hO 127 (v := 0) (by decide) dX8_readOne_127 ?_
          refine tr_goto hO 128 135 (by decide) dX8_readOne_128 ?_
          refine tr_sub [0] rfl ?_
          exact J19_T _ _ h
      refine tr_icmp_eq hO 88 97 (by decide) dX8_readOne_88 (fun hc => ?_) (fun hc => ?_)
      · have h := of_t hc h
        refine tr_sub [0, 1] rfl ?_
        exact J14_T _ h
      · have h := of_f hc h
        refine tr_iload_n hO 91 2 rfl dX8_readOne_91 ?_
        refine tr_bipush hO 92 (v := 113) (by decide) dX8_readOne_92 ?_
        refine tr_icmp_ne hO 94 139 (by decide) dX8_readOne_94 (fun hc => ?_) (fun hc => ?_)
        · have h := of_f hc h
          refine tr_iload_n hO 139 2 rfl dX8_readOne_139 ?_
          refine tr_bipush hO 140 (v := 114) (by decide) dX8_readOne_140 ?_
          refine tr_icmp_eq hO 142 157 (by decide) dX8_readOne_142 (fun hc => ?_) (fun hc => ?_)
          · have h := of_t hc h
            refine tr_sub [0] rfl ?_
            exact J11_T _ h
          · have h := of_f hc h
            refine tr_aload_n hO 145 0 rfl dX8_readOne_145 ?_
            refine tr_get hO 146 (k := 15) (x_v0 (by decide)) rfl rfl iX8 (by decide) wF_X8_44 rfl rfl dX8_readOne_146 ?_
            refine tr_iload_n hO 149 1 rfl dX8_readOne_149 ?_
            refine tr_iconst hO 150 (v := 1) (by decide) dX8_readOne_150 ?_
            refine tr_iadd hO 151 dX8_readOne_151 ?_
            refine tr_aload_n hO 152 0 rfl dX8_readOne_152 ?_
            obtain ⟨v25, μ26, hcall, h⟩ := of_bd h
            refine tr_callI hO 153 (na := 0) (As := []) (st := [.int (v1 + 1), .ref (X.1 39 0)]) (c_X8_number hX  hcall) rfl (x_v0 (by decide)) rfl rfl wM_X8_182 wI_X8_number wS_X8_number wN_X8 wC_X8_number (by decide +kernel) rfl (by decide) (by decide) (Nat.le_of_ble_eq_true rfl) dX8_readOne_153 ?_
            obtain ⟨hg, h⟩ := of_gd h
            obtain ⟨μ27, e_μ27, h⟩ := of_lt h
            refine tr_iast hO 156 e_μ27 (x_v0 (by decide)) a_39 hg dX8_readOne_156 ?_
            refine tr_sub [0] rfl ?_
            exact J11_T _ h
        · have h := of_t hc h
          refine tr_sub [0, 1] rfl ?_
          exact J14_T _ h
    · have h := of_f hc h
      cases h
      exact tr_vret hO 74 hQ dX8_readOne_74
  obtain ⟨J28, e_J28, h⟩ := of_lt h
  have J28_T : ∀ (μ29 : mT), J28 μ29 = some (r, μ') → tj X Γ μ29 63 [(0, .ref (X.1 27 0)), (1, .int v1), (2, .int v2)] [.ref (X.1 27 0)] := by
    intro μ29 h
    rw [e_J28] at h
    refine tr_iconst hO 63 (v := 0) (by decide) dX8_readOne_63 ?_
    exact J6_T _ _ h
  refine tr_icmp_eq hO 32 63 (by decide) dX8_readOne_32 (fun hc => ?_) (fun hc => ?_)
  · have h := of_t hc h
    refine tr_sub [2, 1, 0] rfl ?_
    exact J28_T _ h
  · have h := of_f hc h
    refine tr_iload_n hO 35 0 rfl dX8_readOne_35 ?_
    refine tr_bipush hO 36 (v := 113) (by decide) dX8_readOne_36 ?_
    refine tr_icmp_eq hO 38 63 (by decide) dX8_readOne_38 (fun hc => ?_) (fun hc => ?_)
    · have h := of_t hc h
      refine tr_sub [2, 1, 0] rfl ?_
      exact J28_T _ h
    · have h := of_f hc h
      refine tr_iload_n hO 41 0 rfl dX8_readOne_41 ?_
      refine tr_bipush hO 42 (v := 114) (by decide) dX8_readOne_42 ?_
      refine tr_icmp_eq hO 44 63 (by decide) dX8_readOne_44 (fun hc => ?_) (fun hc => ?_)
      · have h := of_t hc h
        refine tr_sub [2, 1, 0] rfl ?_
        exact J28_T _ h
      · have h := of_f hc h
        refine tr_iload_n hO 47 0 rfl dX8_readOne_47 ?_
        refine tr_bipush hO 48 (v := 119) (by decide) dX8_readOne_48 ?_
        refine tr_icmp_eq hO 50 63 (by decide) dX8_readOne_50 (fun hc => ?_) (fun hc => ?_)
        · have h := of_t hc h
          refine tr_sub [2, 1, 0] rfl ?_
          exact J28_T _ h
        · have h := of_f hc h
          refine tr_iload_n hO 53 0 rfl dX8_readOne_53 ?_
          refine tr_bipush hO 54 (v := 116) (by decide) dX8_readOne_54 ?_
          refine tr_icmp_eq hO 56 63 (by decide) dX8_readOne_56 (fun hc => ?_) (fun hc => ?_)
          · have h := of_t hc h
            refine tr_sub [2, 1, 0] rfl ?_
            exact J28_T _ h
          · have h := of_f hc h
            refine tr_iconst hO 59 (v := 1) (by decide) dX8_readOne_59 ?_
            refine tr_goto hO 60 64 (by decide) dX8_readOne_60 ?_
            refine tr_sub [2, 1, 0] rfl ?_
            exact J6_T _ _ h
set_option maxHeartbeats 4000000 in
set_option maxRecDepth 100000 in
theorem c_X8_faultOf {X : xT} (hX : xOK X)   {μ μ' : mT} {r : Int32} (h : f_X8_faultOf μ = some (r, μ')) : CMi X yX8_faultOf cX8_faultOf 1 .int 4 88 [.ref (X.1 27 0)] μ r μ' := by
  refine CMi_of hX (by decide +kernel) (lv := [(0, .ref (X.1 27 0))]) (Nat.le_of_ble_eq_true rfl) rfl (fun Γ hO hn hQ => ?_)
  have hO : Ok X RX8 cX8_faultOf 4 88 Γ := hO
  unfold f_X8_faultOf at h
  refine tr_aload_n hO 0 0 rfl dX8_faultOf_0 ?_
  refine tr_iconst hO 1 (v := 0) (by decide) dX8_faultOf_1 ?_
  obtain ⟨μ1, e_μ1, h⟩ := of_lt h
  refine tr_put hO 2 (k := 17) (ty := .int) e_μ1 (x_v0 (by decide)) rfl rfl rfl iX8 tyX8 tyX8_ok nmX8 (by decide) wF_X8_167 rfl rfl (by decide +kernel) rfl rfl (Nat.le_of_ble_eq_true rfl) dX8_faultOf_2 ?_
  refine tr_aload_n hO 5 0 rfl dX8_faultOf_5 ?_
  refine tr_iconst hO 6 (v := 0) (by decide) dX8_faultOf_6 ?_
  obtain ⟨μ2, e_μ2, h⟩ := of_lt h
  refine tr_put hO 7 (k := 16) (ty := .int) e_μ2 (x_v0 (by decide)) rfl rfl rfl iX8 tyX8 tyX8_ok nmX8 (by decide) wF_X8_179 rfl rfl (by decide +kernel) rfl rfl (Nat.le_of_ble_eq_true rfl) dX8_faultOf_7 ?_
  refine tr_aload_n hO 10 0 rfl dX8_faultOf_10 ?_
  refine tr_iconst hO 11 (v := 0) (by decide) dX8_faultOf_11 ?_
  obtain ⟨μ3, e_μ3, h⟩ := of_lt h
  refine tr_put hO 12 (k := 18) (ty := .boolean) e_μ3 (x_v0 (by decide)) rfl rfl rfl iX8 tyX8 tyX8_ok nmX8 (by decide) wF_X8_173 rfl rfl (by decide +kernel) rfl rfl (Nat.le_of_ble_eq_true rfl) dX8_faultOf_12 ?_
  refine tr_aload_n hO 15 0 rfl dX8_faultOf_15 ?_
  obtain ⟨v4, μ5, hcall, h⟩ := of_bd h
  refine tr_callV hO 16 (na := 0) (As := []) (st := []) (c_X8_readOne hX  hcall) rfl (x_v0 (by decide)) rfl rfl wM_X8_185 wI_X8_readOne wS_X8_readOne wN_X8 wC_X8_readOne (by decide +kernel) rfl (by decide) (by decide) (Nat.le_of_ble_eq_true rfl) dX8_faultOf_16 ?_
  obtain ⟨K7, e_K7, h⟩ := of_lt h
  have K7_T : ∀ (μ8 : mT), K7 μ8 = some (r, μ') → tj X Γ μ8 79 [(0, .ref (X.1 27 0))] [] := by
    intro μ8 h
    rw [e_K7] at h
    refine tr_aload_n hO 79 0 rfl dX8_faultOf_79 ?_
    refine tr_get hO 80 (k := 18) (x_v0 (by decide)) rfl rfl iX8 (by decide) wF_X8_173 rfl rfl dX8_faultOf_80 ?_
    refine tr_if_eq hO 83 93 (by decide) dX8_faultOf_83 (fun hc => ?_) (fun hc => ?_)
    · have h := of_t hc h
      refine tr_bipush hO 93 (v := (-6)) (by decide) dX8_faultOf_93 ?_
      cases h
      exact tr_iret hO 95 hQ rfl dX8_faultOf_95
    · have h := of_f hc h
      refine tr_aload_n hO 86 0 rfl dX8_faultOf_86 ?_
      refine tr_get hO 87 (k := 17) (x_v0 (by decide)) rfl rfl iX8 (by decide) wF_X8_167 rfl rfl dX8_faultOf_87 ?_
      refine tr_goto hO 90 95 (by decide) dX8_faultOf_90 ?_
      cases h
      exact tr_iret hO 95 hQ rfl dX8_faultOf_95
  have L19_T : ∀ (n : Nat) (μ6 : mT), f_X8_faultOf_L19 K7 n μ6 = some (r, μ') → tj X Γ μ6 19 [(0, .ref (X.1 27 0))] [] := by
    intro n
    induction n with
    | zero =>
      intro μ6 h
      rw [f_X8_faultOf_L19] at h
      cases h
    | succ n ih =>
      intro μ6 h
      rw [f_X8_faultOf_L19] at h
      refine tr_aload_n hO 19 0 rfl dX8_faultOf_19 ?_
      refine tr_get hO 20 (k := 18) (x_v0 (by decide)) rfl rfl iX8 (by decide) wF_X8_173 rfl rfl dX8_faultOf_20 ?_
      refine tr_if_ne hO 23 79 (by decide) dX8_faultOf_23 (fun hc => ?_) (fun hc => ?_)
      · have h := of_f hc h
        exact K7_T _ h
      · have h := of_t hc h
        refine tr_aload_n hO 26 0 rfl dX8_faultOf_26 ?_
        refine tr_get hO 27 (k := 17) (x_v0 (by decide)) rfl rfl iX8 (by decide) wF_X8_167 rfl rfl dX8_faultOf_27 ?_
        refine tr_aload_n hO 30 0 rfl dX8_faultOf_30 ?_
        refine tr_get hO 31 (k := 8) (x_v0 (by decide)) rfl rfl iX8 (by decide) wF_X8_149 rfl rfl dX8_faultOf_31 ?_
        refine tr_icmp_ge hO 34 79 (by decide) dX8_faultOf_34 (fun hc => ?_) (fun hc => ?_)
        · have h := of_t hc h
          exact K7_T _ h
        · have h := of_f hc h
          refine tr_aload_n hO 37 0 rfl dX8_faultOf_37 ?_
          refine tr_aload_n hO 38 0 rfl dX8_faultOf_38 ?_
          obtain ⟨v9, μ10, hcall, h⟩ := of_bd h
          refine tr_callI hO 39 (na := 0) (As := []) (st := [.ref (X.1 27 0)]) (c_X8_sign hX  hcall) rfl (x_v0 (by decide)) rfl rfl wM_X8_170 wI_X8_sign wS_X8_sign wN_X8 wC_X8_sign (by decide +kernel) rfl (by decide) (by decide) (Nat.le_of_ble_eq_true rfl) dX8_faultOf_39 ?_
          refine tr_bipush hO 42 (v := 59) (by decide) dX8_faultOf_42 ?_
          obtain ⟨J11, e_J11, h⟩ := of_lt h
          have J11_T : ∀ (v12 : Int32) (μ13 : mT), J11 v12 μ13 = some (r, μ') → tj X Γ μ13 52 [(0, .ref (X.1 27 0))] [.int v12, .ref (X.1 27 0)] := by
            intro v12 μ13 h
            rw [e_J11] at h
            obtain ⟨hg, h⟩ := of_gd h
            obtain ⟨μ14, e_μ14, h⟩ := of_lt h
            refine tr_put hO 52 (k := 18) (ty := .boolean) e_μ14 (x_v0 (by decide)) rfl rfl rfl iX8 tyX8 tyX8_ok nmX8 (by decide) wF_X8_173 rfl rfl (by decide +kernel) (isB_n hg) (isB_f hg) (Nat.le_of_ble_eq_true rfl) dX8_faultOf_52 ?_
            refine tr_aload_n hO 55 0 rfl dX8_faultOf_55 ?_
            refine tr_get hO 56 (k := 18) (x_v0 (by decide)) rfl rfl iX8 (by decide) wF_X8_173 rfl rfl dX8_faultOf_56 ?_
            refine tr_if_ne hO 59 19 (by decide) dX8_faultOf_59 (fun hc => ?_) (fun hc => ?_)
            · have h := of_f hc h
              exact ih _ h
            · have h := of_t hc h
              refine tr_aload_n hO 62 0 rfl dX8_faultOf_62 ?_
              refine tr_dup hO 63 rfl dX8_faultOf_63 ?_
              refine tr_get hO 64 (k := 17) (x_v0 (by decide)) rfl rfl iX8 (by decide) wF_X8_167 rfl rfl dX8_faultOf_64 ?_
              refine tr_iconst hO 67 (v := 1) (by decide) dX8_faultOf_67 ?_
              refine tr_iadd hO 68 dX8_faultOf_68 ?_
              obtain ⟨μ15, e_μ15, h⟩ := of_lt h
              refine tr_put hO 69 (k := 17) (ty := .int) e_μ15 (x_v0 (by decide)) rfl rfl rfl iX8 tyX8 tyX8_ok nmX8 (by decide) wF_X8_167 rfl rfl (by decide +kernel) rfl rfl (Nat.le_of_ble_eq_true rfl) dX8_faultOf_69 ?_
              refine tr_aload_n hO 72 0 rfl dX8_faultOf_72 ?_
              obtain ⟨v16, μ17, hcall, h⟩ := of_bd h
              refine tr_callV hO 73 (na := 0) (As := []) (st := []) (c_X8_readOne hX  hcall) rfl (x_v0 (by decide)) rfl rfl wM_X8_185 wI_X8_readOne wS_X8_readOne wN_X8 wC_X8_readOne (by decide +kernel) rfl (by decide) (by decide) (Nat.le_of_ble_eq_true rfl) dX8_faultOf_73 ?_
              refine tr_goto hO 76 19 (by decide) dX8_faultOf_76 ?_
              exact ih _ h
          refine tr_icmp_eq hO 44 51 (by decide) dX8_faultOf_44 (fun hc => ?_) (fun hc => ?_)
          · have h := of_t hc h
            refine tr_iconst hO 51 (v := 0) (by decide) dX8_faultOf_51 ?_
            exact J11_T _ _ h
          · have h := of_f hc h
            refine tr_iconst hO 47 (v := 1) (by decide) dX8_faultOf_47 ?_
            refine tr_goto hO 48 52 (by decide) dX8_faultOf_48 ?_
            exact J11_T _ _ h
  exact L19_T _ _ h
set_option maxHeartbeats 4000000 in
set_option maxRecDepth 100000 in
theorem c_X8_put {X : xT} (hX : xOK X) {a1 : Int64}  {μ μ' : mT} {r : Int32} (h : f_X8_put a1 μ = some (r, μ')) : CMi X yX8_put cX8_put 7 .int 1 22 [.ref (X.1 27 0), .long a1] μ r μ' := by
  refine CMi_of hX (by decide +kernel) (lv := [(0, .ref (X.1 27 0)), (1, .long a1)]) (Nat.le_of_ble_eq_true rfl) rfl (fun Γ hO hn hQ => ?_)
  have hO : Ok X RX8 cX8_put 1 22 Γ := hO
  unfold f_X8_put at h
  refine tr_iconst hO 0 (v := 0) (by decide) dX8_put_0 ?_
  refine tr_istore_n hO 1 (v := 0) rfl (lv' := [(3, .int 0), (0, .ref (X.1 27 0)), (1, .long a1)]) hn rfl (by decide) rfl dX8_put_1 ?_
  refine tr_lload_n hO 2 2 rfl dX8_put_2 ?_
  refine tr_lstore hO 3 (v := a1) rfl (lv' := [(4, .long a1), (3, .int 0), (0, .ref (X.1 27 0)), (1, .long a1)]) hn (by decide) rfl dX8_put_3 ?_
  obtain ⟨K4, e_K4, h⟩ := of_lt h
  have K4_T : ∀ (v5 : Int32) (v6 : Int64) (μ7 : mT), K4 v5 v6 μ7 = some (r, μ') → tj X Γ μ7 49 [(0, .ref (X.1 27 0)), (1, .long a1), (3, .int v5), (4, .long v6)] [] := by
    intro v5 v6 μ7 h
    rw [e_K4] at h
    refine tr_lload hO 49 3 rfl dX8_put_49 ?_
    refine tr_lconst hO 51 (v := 0) (by decide) dX8_put_51 ?_
    refine tr_lcmp hO 52 dX8_put_52 ?_
    refine tr_if_ne hO 53 60 (by decide) dX8_put_53 (fun hc => ?_) (fun hc => ?_)
    · have h := of_f hc h
      refine tr_bipush hO 60 (v := (-2)) (by decide) dX8_put_60 ?_
      cases h
      exact tr_iret hO 62 hQ rfl dX8_put_62
    · have h := of_t hc h
      refine tr_iload_n hO 56 2 rfl dX8_put_56 ?_
      refine tr_if_ne hO 57 63 (by decide) dX8_put_57 (fun hc => ?_) (fun hc => ?_)
      · have h := of_f hc h
        refine tr_aload_n hO 63 0 rfl dX8_put_63 ?_
        refine tr_get hO 64 (k := 8) (x_v0 (by decide)) rfl rfl iX8 (by decide) wF_X8_149 rfl rfl dX8_put_64 ?_
        refine tr_iload_n hO 67 2 rfl dX8_put_67 ?_
        refine tr_iadd hO 68 dX8_put_68 ?_
        refine tr_bipush hO 69 (v := 80) (by decide) dX8_put_69 ?_
        refine tr_icmp_le hO 71 77 (by decide) dX8_put_71 (fun hc => ?_) (fun hc => ?_)
        · have h := of_t hc h
          refine tr_lload_n hO 77 1 rfl dX8_put_77 ?_
          refine tr_lstore hO 78 (v := a1) rfl (lv' := [(4, .long a1), (0, .ref (X.1 27 0)), (1, .long a1), (3, .int v5)]) hn (by decide) rfl dX8_put_78 ?_
          refine tr_iload_n hO 80 3 rfl dX8_put_80 ?_
          refine tr_iconst hO 81 (v := 1) (by decide) dX8_put_81 ?_
          refine tr_isub hO 82 dX8_put_82 ?_
          obtain ⟨v8, e_v8, h⟩ := of_lt h
          refine tr_istore hO 83 (v := v8) e_v8 (lv' := [(6, .int v8), (4, .long a1), (0, .ref (X.1 27 0)), (1, .long a1), (3, .int v5)]) hn (by decide) rfl dX8_put_83 ?_
          obtain ⟨K12, e_K12, h⟩ := of_lt h
          have K12_T : ∀ (μ13 : mT), K12 μ13 = some (r, μ') → tj X Γ μ13 122 [(0, .ref (X.1 27 0)), (3, .int v5)] [] := by
            intro μ13 h
            rw [e_K12] at h
            refine tr_aload_n hO 122 0 rfl dX8_put_122 ?_
            refine tr_dup hO 123 rfl dX8_put_123 ?_
            refine tr_get hO 124 (k := 8) (x_v0 (by decide)) rfl rfl iX8 (by decide) wF_X8_149 rfl rfl dX8_put_124 ?_
            refine tr_iload_n hO 127 1 rfl dX8_put_127 ?_
            refine tr_iadd hO 128 dX8_put_128 ?_
            obtain ⟨μ14, e_μ14, h⟩ := of_lt h
            refine tr_put hO 129 (k := 8) (ty := .int) e_μ14 (x_v0 (by decide)) rfl rfl rfl iX8 tyX8 tyX8_ok nmX8 (by decide) wF_X8_149 rfl rfl (by decide +kernel) rfl rfl (Nat.le_of_ble_eq_true rfl) dX8_put_129 ?_
            refine tr_aload_n hO 132 0 rfl dX8_put_132 ?_
            refine tr_get hO 133 (k := 8) (x_v0 (by decide)) rfl rfl iX8 (by decide) wF_X8_149 rfl rfl dX8_put_133 ?_
            cases h
            exact tr_iret hO 136 hQ rfl dX8_put_136
          have L85_T : ∀ (n : Nat) (v9 : Int64) (v10 : Int32) (μ11 : mT), f_X8_put_L85 v5 K12 n v9 v10 μ11 = some (r, μ') → tj X Γ μ11 85 [(0, .ref (X.1 27 0)), (3, .int v5), (4, .long v9), (6, .int v10)] [] := by
            intro n
            induction n with
            | zero =>
              intro v9 v10 μ11 h
              rw [f_X8_put_L85] at h
              cases h
            | succ n ih =>
              intro v9 v10 μ11 h
              rw [f_X8_put_L85] at h
              refine tr_iload hO 85 3 rfl dX8_put_85 ?_
              refine tr_if_lt hO 87 122 (by decide) dX8_put_87 (fun hc => ?_) (fun hc => ?_)
              · have h := of_t hc h
                refine tr_sub [0, 1] rfl ?_
                exact K12_T _ h
              · have h := of_f hc h
                refine tr_aload_n hO 90 0 rfl dX8_put_90 ?_
                refine tr_get hO 91 (k := 7) (x_v0 (by decide)) rfl rfl iX8 (by decide) wF_X8_29 rfl rfl dX8_put_91 ?_
                refine tr_aload_n hO 94 0 rfl dX8_put_94 ?_
                refine tr_get hO 95 (k := 8) (x_v0 (by decide)) rfl rfl iX8 (by decide) wF_X8_149 rfl rfl dX8_put_95 ?_
                refine tr_iload hO 98 3 rfl dX8_put_98 ?_
                refine tr_iadd hO 100 dX8_put_100 ?_
                refine tr_lload hO 101 2 rfl dX8_put_101 ?_
                refine tr_ldc2 hO 103 (v := 255) wK_X8_188 dX8_put_103 ?_
                refine tr_land hO 106 dX8_put_106 ?_
                refine tr_l2i hO 107 dX8_put_107 ?_
                obtain ⟨hg, h⟩ := of_gd h
                obtain ⟨μ15, e_μ15, h⟩ := of_lt h
                refine tr_iast hO 108 e_μ15 (x_v0 (by decide)) a_34 hg dX8_put_108 ?_
                refine tr_lload hO 109 2 rfl dX8_put_109 ?_
                refine tr_bipush hO 111 (v := 8) (by decide) dX8_put_111 ?_
                refine tr_lushr hO 113 dX8_put_113 ?_
                obtain ⟨v16, e_v16, h⟩ := of_lt h
                refine tr_lstore hO 114 (v := v16) e_v16 (lv' := [(4, .long v16), (0, .ref (X.1 27 0)), (3, .int v5), (6, .int v10)]) hn (by decide) rfl dX8_put_114 ?_
                obtain ⟨v17, e_v17, h⟩ := of_lt h
                refine tr_iinc hO 116 (q := 3) (v := v17) (lv' := [(6, .int v17), (4, .long v16), (0, .ref (X.1 27 0)), (3, .int v5)]) hn rfl (by rw [e_v17]; rfl) (by decide) rfl dX8_put_116 ?_
                refine tr_goto hO 119 85 (by decide) dX8_put_119 ?_
                refine tr_sub [2, 3, 1, 0] rfl ?_
                exact ih _ _ _ h
          refine tr_sub [2, 4, 1, 0] rfl ?_
          exact L85_T _ _ _ _ h
        · have h := of_f hc h
          refine tr_bipush hO 74 (v := (-4)) (by decide) dX8_put_74 ?_
          cases h
          exact tr_iret hO 76 hQ rfl dX8_put_76
      · have h := of_t hc h
        refine tr_bipush hO 60 (v := (-2)) (by decide) dX8_put_60 ?_
        cases h
        exact tr_iret hO 62 hQ rfl dX8_put_62
  have L5_T : ∀ (n : Nat) (v1 : Int32) (v2 : Int64) (μ3 : mT), f_X8_put_L5 a1 K4 n v1 v2 μ3 = some (r, μ') → tj X Γ μ3 5 [(0, .ref (X.1 27 0)), (1, .long a1), (3, .int v1), (4, .long v2)] [] := by
    intro n
    induction n with
    | zero =>
      intro v1 v2 μ3 h
      rw [f_X8_put_L5] at h
      cases h
    | succ n ih =>
      intro v1 v2 μ3 h
      rw [f_X8_put_L5] at h
      refine tr_lload hO 5 3 rfl dX8_put_5 ?_
      refine tr_ldc2 hO 7 (v := 255) wK_X8_188 dX8_put_7 ?_
      refine tr_land hO 10 dX8_put_10 ?_
      refine tr_lconst hO 11 (v := 0) (by decide) dX8_put_11 ?_
      refine tr_lcmp hO 12 dX8_put_12 ?_
      refine tr_if_eq hO 13 49 (by decide) dX8_put_13 (fun hc => ?_) (fun hc => ?_)
      · have h := of_t hc h
        exact K4_T _ _ _ h
      · have h := of_f hc h
        refine tr_lload hO 16 3 rfl dX8_put_16 ?_
        refine tr_ldc2 hO 18 (v := 255) wK_X8_188 dX8_put_18 ?_
        refine tr_land hO 21 dX8_put_21 ?_
        refine tr_l2i hO 22 dX8_put_22 ?_
        refine tr_bipush hO 23 (v := 33) (by decide) dX8_put_23 ?_
        refine tr_bipush hO 25 (v := 126) (by decide) dX8_put_25 ?_
        obtain ⟨v18, μ19, hcall, h⟩ := of_bd h
        refine tr_callS hO 27 (na := 3) (As := [.int ((v2 &&& 255).toInt32), .int 33, .int 126]) (st := []) (c_X8_in hX  hcall) rfl wM_X8_55 wT_X8_in wN_X8 wC_X8_in (by decide +kernel) rfl (by decide) (by decide) (Nat.le_of_ble_eq_true rfl) dX8_put_27 ?_
        refine tr_if_ne hO 30 36 (by decide) dX8_put_30 (fun hc => ?_) (fun hc => ?_)
        · have h := of_f hc h
          obtain ⟨v20, e_v20, h⟩ := of_lt h
          refine tr_iinc hO 36 (q := 2) (v := v20) (lv' := [(3, .int v20), (0, .ref (X.1 27 0)), (1, .long a1), (4, .long v2)]) hn rfl (by rw [e_v20]; rfl) (by decide) rfl dX8_put_36 ?_
          refine tr_lload hO 39 3 rfl dX8_put_39 ?_
          refine tr_bipush hO 41 (v := 8) (by decide) dX8_put_41 ?_
          refine tr_lushr hO 43 dX8_put_43 ?_
          obtain ⟨v21, e_v21, h⟩ := of_lt h
          refine tr_lstore hO 44 (v := v21) e_v21 (lv' := [(4, .long v21), (3, .int v20), (0, .ref (X.1 27 0)), (1, .long a1)]) hn (by decide) rfl dX8_put_44 ?_
          refine tr_goto hO 46 5 (by decide) dX8_put_46 ?_
          refine tr_sub [2, 3, 1, 0] rfl ?_
          exact ih _ _ _ h
        · have h := of_t hc h
          refine tr_bipush hO 33 (v := (-2)) (by decide) dX8_put_33 ?_
          cases h
          exact tr_iret hO 35 hQ rfl dX8_put_35
  refine tr_sub [2, 3, 1, 0] rfl ?_
  exact L5_T _ _ _ _ h
set_option maxHeartbeats 4000000 in
set_option maxRecDepth 100000 in
theorem c_X8_wipe {X : xT} (hX : xOK X)   {μ μ' : mT} {r : Int32} (h : f_X8_wipe μ = some (r, μ')) : CMi X yX8_wipe cX8_wipe 2 .int 0 0 [.ref (X.1 27 0)] μ r μ' := by
  refine CMi_of hX (by decide +kernel) (lv := [(0, .ref (X.1 27 0))]) (Nat.le_of_ble_eq_true rfl) rfl (fun Γ hO hn hQ => ?_)
  have hO : Ok X RX8 cX8_wipe 0 0 Γ := hO
  unfold f_X8_wipe at h
  refine tr_aload_n hO 0 0 rfl dX8_wipe_0 ?_
  refine tr_get hO 1 (k := 8) (x_v0 (by decide)) rfl rfl iX8 (by decide) wF_X8_149 rfl rfl dX8_wipe_1 ?_
  obtain ⟨v1, e_v1, h⟩ := of_lt h
  refine tr_istore_n hO 4 (v := v1) e_v1 (lv' := [(1, .int v1), (0, .ref (X.1 27 0))]) hn rfl (by decide) rfl dX8_wipe_4 ?_
  refine tr_aload_n hO 5 1 rfl dX8_wipe_5 ?_
  refine tr_iconst hO 6 (v := 0) (by decide) dX8_wipe_6 ?_
  obtain ⟨μ2, e_μ2, h⟩ := of_lt h
  refine tr_put hO 7 (k := 8) (ty := .int) e_μ2 (x_v0 (by decide)) rfl rfl rfl iX8 tyX8 tyX8_ok nmX8 (by decide) wF_X8_149 rfl rfl (by decide +kernel) rfl rfl (Nat.le_of_ble_eq_true rfl) dX8_wipe_7 ?_
  refine tr_iload_n hO 10 0 rfl dX8_wipe_10 ?_
  cases h
  exact tr_iret hO 11 hQ rfl dX8_wipe_11
set_option maxHeartbeats 4000000 in
set_option maxRecDepth 100000 in
theorem c_X8_fault {X : xT} (hX : xOK X)   {μ μ' : mT} {r : Int32} (h : f_X8_fault μ = some (r, μ')) : CMi X yX8_fault cX8_fault 1 .int 5 108 [.ref (X.1 27 0)] μ r μ' := by
  refine CMi_of hX (by decide +kernel) (lv := [(0, .ref (X.1 27 0))]) (Nat.le_of_ble_eq_true rfl) rfl (fun Γ hO hn hQ => ?_)
  have hO : Ok X RX8 cX8_fault 5 108 Γ := hO
  unfold f_X8_fault at h
  refine tr_aload_n hO 0 0 rfl dX8_fault_0 ?_
  obtain ⟨v1, μ2, hcall, h⟩ := of_bd h
  refine tr_callI hO 1 (na := 0) (As := []) (st := []) (c_X8_faultOf hX  hcall) rfl (x_v0 (by decide)) rfl rfl wM_X8_190 wI_X8_faultOf wS_X8_faultOf wN_X8 wC_X8_faultOf (by decide +kernel) rfl (by decide) (by decide) (Nat.le_of_ble_eq_true rfl) dX8_fault_1 ?_
  cases h
  exact tr_iret hO 4 hQ rfl dX8_fault_4
set_option maxHeartbeats 4000000 in
set_option maxRecDepth 100000 in
theorem c_X8_carry {X : xT} (hX : xOK X) {a1 : Int32}  {μ μ' : mT} {r : Int32} (h : f_X8_carry a1 μ = some (r, μ')) : CMi X yX8_carry cX8_carry 3 .int 5 110 [.ref (X.1 27 0), .int a1] μ r μ' := by
  refine CMi_of hX (by decide +kernel) (lv := [(0, .ref (X.1 27 0)), (1, .int a1)]) (Nat.le_of_ble_eq_true rfl) rfl (fun Γ hO hn hQ => ?_)
  have hO : Ok X RX8 cX8_carry 5 110 Γ := hO
  unfold f_X8_carry at h
  refine tr_aload_n hO 0 0 rfl dX8_carry_0 ?_
  refine tr_get hO 1 (k := 15) (x_v0 (by decide)) rfl rfl iX8 (by decide) wF_X8_44 rfl rfl dX8_carry_1 ?_
  refine tr_iload_n hO 4 1 rfl dX8_carry_4 ?_
  refine tr_iconst hO 5 (v := 1) (by decide) dX8_carry_5 ?_
  refine tr_iadd hO 6 dX8_carry_6 ?_
  obtain ⟨hg, h⟩ := of_gd h
  refine tr_iald hO 7 (x_v0 (by decide)) a_39 hg dX8_carry_7 ?_
  obtain ⟨v1, e_v1, h⟩ := of_lt h
  refine tr_istore_n hO 8 (v := v1) e_v1 (lv' := [(2, .int v1), (0, .ref (X.1 27 0)), (1, .int a1)]) hn rfl (by decide) rfl dX8_carry_8 ?_
  refine tr_aload_n hO 9 1 rfl dX8_carry_9 ?_
  refine tr_get hO 10 (k := 15) (x_v0 (by decide)) rfl rfl iX8 (by decide) wF_X8_44 rfl rfl dX8_carry_10 ?_
  refine tr_iload_n hO 13 2 rfl dX8_carry_13 ?_
  obtain ⟨hg, h⟩ := of_gd h
  refine tr_iald hO 14 (x_v0 (by decide)) a_39 hg dX8_carry_14 ?_
  obtain ⟨v2, e_v2, h⟩ := of_lt h
  rw [← e_v2]
  by_cases hs112 : v2 = 112
  · have h := of_t hs112 h
    refine tr_tabIn hO 15 60 (by rw [hs112]; decide) (by rw [hs112]; decide) (by rw [hs112]; rfl) (by decide) dX8_carry_15 ?_
    refine tr_aload_n hO 60 1 rfl dX8_carry_60 ?_
    refine tr_iload_n hO 61 0 rfl dX8_carry_61 ?_
    refine tr_aload_n hO 62 1 rfl dX8_carry_62 ?_
    refine tr_get hO 63 (k := 15) (x_v0 (by decide)) rfl rfl iX8 (by decide) wF_X8_44 rfl rfl dX8_carry_63 ?_
    refine tr_iload_n hO 66 2 rfl dX8_carry_66 ?_
    refine tr_iconst hO 67 (v := 2) (by decide) dX8_carry_67 ?_
    refine tr_iadd hO 68 dX8_carry_68 ?_
    obtain ⟨hg, h⟩ := of_gd h
    refine tr_iald hO 69 (x_v0 (by decide)) a_39 hg dX8_carry_69 ?_
    obtain ⟨v3, μ4, hcall, h⟩ := of_bd h
    refine tr_callI hO 70 (na := 2) (As := [.int v1, .int (μ 39 0 (a1 + 2).toNatClampNeg)]) (st := []) (c_X8_pull hX  hcall) rfl (x_v0 (by decide)) rfl rfl wM_X8_193 wI_X8_pull wS_X8_pull wN_X8 wC_X8_pull (by decide +kernel) rfl (by decide) (by decide) (Nat.le_of_ble_eq_true rfl) dX8_carry_70 ?_
    cases h
    exact tr_iret hO 73 hQ rfl dX8_carry_73
  have h := of_f hs112 h
  by_cases hs113 : v2 = 113
  · have h := of_t hs113 h
    refine tr_tabIn hO 15 74 (by rw [hs113]; decide) (by rw [hs113]; decide) (by rw [hs113]; rfl) (by decide) dX8_carry_15 ?_
    refine tr_aload_n hO 74 1 rfl dX8_carry_74 ?_
    refine tr_iload_n hO 75 0 rfl dX8_carry_75 ?_
    refine tr_aload_n hO 76 1 rfl dX8_carry_76 ?_
    refine tr_get hO 77 (k := 15) (x_v0 (by decide)) rfl rfl iX8 (by decide) wF_X8_44 rfl rfl dX8_carry_77 ?_
    refine tr_iload_n hO 80 2 rfl dX8_carry_80 ?_
    refine tr_iconst hO 81 (v := 2) (by decide) dX8_carry_81 ?_
    refine tr_iadd hO 82 dX8_carry_82 ?_
    obtain ⟨hg, h⟩ := of_gd h
    refine tr_iald hO 83 (x_v0 (by decide)) a_39 hg dX8_carry_83 ?_
    obtain ⟨v5, μ6, hcall, h⟩ := of_bd h
    refine tr_callI hO 84 (na := 2) (As := [.int v1, .int (μ 39 0 (a1 + 2).toNatClampNeg)]) (st := []) (c_X8_push hX  hcall) rfl (x_v0 (by decide)) rfl rfl wM_X8_196 wI_X8_push wS_X8_push wN_X8 wC_X8_push (by decide +kernel) rfl (by decide) (by decide) (Nat.le_of_ble_eq_true rfl) dX8_carry_84 ?_
    cases h
    exact tr_iret hO 87 hQ rfl dX8_carry_87
  have h := of_f hs113 h
  by_cases hs114 : v2 = 114
  · have h := of_t hs114 h
    refine tr_tabIn hO 15 88 (by rw [hs114]; decide) (by rw [hs114]; decide) (by rw [hs114]; rfl) (by decide) dX8_carry_15 ?_
    refine tr_aload_n hO 88 1 rfl dX8_carry_88 ?_
    obtain ⟨v7, μ8, hcall, h⟩ := of_bd h
    refine tr_callI hO 89 (na := 0) (As := []) (st := []) (c_X8_round hX  hcall) rfl (x_v0 (by decide)) rfl rfl wM_X8_199 wI_X8_round wS_X8_round wN_X8 wC_X8_round (by decide +kernel) rfl (by decide) (by decide) (Nat.le_of_ble_eq_true rfl) dX8_carry_89 ?_
    cases h
    exact tr_iret hO 92 hQ rfl dX8_carry_92
  have h := of_f hs114 h
  by_cases hs119 : v2 = 119
  · have h := of_t hs119 h
    refine tr_tabIn hO 15 93 (by rw [hs119]; decide) (by rw [hs119]; decide) (by rw [hs119]; rfl) (by decide) dX8_carry_15 ?_
    refine tr_aload_n hO 93 1 rfl dX8_carry_93 ?_
    refine tr_iload_n hO 94 0 rfl dX8_carry_94 ?_
    obtain ⟨v9, μ10, hcall, h⟩ := of_bd h
    refine tr_callI hO 95 (na := 1) (As := [.int v1]) (st := []) (c_X8_pass hX  hcall) rfl (x_v0 (by decide)) rfl rfl wM_X8_202 wI_X8_pass wS_X8_pass wN_X8 wC_X8_pass (by decide +kernel) rfl (by decide) (by decide) (Nat.le_of_ble_eq_true rfl) dX8_carry_95 ?_
    cases h
    exact tr_iret hO 98 hQ rfl dX8_carry_98
  have h := of_f hs119 h
  have hn_hs112 : ¬ v2.toInt = 112 := i_ne (by decide) hs112
  have hn_hs113 : ¬ v2.toInt = 113 := i_ne (by decide) hs113
  have hn_hs114 : ¬ v2.toInt = 114 := i_ne (by decide) hs114
  have hn_hs119 : ¬ v2.toInt = 119 := i_ne (by decide) hs119
  have hsw : v2.toInt < 112 ∨ (119 : Int) < v2.toInt ∨ v2.toInt = 115 ∨ v2.toInt = 116 ∨ v2.toInt = 117 ∨ v2.toInt = 118 := by omega
  refine tr_tabD hO 15 99 (by
    rcases hsw with hsw | hsw | hsw | hsw | hsw | hsw
    · exact Or.inl hsw
    · exact Or.inr (Or.inl hsw)
    · exact Or.inr (Or.inr (by rw [hsw]; exact ⟨by decide, by decide, rfl⟩))
    · exact Or.inr (Or.inr (by rw [hsw]; exact ⟨by decide, by decide, rfl⟩))
    · exact Or.inr (Or.inr (by rw [hsw]; exact ⟨by decide, by decide, rfl⟩))
    · exact Or.inr (Or.inr (by rw [hsw]; exact ⟨by decide, by decide, rfl⟩))
    ) (by decide) dX8_carry_15 ?_
  refine tr_aload_n hO 99 1 rfl dX8_carry_99 ?_
  refine tr_iload_n hO 100 0 rfl dX8_carry_100 ?_
  obtain ⟨v11, μ12, hcall, h⟩ := of_bd h
  refine tr_callI hO 101 (na := 1) (As := [.int v1]) (st := []) (c_X8_leave hX  hcall) rfl (x_v0 (by decide)) rfl rfl wM_X8_205 wI_X8_leave wS_X8_leave wN_X8 wC_X8_leave (by decide +kernel) rfl (by decide) (by decide) (Nat.le_of_ble_eq_true rfl) dX8_carry_101 ?_
  cases h
  exact tr_iret hO 104 hQ rfl dX8_carry_104
set_option maxHeartbeats 4000000 in
set_option maxRecDepth 100000 in
theorem c_X8_carryOut {X : xT} (hX : xOK X)   {μ μ' : mT} {r : Int32} (h : f_X8_carryOut μ = some (r, μ')) : CMi X yX8_carryOut cX8_carryOut 2 .int 6 132 [.ref (X.1 27 0)] μ r μ' := by
  refine CMi_of hX (by decide +kernel) (lv := [(0, .ref (X.1 27 0))]) (Nat.le_of_ble_eq_true rfl) rfl (fun Γ hO hn hQ => ?_)
  have hO : Ok X RX8 cX8_carryOut 6 132 Γ := hO
  unfold f_X8_carryOut at h
  refine tr_aload_n hO 0 0 rfl dX8_carryOut_0 ?_
  obtain ⟨v1, μ2, hcall, h⟩ := of_bd h
  refine tr_callI hO 1 (na := 0) (As := []) (st := []) (c_X8_faultOf hX  hcall) rfl (x_v0 (by decide)) rfl rfl wM_X8_190 wI_X8_faultOf wS_X8_faultOf wN_X8 wC_X8_faultOf (by decide +kernel) rfl (by decide) (by decide) (Nat.le_of_ble_eq_true rfl) dX8_carryOut_1 ?_
  refine tr_bipush hO 4 (v := (-6)) (by decide) dX8_carryOut_4 ?_
  refine tr_icmp_eq hO 6 12 (by decide) dX8_carryOut_6 (fun hc => ?_) (fun hc => ?_)
  · have h := of_t hc h
    refine tr_aload_n hO 12 0 rfl dX8_carryOut_12 ?_
    obtain ⟨v3, μ4, hcall, h⟩ := of_bd h
    refine tr_callV hO 13 (na := 0) (As := []) (st := []) (c_X8_record hX  hcall) rfl (x_v0 (by decide)) rfl rfl wM_X8_66 wI_X8_record wS_X8_record wN_X8 wC_X8_record (by decide +kernel) rfl (by decide) (by decide) (Nat.le_of_ble_eq_true rfl) dX8_carryOut_13 ?_
    refine tr_aload_n hO 16 0 rfl dX8_carryOut_16 ?_
    refine tr_iconst hO 17 (v := 1) (by decide) dX8_carryOut_17 ?_
    obtain ⟨μ5, e_μ5, h⟩ := of_lt h
    refine tr_put hO 18 (k := 9) (ty := .boolean) e_μ5 (x_v0 (by decide)) rfl rfl rfl iX8 tyX8 tyX8_ok nmX8 (by decide) wF_X8_47 rfl rfl (by decide +kernel) rfl rfl (Nat.le_of_ble_eq_true rfl) dX8_carryOut_18 ?_
    refine tr_iconst hO 21 (v := 0) (by decide) dX8_carryOut_21 ?_
    refine tr_istore_n hO 22 (v := 0) rfl (lv' := [(1, .int 0), (0, .ref (X.1 27 0))]) hn rfl (by decide) rfl dX8_carryOut_22 ?_
    obtain ⟨K8, e_K8, h⟩ := of_lt h
    have K8_T : ∀ (v9 : Int32) (μ10 : mT), K8 v9 μ10 = some (r, μ') → tj X Γ μ10 47 [(0, .ref (X.1 27 0)), (1, .int v9)] [] := by
      intro v9 μ10 h
      rw [e_K8] at h
      refine tr_aload_n hO 47 0 rfl dX8_carryOut_47 ?_
      refine tr_iconst hO 48 (v := 0) (by decide) dX8_carryOut_48 ?_
      obtain ⟨μ11, e_μ11, h⟩ := of_lt h
      refine tr_put hO 49 (k := 9) (ty := .boolean) e_μ11 (x_v0 (by decide)) rfl rfl rfl iX8 tyX8 tyX8_ok nmX8 (by decide) wF_X8_47 rfl rfl (by decide +kernel) rfl rfl (Nat.le_of_ble_eq_true rfl) dX8_carryOut_49 ?_
      refine tr_aload_n hO 52 0 rfl dX8_carryOut_52 ?_
      refine tr_iconst hO 53 (v := 0) (by decide) dX8_carryOut_53 ?_
      obtain ⟨μ12, e_μ12, h⟩ := of_lt h
      refine tr_put hO 54 (k := 8) (ty := .int) e_μ12 (x_v0 (by decide)) rfl rfl rfl iX8 tyX8 tyX8_ok nmX8 (by decide) wF_X8_149 rfl rfl (by decide +kernel) rfl rfl (Nat.le_of_ble_eq_true rfl) dX8_carryOut_54 ?_
      refine tr_iload_n hO 57 1 rfl dX8_carryOut_57 ?_
      cases h
      exact tr_iret hO 58 hQ rfl dX8_carryOut_58
    have L23_T : ∀ (n : Nat) (v6 : Int32) (μ7 : mT), f_X8_carryOut_L23 K8 n v6 μ7 = some (r, μ') → tj X Γ μ7 23 [(0, .ref (X.1 27 0)), (1, .int v6)] [] := by
      intro n
      induction n with
      | zero =>
        intro v6 μ7 h
        rw [f_X8_carryOut_L23] at h
        cases h
      | succ n ih =>
        intro v6 μ7 h
        rw [f_X8_carryOut_L23] at h
        refine tr_iload_n hO 23 1 rfl dX8_carryOut_23 ?_
        refine tr_aload_n hO 24 0 rfl dX8_carryOut_24 ?_
        refine tr_get hO 25 (k := 16) (x_v0 (by decide)) rfl rfl iX8 (by decide) wF_X8_179 rfl rfl dX8_carryOut_25 ?_
        refine tr_icmp_ge hO 28 47 (by decide) dX8_carryOut_28 (fun hc => ?_) (fun hc => ?_)
        · have h := of_t hc h
          exact K8_T _ _ h
        · have h := of_f hc h
          refine tr_aload_n hO 31 0 rfl dX8_carryOut_31 ?_
          refine tr_iconst hO 32 (v := 3) (by decide) dX8_carryOut_32 ?_
          refine tr_iload_n hO 33 1 rfl dX8_carryOut_33 ?_
          refine tr_imul hO 34 dX8_carryOut_34 ?_
          obtain ⟨v13, μ14, hcall, h⟩ := of_bd h
          refine tr_callI hO 35 (na := 1) (As := [.int (3 * v6)]) (st := []) (c_X8_carry hX  hcall) rfl (x_v0 (by decide)) rfl rfl wM_X8_208 wI_X8_carry wS_X8_carry wN_X8 wC_X8_carry (by decide +kernel) rfl (by decide) (by decide) (Nat.le_of_ble_eq_true rfl) dX8_carryOut_35 ?_
          refine tr_if_lt hO 38 47 (by decide) dX8_carryOut_38 (fun hc => ?_) (fun hc => ?_)
          · have h := of_t hc h
            exact K8_T _ _ h
          · have h := of_f hc h
            obtain ⟨v15, e_v15, h⟩ := of_lt h
            refine tr_iinc hO 41 (q := 1) (v := v15) (lv' := [(1, .int v15), (0, .ref (X.1 27 0))]) hn rfl (by rw [e_v15]; rfl) (by decide) rfl dX8_carryOut_41 ?_
            refine tr_goto hO 44 23 (by decide) dX8_carryOut_44 ?_
            refine tr_sub [1, 0] rfl ?_
            exact ih _ _ h
    refine tr_sub [1, 0] rfl ?_
    exact L23_T _ _ _ h
  · have h := of_f hc h
    refine tr_bipush hO 9 (v := (-3)) (by decide) dX8_carryOut_9 ?_
    cases h
    exact tr_iret hO 11 hQ rfl dX8_carryOut_11
set_option maxHeartbeats 4000000 in
set_option maxRecDepth 100000 in
theorem c_X8_undo {X : xT} (hX : xOK X)   {μ μ' : mT} {r : Int32} (h : f_X8_undo μ = some (r, μ')) : CMi X yX8_undo cX8_undo 2 .int 0 0 [.ref (X.1 27 0)] μ r μ' := by
  refine CMi_of hX (by decide +kernel) (lv := [(0, .ref (X.1 27 0))]) (Nat.le_of_ble_eq_true rfl) rfl (fun Γ hO hn hQ => ?_)
  have hO : Ok X RX8 cX8_undo 0 0 Γ := hO
  unfold f_X8_undo at h
  refine tr_aload_n hO 0 0 rfl dX8_undo_0 ?_
  refine tr_get hO 1 (k := 4) (x_v0 (by decide)) rfl rfl iX8 (by decide) wF_X8_51 rfl rfl dX8_undo_1 ?_
  refine tr_if_ne hO 4 10 (by decide) dX8_undo_4 (fun hc => ?_) (fun hc => ?_)
  · have h := of_f hc h
    refine tr_aload_n hO 10 0 rfl dX8_undo_10 ?_
    refine tr_dup hO 11 rfl dX8_undo_11 ?_
    refine tr_get hO 12 (k := 4) (x_v0 (by decide)) rfl rfl iX8 (by decide) wF_X8_51 rfl rfl dX8_undo_12 ?_
    refine tr_iconst hO 15 (v := 1) (by decide) dX8_undo_15 ?_
    refine tr_isub hO 16 dX8_undo_16 ?_
    obtain ⟨μ1, e_μ1, h⟩ := of_lt h
    refine tr_put hO 17 (k := 4) (ty := .int) e_μ1 (x_v0 (by decide)) rfl rfl rfl iX8 tyX8 tyX8_ok nmX8 (by decide) wF_X8_51 rfl rfl (by decide +kernel) rfl rfl (Nat.le_of_ble_eq_true rfl) dX8_undo_17 ?_
    refine tr_iconst hO 20 (v := 0) (by decide) dX8_undo_20 ?_
    refine tr_istore_n hO 21 (v := 0) rfl (lv' := [(1, .int 0), (0, .ref (X.1 27 0))]) hn rfl (by decide) rfl dX8_undo_21 ?_
    have L22_T : ∀ (n : Nat) (v2 : Int32) (μ3 : mT), f_X8_undo_L22 n v2 μ3 = some (r, μ') → tj X Γ μ3 22 [(0, .ref (X.1 27 0)), (1, .int v2)] [] := by
      intro n
      induction n with
      | zero =>
        intro v2 μ3 h
        rw [f_X8_undo_L22] at h
        cases h
      | succ n ih =>
        intro v2 μ3 h
        rw [f_X8_undo_L22] at h
        refine tr_iload_n hO 22 1 rfl dX8_undo_22 ?_
        refine tr_sipush hO 23 (v := 560) (by decide) dX8_undo_23 ?_
        refine tr_icmp_ge hO 26 56 (by decide) dX8_undo_26 (fun hc => ?_) (fun hc => ?_)
        · have h := of_t hc h
          refine tr_aload_n hO 56 0 rfl dX8_undo_56 ?_
          refine tr_get hO 57 (k := 4) (x_v0 (by decide)) rfl rfl iX8 (by decide) wF_X8_51 rfl rfl dX8_undo_57 ?_
          cases h
          exact tr_iret hO 60 hQ rfl dX8_undo_60
        · have h := of_f hc h
          refine tr_aload_n hO 29 0 rfl dX8_undo_29 ?_
          refine tr_get hO 30 (k := 0) (x_v0 (by decide)) rfl rfl iX8 (by decide) wF_X8_7 rfl rfl dX8_undo_30 ?_
          refine tr_iload_n hO 33 1 rfl dX8_undo_33 ?_
          refine tr_aload_n hO 34 0 rfl dX8_undo_34 ?_
          refine tr_get hO 35 (k := 3) (x_v0 (by decide)) rfl rfl iX8 (by decide) wF_X8_19 rfl rfl dX8_undo_35 ?_
          refine tr_aload_n hO 38 0 rfl dX8_undo_38 ?_
          refine tr_get hO 39 (k := 4) (x_v0 (by decide)) rfl rfl iX8 (by decide) wF_X8_51 rfl rfl dX8_undo_39 ?_
          refine tr_sipush hO 42 (v := 560) (by decide) dX8_undo_42 ?_
          refine tr_imul hO 45 dX8_undo_45 ?_
          refine tr_iload_n hO 46 1 rfl dX8_undo_46 ?_
          refine tr_iadd hO 47 dX8_undo_47 ?_
          obtain ⟨hg, h⟩ := of_gd h
          refine tr_iald hO 48 (x_v0 (by decide)) a_31 hg dX8_undo_48 ?_
          obtain ⟨hg, h⟩ := of_gd h
          obtain ⟨μ4, e_μ4, h⟩ := of_lt h
          refine tr_iast hO 49 e_μ4 (x_v0 (by decide)) a_28 hg dX8_undo_49 ?_
          obtain ⟨v5, e_v5, h⟩ := of_lt h
          refine tr_iinc hO 50 (q := 1) (v := v5) (lv' := [(1, .int v5), (0, .ref (X.1 27 0))]) hn rfl (by rw [e_v5]; rfl) (by decide) rfl dX8_undo_50 ?_
          refine tr_goto hO 53 22 (by decide) dX8_undo_53 ?_
          refine tr_sub [1, 0] rfl ?_
          exact ih _ _ h
    refine tr_sub [1, 0] rfl ?_
    exact L22_T _ _ _ h
  · have h := of_t hc h
    refine tr_bipush hO 7 (v := (-5)) (by decide) dX8_undo_7 ?_
    cases h
    exact tr_iret hO 9 hQ rfl dX8_undo_9
set_option maxHeartbeats 4000000 in
set_option maxRecDepth 100000 in
theorem c_X8_save {X : xT} (hX : xOK X) {a1 : Int32}  {μ μ' : mT} {r : Int32} (h : f_X8_save a1 μ = some (r, μ')) : CMi X yX8_save cX8_save 3 .int 1 22 [.ref (X.1 27 0), .int a1] μ r μ' := by
  refine CMi_of hX (by decide +kernel) (lv := [(0, .ref (X.1 27 0)), (1, .int a1)]) (Nat.le_of_ble_eq_true rfl) rfl (fun Γ hO hn hQ => ?_)
  have hO : Ok X RX8 cX8_save 1 22 Γ := hO
  unfold f_X8_save at h
  refine tr_iload_n hO 0 1 rfl dX8_save_0 ?_
  refine tr_iconst hO 1 (v := 0) (by decide) dX8_save_1 ?_
  refine tr_iconst hO 2 (v := 1) (by decide) dX8_save_2 ?_
  obtain ⟨v1, μ2, hcall, h⟩ := of_bd h
  refine tr_callS hO 3 (na := 3) (As := [.int a1, .int 0, .int 1]) (st := []) (c_X8_in hX  hcall) rfl wM_X8_55 wT_X8_in wN_X8 wC_X8_in (by decide +kernel) rfl (by decide) (by decide) (Nat.le_of_ble_eq_true rfl) dX8_save_3 ?_
  refine tr_if_ne hO 6 12 (by decide) dX8_save_6 (fun hc => ?_) (fun hc => ?_)
  · have h := of_f hc h
    refine tr_iconst hO 12 (v := 0) (by decide) dX8_save_12 ?_
    refine tr_istore_n hO 13 (v := 0) rfl (lv' := [(2, .int 0), (0, .ref (X.1 27 0)), (1, .int a1)]) hn rfl (by decide) rfl dX8_save_13 ?_
    obtain ⟨K5, e_K5, h⟩ := of_lt h
    have K5_T : ∀ (μ6 : mT), K5 μ6 = some (r, μ') → tj X Γ μ6 45 [(0, .ref (X.1 27 0)), (1, .int a1)] [] := by
      intro μ6 h
      rw [e_K5] at h
      refine tr_aload_n hO 45 0 rfl dX8_save_45 ?_
      refine tr_get hO 46 (k := 6) (x_v0 (by decide)) rfl rfl iX8 (by decide) wF_X8_25 rfl rfl dX8_save_46 ?_
      refine tr_iload_n hO 49 1 rfl dX8_save_49 ?_
      refine tr_iconst hO 50 (v := 1) (by decide) dX8_save_50 ?_
      obtain ⟨hg, h⟩ := of_gd h
      obtain ⟨μ7, e_μ7, h⟩ := of_lt h
      refine tr_zast hO 51 e_μ7 (by decide) (x_v0 (by decide)) a_33 hg dX8_save_51 ?_
      refine tr_aload_n hO 52 0 rfl dX8_save_52 ?_
      refine tr_get hO 53 (k := 0) (x_v0 (by decide)) rfl rfl iX8 (by decide) wF_X8_7 rfl rfl dX8_save_53 ?_
      refine tr_bipush hO 56 (v := 6) (by decide) dX8_save_56 ?_
      refine tr_iald hO 58 (x_v0 (by decide)) a_28 (by decide) dX8_save_58 ?_
      cases h
      exact tr_iret hO 59 hQ rfl dX8_save_59
    have L14_T : ∀ (n : Nat) (v3 : Int32) (μ4 : mT), f_X8_save_L14 a1 K5 n v3 μ4 = some (r, μ') → tj X Γ μ4 14 [(0, .ref (X.1 27 0)), (1, .int a1), (2, .int v3)] [] := by
      intro n
      induction n with
      | zero =>
        intro v3 μ4 h
        rw [f_X8_save_L14] at h
        cases h
      | succ n ih =>
        intro v3 μ4 h
        rw [f_X8_save_L14] at h
        refine tr_iload_n hO 14 2 rfl dX8_save_14 ?_
        refine tr_sipush hO 15 (v := 560) (by decide) dX8_save_15 ?_
        refine tr_icmp_ge hO 18 45 (by decide) dX8_save_18 (fun hc => ?_) (fun hc => ?_)
        · have h := of_t hc h
          refine tr_sub [0, 1] rfl ?_
          exact K5_T _ h
        · have h := of_f hc h
          refine tr_aload_n hO 21 0 rfl dX8_save_21 ?_
          refine tr_get hO 22 (k := 5) (x_v0 (by decide)) rfl rfl iX8 (by decide) wF_X8_22 rfl rfl dX8_save_22 ?_
          refine tr_iload_n hO 25 1 rfl dX8_save_25 ?_
          refine tr_sipush hO 26 (v := 560) (by decide) dX8_save_26 ?_
          refine tr_imul hO 29 dX8_save_29 ?_
          refine tr_iload_n hO 30 2 rfl dX8_save_30 ?_
          refine tr_iadd hO 31 dX8_save_31 ?_
          refine tr_aload_n hO 32 0 rfl dX8_save_32 ?_
          refine tr_get hO 33 (k := 0) (x_v0 (by decide)) rfl rfl iX8 (by decide) wF_X8_7 rfl rfl dX8_save_33 ?_
          refine tr_iload_n hO 36 2 rfl dX8_save_36 ?_
          obtain ⟨hg, h⟩ := of_gd h
          refine tr_iald hO 37 (x_v0 (by decide)) a_28 hg dX8_save_37 ?_
          obtain ⟨hg, h⟩ := of_gd h
          obtain ⟨μ8, e_μ8, h⟩ := of_lt h
          refine tr_iast hO 38 e_μ8 (x_v0 (by decide)) a_32 hg dX8_save_38 ?_
          obtain ⟨v9, e_v9, h⟩ := of_lt h
          refine tr_iinc hO 39 (q := 2) (v := v9) (lv' := [(2, .int v9), (0, .ref (X.1 27 0)), (1, .int a1)]) hn rfl (by rw [e_v9]; rfl) (by decide) rfl dX8_save_39 ?_
          refine tr_goto hO 42 14 (by decide) dX8_save_42 ?_
          refine tr_sub [1, 2, 0] rfl ?_
          exact ih _ _ h
    refine tr_sub [1, 2, 0] rfl ?_
    exact L14_T _ _ _ h
  · have h := of_t hc h
    refine tr_bipush hO 9 (v := (-2)) (by decide) dX8_save_9 ?_
    cases h
    exact tr_iret hO 11 hQ rfl dX8_save_11
set_option maxHeartbeats 4000000 in
set_option maxRecDepth 100000 in
theorem c_X8_restore {X : xT} (hX : xOK X) {a1 : Int32}  {μ μ' : mT} {r : Int32} (h : f_X8_restore a1 μ = some (r, μ')) : CMi X yX8_restore cX8_restore 3 .int 1 22 [.ref (X.1 27 0), .int a1] μ r μ' := by
  refine CMi_of hX (by decide +kernel) (lv := [(0, .ref (X.1 27 0)), (1, .int a1)]) (Nat.le_of_ble_eq_true rfl) rfl (fun Γ hO hn hQ => ?_)
  have hO : Ok X RX8 cX8_restore 1 22 Γ := hO
  unfold f_X8_restore at h
  refine tr_iload_n hO 0 1 rfl dX8_restore_0 ?_
  refine tr_iconst hO 1 (v := 0) (by decide) dX8_restore_1 ?_
  refine tr_iconst hO 2 (v := 1) (by decide) dX8_restore_2 ?_
  obtain ⟨v1, μ2, hcall, h⟩ := of_bd h
  refine tr_callS hO 3 (na := 3) (As := [.int a1, .int 0, .int 1]) (st := []) (c_X8_in hX  hcall) rfl wM_X8_55 wT_X8_in wN_X8 wC_X8_in (by decide +kernel) rfl (by decide) (by decide) (Nat.le_of_ble_eq_true rfl) dX8_restore_3 ?_
  refine tr_if_ne hO 6 12 (by decide) dX8_restore_6 (fun hc => ?_) (fun hc => ?_)
  · have h := of_f hc h
    refine tr_aload_n hO 12 0 rfl dX8_restore_12 ?_
    refine tr_get hO 13 (k := 6) (x_v0 (by decide)) rfl rfl iX8 (by decide) wF_X8_25 rfl rfl dX8_restore_13 ?_
    refine tr_iload_n hO 16 1 rfl dX8_restore_16 ?_
    obtain ⟨hg, h⟩ := of_gd h
    refine tr_zald hO 17 (x_v0 (by decide)) a_33 hg dX8_restore_17 ?_
    refine tr_if_ne hO 18 24 (by decide) dX8_restore_18 (fun hc => ?_) (fun hc => ?_)
    · have h := of_f hc h
      refine tr_aload_n hO 24 0 rfl dX8_restore_24 ?_
      obtain ⟨v3, μ4, hcall, h⟩ := of_bd h
      refine tr_callV hO 25 (na := 0) (As := []) (st := []) (c_X8_record hX  hcall) rfl (x_v0 (by decide)) rfl rfl wM_X8_66 wI_X8_record wS_X8_record wN_X8 wC_X8_record (by decide +kernel) rfl (by decide) (by decide) (Nat.le_of_ble_eq_true rfl) dX8_restore_25 ?_
      refine tr_iconst hO 28 (v := 0) (by decide) dX8_restore_28 ?_
      refine tr_istore_n hO 29 (v := 0) rfl (lv' := [(2, .int 0), (0, .ref (X.1 27 0)), (1, .int a1)]) hn rfl (by decide) rfl dX8_restore_29 ?_
      have L30_T : ∀ (n : Nat) (v5 : Int32) (μ6 : mT), f_X8_restore_L30 a1 n v5 μ6 = some (r, μ') → tj X Γ μ6 30 [(0, .ref (X.1 27 0)), (1, .int a1), (2, .int v5)] [] := by
        intro n
        induction n with
        | zero =>
          intro v5 μ6 h
          rw [f_X8_restore_L30] at h
          cases h
        | succ n ih =>
          intro v5 μ6 h
          rw [f_X8_restore_L30] at h
          refine tr_iload_n hO 30 2 rfl dX8_restore_30 ?_
          refine tr_sipush hO 31 (v := 560) (by decide) dX8_restore_31 ?_
          refine tr_icmp_ge hO 34 61 (by decide) dX8_restore_34 (fun hc => ?_) (fun hc => ?_)
          · have h := of_t hc h
            refine tr_aload_n hO 61 0 rfl dX8_restore_61 ?_
            refine tr_get hO 62 (k := 0) (x_v0 (by decide)) rfl rfl iX8 (by decide) wF_X8_7 rfl rfl dX8_restore_62 ?_
            refine tr_bipush hO 65 (v := 6) (by decide) dX8_restore_65 ?_
            refine tr_iald hO 67 (x_v0 (by decide)) a_28 (by decide) dX8_restore_67 ?_
            cases h
            exact tr_iret hO 68 hQ rfl dX8_restore_68
          · have h := of_f hc h
            refine tr_aload_n hO 37 0 rfl dX8_restore_37 ?_
            refine tr_get hO 38 (k := 0) (x_v0 (by decide)) rfl rfl iX8 (by decide) wF_X8_7 rfl rfl dX8_restore_38 ?_
            refine tr_iload_n hO 41 2 rfl dX8_restore_41 ?_
            refine tr_aload_n hO 42 0 rfl dX8_restore_42 ?_
            refine tr_get hO 43 (k := 5) (x_v0 (by decide)) rfl rfl iX8 (by decide) wF_X8_22 rfl rfl dX8_restore_43 ?_
            refine tr_iload_n hO 46 1 rfl dX8_restore_46 ?_
            refine tr_sipush hO 47 (v := 560) (by decide) dX8_restore_47 ?_
            refine tr_imul hO 50 dX8_restore_50 ?_
            refine tr_iload_n hO 51 2 rfl dX8_restore_51 ?_
            refine tr_iadd hO 52 dX8_restore_52 ?_
            obtain ⟨hg, h⟩ := of_gd h
            refine tr_iald hO 53 (x_v0 (by decide)) a_32 hg dX8_restore_53 ?_
            obtain ⟨hg, h⟩ := of_gd h
            obtain ⟨μ7, e_μ7, h⟩ := of_lt h
            refine tr_iast hO 54 e_μ7 (x_v0 (by decide)) a_28 hg dX8_restore_54 ?_
            obtain ⟨v8, e_v8, h⟩ := of_lt h
            refine tr_iinc hO 55 (q := 2) (v := v8) (lv' := [(2, .int v8), (0, .ref (X.1 27 0)), (1, .int a1)]) hn rfl (by rw [e_v8]; rfl) (by decide) rfl dX8_restore_55 ?_
            refine tr_goto hO 58 30 (by decide) dX8_restore_58 ?_
            refine tr_sub [1, 2, 0] rfl ?_
            exact ih _ _ h
      refine tr_sub [1, 2, 0] rfl ?_
      exact L30_T _ _ _ h
    · have h := of_t hc h
      refine tr_bipush hO 21 (v := (-5)) (by decide) dX8_restore_21 ?_
      cases h
      exact tr_iret hO 23 hQ rfl dX8_restore_23
  · have h := of_t hc h
    refine tr_bipush hO 9 (v := (-2)) (by decide) dX8_restore_9 ?_
    cases h
    exact tr_iret hO 11 hQ rfl dX8_restore_11
