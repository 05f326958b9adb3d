set_option maxHeartbeats 4000000 in
set_option maxRecDepth 100000 in
theorem c_X8_setBack {X : xT} (hX : xOK X) {a1 : Int32} {a2 : Int32}  {μ μ' : mT} {r : Int32} (h : f_X8_setBack a1 a2 μ = some (r, μ')) : CMi X yX8_setBack cX8_setBack 6 .int 1 21 [.ref (X.1 27 0), .int a1, .int a2] μ r μ' := by
  refine CMi_of hX (by decide +kernel) (lv := [(0, .ref (X.1 27 0)), (1, .int a1), (2, .int a2)]) (Nat.le_of_ble_eq_true rfl) rfl (fun Γ hO hn hQ => ?_)
  have hO : Ok X RX8 cX8_setBack 1 21 Γ := hO
  unfold f_X8_setBack at h
  refine tr_bipush hO 0 (v := 60) (by decide) dX8_setBack_0 ?_
  refine tr_bipush hO 2 (v := 30) (by decide) dX8_setBack_2 ?_
  refine tr_iload_n hO 4 1 rfl dX8_setBack_4 ?_
  refine tr_imul hO 5 dX8_setBack_5 ?_
  refine tr_iadd hO 6 dX8_setBack_6 ?_
  obtain ⟨v1, e_v1, h⟩ := of_lt h
  refine tr_istore_n hO 7 (v := v1) e_v1 (lv' := [(3, .int v1), (0, .ref (X.1 27 0)), (1, .int a1), (2, .int a2)]) hn rfl (by decide) rfl dX8_setBack_7 ?_
  refine tr_aload_n hO 8 1 rfl dX8_setBack_8 ?_
  refine tr_iload_n hO 9 2 rfl dX8_setBack_9 ?_
  obtain ⟨v2, μ3, hcall, h⟩ := of_bd h
  refine tr_callI hO 10 (na := 1) (As := [.int a1]) (st := []) (c_X8_manyOn hX  hcall) rfl (x_v0 (by decide)) rfl rfl wM_X8_72 wI_X8_manyOn wS_X8_manyOn wN_X8 wC_X8_manyOn (by decide +kernel) rfl (by decide) (by decide) (Nat.le_of_ble_eq_true rfl) dX8_setBack_10 ?_
  refine tr_istore hO 13 (v := v2) rfl (lv' := [(4, .int v2), (3, .int v1), (0, .ref (X.1 27 0)), (1, .int a1), (2, .int a2)]) hn (by decide) rfl dX8_setBack_13 ?_
  refine tr_iload hO 15 0 rfl dX8_setBack_15 ?_
  refine tr_iconst hO 17 (v := 1) (by decide) dX8_setBack_17 ?_
  refine tr_isub hO 18 dX8_setBack_18 ?_
  obtain ⟨v4, e_v4, h⟩ := of_lt h
  refine tr_istore hO 19 (v := v4) e_v4 (lv' := [(5, .int v4), (4, .int v2), (3, .int v1), (0, .ref (X.1 27 0)), (1, .int a1), (2, .int a2)]) hn (by decide) rfl dX8_setBack_19 ?_
  obtain ⟨K7, e_K7, h⟩ := of_lt h
  have K7_T : ∀ (μ8 : mT), K7 μ8 = some (r, μ') → tj X Γ μ8 52 [(0, .ref (X.1 27 0)), (1, .int a1), (2, .int a2), (3, .int v1), (4, .int v2)] [] := by
    intro μ8 h
    rw [e_K7] at h
    refine tr_aload_n hO 52 0 rfl dX8_setBack_52 ?_
    refine tr_get hO 53 (k := 0) (x_v0 (by decide)) rfl rfl iX8 (by decide) wF_X8_7 rfl rfl dX8_setBack_53 ?_
    refine tr_bipush hO 56 (v := 9) (by decide) dX8_setBack_56 ?_
    refine tr_dup2 hO 58 rfl rfl dX8_setBack_58 ?_
    refine tr_iald hO 59 (x_v0 (by decide)) a_28 (by decide) dX8_setBack_59 ?_
    refine tr_iload_n hO 60 2 rfl dX8_setBack_60 ?_
    refine tr_isub hO 61 dX8_setBack_61 ?_
    obtain ⟨μ9, e_μ9, h⟩ := of_lt h
    refine tr_iast hO 62 e_μ9 (x_v0 (by decide)) a_28 (by decide) dX8_setBack_62 ?_
    refine tr_iconst hO 63 (v := 0) (by decide) dX8_setBack_63 ?_
    refine tr_istore hO 64 (v := 0) rfl (lv' := [(5, .int 0), (0, .ref (X.1 27 0)), (1, .int a1), (2, .int a2), (3, .int v1), (4, .int v2)]) hn (by decide) rfl dX8_setBack_64 ?_
    obtain ⟨K12, e_K12, h⟩ := of_lt h
    have K12_T : ∀ (μ13 : mT), K12 μ13 = some (r, μ') → tj X Γ μ13 106 [(0, .ref (X.1 27 0)), (1, .int a1), (2, .int a2), (4, .int v2)] [] := by
      intro μ13 h
      rw [e_K12] at h
      refine tr_aload_n hO 106 0 rfl dX8_setBack_106 ?_
      refine tr_get hO 107 (k := 0) (x_v0 (by decide)) rfl rfl iX8 (by decide) wF_X8_7 rfl rfl dX8_setBack_107 ?_
      refine tr_bipush hO 110 (v := 20) (by decide) dX8_setBack_110 ?_
      refine tr_iconst hO 112 (v := 4) (by decide) dX8_setBack_112 ?_
      refine tr_iload_n hO 113 1 rfl dX8_setBack_113 ?_
      refine tr_imul hO 114 dX8_setBack_114 ?_
      refine tr_iadd hO 115 dX8_setBack_115 ?_
      refine tr_iconst hO 116 (v := 1) (by decide) dX8_setBack_116 ?_
      refine tr_iadd hO 117 dX8_setBack_117 ?_
      refine tr_iload hO 118 3 rfl dX8_setBack_118 ?_
      refine tr_iload_n hO 120 2 rfl dX8_setBack_120 ?_
      refine tr_iadd hO 121 dX8_setBack_121 ?_
      obtain ⟨hg, h⟩ := of_gd h
      obtain ⟨μ14, e_μ14, h⟩ := of_lt h
      refine tr_iast hO 122 e_μ14 (x_v0 (by decide)) a_28 hg dX8_setBack_122 ?_
      refine tr_aload_n hO 123 0 rfl dX8_setBack_123 ?_
      refine tr_get hO 124 (k := 0) (x_v0 (by decide)) rfl rfl iX8 (by decide) wF_X8_7 rfl rfl dX8_setBack_124 ?_
      refine tr_bipush hO 127 (v := 20) (by decide) dX8_setBack_127 ?_
      refine tr_iconst hO 129 (v := 4) (by decide) dX8_setBack_129 ?_
      refine tr_iload_n hO 130 1 rfl dX8_setBack_130 ?_
      refine tr_imul hO 131 dX8_setBack_131 ?_
      refine tr_iadd hO 132 dX8_setBack_132 ?_
      refine tr_iconst hO 133 (v := 3) (by decide) dX8_setBack_133 ?_
      refine tr_iadd hO 134 dX8_setBack_134 ?_
      refine tr_dup2 hO 135 rfl rfl dX8_setBack_135 ?_
      obtain ⟨hg, h⟩ := of_gd h
      refine tr_iald hO 136 (x_v0 (by decide)) a_28 hg dX8_setBack_136 ?_
      refine tr_iload_n hO 137 2 rfl dX8_setBack_137 ?_
      refine tr_iadd hO 138 dX8_setBack_138 ?_
      obtain ⟨hg, h⟩ := of_gd h
      obtain ⟨μ15, e_μ15, h⟩ := of_lt h
      refine tr_iast hO 139 e_μ15 (x_v0 (by decide)) a_28 hg dX8_setBack_139 ?_
      refine tr_iload hO 140 3 rfl dX8_setBack_140 ?_
      refine tr_if_le hO 142 149 (by decide) dX8_setBack_142 (fun hc => ?_) (fun hc => ?_)
      · have h := of_t hc h
        refine tr_iconst hO 149 (v := 1) (by decide) dX8_setBack_149 ?_
        cases h
        exact tr_iret hO 150 hQ rfl dX8_setBack_150
      · have h := of_f hc h
        refine tr_iconst hO 145 (v := 2) (by decide) dX8_setBack_145 ?_
        refine tr_goto hO 146 150 (by decide) dX8_setBack_146 ?_
        cases h
        exact tr_iret hO 150 hQ rfl dX8_setBack_150
    have L66_T : ∀ (n : Nat) (v10 : Int32) (μ11 : mT), f_X8_setBack_L66 a1 a2 v1 v2 K12 n v10 μ11 = some (r, μ') → tj X Γ μ11 66 [(0, .ref (X.1 27 0)), (1, .int a1), (2, .int a2), (3, .int v1), (4, .int v2), (5, .int v10)] [] := by
      intro n
      induction n with
      | zero =>
        intro v10 μ11 h
        rw [f_X8_setBack_L66] at h
        cases h
      | succ n ih =>
        intro v10 μ11 h
        rw [f_X8_setBack_L66] at h
        refine tr_iload hO 66 5 rfl dX8_setBack_66 ?_
        refine tr_iload_n hO 68 2 rfl dX8_setBack_68 ?_
        refine tr_icmp_ge hO 69 106 (by decide) dX8_setBack_69 (fun hc => ?_) (fun hc => ?_)
        · have h := of_t hc h
          refine tr_sub [0, 1, 2, 4] rfl ?_
          exact K12_T _ h
        · have h := of_f hc h
          refine tr_aload_n hO 72 0 rfl dX8_setBack_72 ?_
          refine tr_get hO 73 (k := 0) (x_v0 (by decide)) rfl rfl iX8 (by decide) wF_X8_7 rfl rfl dX8_setBack_73 ?_
          refine tr_iload_n hO 76 3 rfl dX8_setBack_76 ?_
          refine tr_iload hO 77 5 rfl dX8_setBack_77 ?_
          refine tr_iadd hO 79 dX8_setBack_79 ?_
          refine tr_aload_n hO 80 0 rfl dX8_setBack_80 ?_
          refine tr_get hO 81 (k := 0) (x_v0 (by decide)) rfl rfl iX8 (by decide) wF_X8_7 rfl rfl dX8_setBack_81 ?_
          refine tr_sipush hO 84 (v := 300) (by decide) dX8_setBack_84 ?_
          refine tr_aload_n hO 87 0 rfl dX8_setBack_87 ?_
          refine tr_get hO 88 (k := 0) (x_v0 (by decide)) rfl rfl iX8 (by decide) wF_X8_7 rfl rfl dX8_setBack_88 ?_
          refine tr_bipush hO 91 (v := 9) (by decide) dX8_setBack_91 ?_
          refine tr_iald hO 93 (x_v0 (by decide)) a_28 (by decide) dX8_setBack_93 ?_
          refine tr_iadd hO 94 dX8_setBack_94 ?_
          refine tr_iload hO 95 5 rfl dX8_setBack_95 ?_
          refine tr_iadd hO 97 dX8_setBack_97 ?_
          obtain ⟨hg, h⟩ := of_gd h
          refine tr_iald hO 98 (x_v0 (by decide)) a_28 hg dX8_setBack_98 ?_
          obtain ⟨hg, h⟩ := of_gd h
          obtain ⟨μ16, e_μ16, h⟩ := of_lt h
          refine tr_iast hO 99 e_μ16 (x_v0 (by decide)) a_28 hg dX8_setBack_99 ?_
          obtain ⟨v17, e_v17, h⟩ := of_lt h
          refine tr_iinc hO 100 (q := 5) (v := v17) (lv' := [(5, .int v17), (0, .ref (X.1 27 0)), (1, .int a1), (2, .int a2), (3, .int v1), (4, .int v2)]) hn rfl (by rw [e_v17]; rfl) (by decide) rfl dX8_setBack_100 ?_
          refine tr_goto hO 103 66 (by decide) dX8_setBack_103 ?_
          refine tr_sub [1, 2, 3, 4, 5, 0] rfl ?_
          exact ih _ _ h
    refine tr_sub [1, 2, 3, 4, 5, 0] rfl ?_
    exact L66_T _ _ _ h
  have L21_T : ∀ (n : Nat) (v5 : Int32) (μ6 : mT), f_X8_setBack_L21 a1 a2 v1 v2 K7 n v5 μ6 = some (r, μ') → tj X Γ μ6 21 [(0, .ref (X.1 27 0)), (1, .int a1), (2, .int a2), (3, .int v1), (4, .int v2), (5, .int v5)] [] := by
    intro n
    induction n with
    | zero =>
      intro v5 μ6 h
      rw [f_X8_setBack_L21] at h
      cases h
    | succ n ih =>
      intro v5 μ6 h
      rw [f_X8_setBack_L21] at h
      refine tr_iload hO 21 5 rfl dX8_setBack_21 ?_
      refine tr_if_lt hO 23 52 (by decide) dX8_setBack_23 (fun hc => ?_) (fun hc => ?_)
      · have h := of_t hc h
        refine tr_sub [0, 1, 2, 3, 4] rfl ?_
        exact K7_T _ h
      · have h := of_f hc h
        refine tr_aload_n hO 26 0 rfl dX8_setBack_26 ?_
        refine tr_get hO 27 (k := 0) (x_v0 (by decide)) rfl rfl iX8 (by decide) wF_X8_7 rfl rfl dX8_setBack_27 ?_
        refine tr_iload_n hO 30 3 rfl dX8_setBack_30 ?_
        refine tr_iload hO 31 5 rfl dX8_setBack_31 ?_
        refine tr_iadd hO 33 dX8_setBack_33 ?_
        refine tr_iload_n hO 34 2 rfl dX8_setBack_34 ?_
        refine tr_iadd hO 35 dX8_setBack_35 ?_
        refine tr_aload_n hO 36 0 rfl dX8_setBack_36 ?_
        refine tr_get hO 37 (k := 0) (x_v0 (by decide)) rfl rfl iX8 (by decide) wF_X8_7 rfl rfl dX8_setBack_37 ?_
        refine tr_iload_n hO 40 3 rfl dX8_setBack_40 ?_
        refine tr_iload hO 41 5 rfl dX8_setBack_41 ?_
        refine tr_iadd hO 43 dX8_setBack_43 ?_
        obtain ⟨hg, h⟩ := of_gd h
        refine tr_iald hO 44 (x_v0 (by decide)) a_28 hg dX8_setBack_44 ?_
        obtain ⟨hg, h⟩ := of_gd h
        obtain ⟨μ18, e_μ18, h⟩ := of_lt h
        refine tr_iast hO 45 e_μ18 (x_v0 (by decide)) a_28 hg dX8_setBack_45 ?_
        obtain ⟨v19, e_v19, h⟩ := of_lt h
        refine tr_iinc hO 46 (q := 5) (v := v19) (lv' := [(5, .int v19), (0, .ref (X.1 27 0)), (1, .int a1), (2, .int a2), (3, .int v1), (4, .int v2)]) hn rfl (by rw [e_v19]; rfl) (by decide) rfl dX8_setBack_46 ?_
        refine tr_goto hO 49 21 (by decide) dX8_setBack_49 ?_
        refine tr_sub [1, 2, 3, 4, 5, 0] rfl ?_
        exact ih _ _ h
  refine tr_sub [3, 4, 5, 2, 1, 0] rfl ?_
  exact L21_T _ _ _ h
set_option maxHeartbeats 4000000 in
set_option maxRecDepth 100000 in
theorem c_X8_turnRound {X : xT} (hX : xOK X)   {μ μ' : mT} {r : Int32} (h : f_X8_turnRound μ = some (r, μ')) : CMv X yX8_turnRound cX8_turnRound 4 0 0 [.ref (X.1 27 0)] μ μ' := by
  refine CMv_of hX (by decide +kernel) (lv := [(0, .ref (X.1 27 0))]) (Nat.le_of_ble_eq_true rfl) rfl (fun Γ hO hn hQ => ?_)
  have hO : Ok X RX8 cX8_turnRound 0 0 Γ := hO
  unfold f_X8_turnRound at h
  refine tr_aload_n hO 0 0 rfl dX8_turnRound_0 ?_
  refine tr_get hO 1 (k := 0) (x_v0 (by decide)) rfl rfl iX8 (by decide) wF_X8_7 rfl rfl dX8_turnRound_1 ?_
  refine tr_bipush hO 4 (v := 9) (by decide) dX8_turnRound_4 ?_
  refine tr_iald hO 6 (x_v0 (by decide)) a_28 (by decide) dX8_turnRound_6 ?_
  obtain ⟨v1, e_v1, h⟩ := of_lt h
  refine tr_istore_n hO 7 (v := v1) e_v1 (lv' := [(1, .int v1), (0, .ref (X.1 27 0))]) hn rfl (by decide) rfl dX8_turnRound_7 ?_
  refine tr_iconst hO 8 (v := 0) (by decide) dX8_turnRound_8 ?_
  refine tr_istore_n hO 9 (v := 0) rfl (lv' := [(2, .int 0), (1, .int v1), (0, .ref (X.1 27 0))]) hn rfl (by decide) rfl dX8_turnRound_9 ?_
  have L10_T : ∀ (n : Nat) (v2 : Int32) (μ3 : mT), f_X8_turnRound_L10 v1 n v2 μ3 = some (r, μ') → tj X Γ μ3 10 [(0, .ref (X.1 27 0)), (1, .int v1), (2, .int v2)] [] := by
    intro n
    induction n with
    | zero =>
      intro v2 μ3 h
      rw [f_X8_turnRound_L10] at h
      cases h
    | succ n ih =>
      intro v2 μ3 h
      rw [f_X8_turnRound_L10] at h
      refine tr_iconst hO 10 (v := 2) (by decide) dX8_turnRound_10 ?_
      refine tr_iload_n hO 11 2 rfl dX8_turnRound_11 ?_
      refine tr_imul hO 12 dX8_turnRound_12 ?_
      refine tr_iload_n hO 13 1 rfl dX8_turnRound_13 ?_
      refine tr_iconst hO 14 (v := 1) (by decide) dX8_turnRound_14 ?_
      refine tr_isub hO 15 dX8_turnRound_15 ?_
      refine tr_icmp_ge hO 16 75 (by decide) dX8_turnRound_16 (fun hc => ?_) (fun hc => ?_)
      · have h := of_t hc h
        cases h
        exact tr_vret hO 75 hQ dX8_turnRound_75
      · have h := of_f hc h
        refine tr_aload_n hO 19 0 rfl dX8_turnRound_19 ?_
        refine tr_get hO 20 (k := 0) (x_v0 (by decide)) rfl rfl iX8 (by decide) wF_X8_7 rfl rfl dX8_turnRound_20 ?_
        refine tr_sipush hO 23 (v := 300) (by decide) dX8_turnRound_23 ?_
        refine tr_iload_n hO 26 2 rfl dX8_turnRound_26 ?_
        refine tr_iadd hO 27 dX8_turnRound_27 ?_
        obtain ⟨hg, h⟩ := of_gd h
        refine tr_iald hO 28 (x_v0 (by decide)) a_28 hg dX8_turnRound_28 ?_
        obtain ⟨v4, e_v4, h⟩ := of_lt h
        refine tr_istore_n hO 29 (v := v4) e_v4 (lv' := [(3, .int v4), (0, .ref (X.1 27 0)), (1, .int v1), (2, .int v2)]) hn rfl (by decide) rfl dX8_turnRound_29 ?_
        refine tr_aload_n hO 30 1 rfl dX8_turnRound_30 ?_
        refine tr_get hO 31 (k := 0) (x_v0 (by decide)) rfl rfl iX8 (by decide) wF_X8_7 rfl rfl dX8_turnRound_31 ?_
        refine tr_sipush hO 34 (v := 300) (by decide) dX8_turnRound_34 ?_
        refine tr_iload_n hO 37 3 rfl dX8_turnRound_37 ?_
        refine tr_iadd hO 38 dX8_turnRound_38 ?_
        refine tr_aload_n hO 39 1 rfl dX8_turnRound_39 ?_
        refine tr_get hO 40 (k := 0) (x_v0 (by decide)) rfl rfl iX8 (by decide) wF_X8_7 rfl rfl dX8_turnRound_40 ?_
        refine tr_sipush hO 43 (v := 300) (by decide) dX8_turnRound_43 ?_
        refine tr_iload_n hO 46 2 rfl dX8_turnRound_46 ?_
        refine tr_iadd hO 47 dX8_turnRound_47 ?_
        refine tr_iconst hO 48 (v := 1) (by decide) dX8_turnRound_48 ?_
        refine tr_isub hO 49 dX8_turnRound_49 ?_
        refine tr_iload_n hO 50 3 rfl dX8_turnRound_50 ?_
        refine tr_isub hO 51 dX8_turnRound_51 ?_
        obtain ⟨hg, h⟩ := of_gd h
        refine tr_iald hO 52 (x_v0 (by decide)) a_28 hg dX8_turnRound_52 ?_
        obtain ⟨hg, h⟩ := of_gd h
        obtain ⟨μ5, e_μ5, h⟩ := of_lt h
        refine tr_iast hO 53 e_μ5 (x_v0 (by decide)) a_28 hg dX8_turnRound_53 ?_
        refine tr_aload_n hO 54 1 rfl dX8_turnRound_54 ?_
        refine tr_get hO 55 (k := 0) (x_v0 (by decide)) rfl rfl iX8 (by decide) wF_X8_7 rfl rfl dX8_turnRound_55 ?_
        refine tr_sipush hO 58 (v := 300) (by decide) dX8_turnRound_58 ?_
        refine tr_iload_n hO 61 2 rfl dX8_turnRound_61 ?_
        refine tr_iadd hO 62 dX8_turnRound_62 ?_
        refine tr_iconst hO 63 (v := 1) (by decide) dX8_turnRound_63 ?_
        refine tr_isub hO 64 dX8_turnRound_64 ?_
        refine tr_iload_n hO 65 3 rfl dX8_turnRound_65 ?_
        refine tr_isub hO 66 dX8_turnRound_66 ?_
        refine tr_iload_n hO 67 0 rfl dX8_turnRound_67 ?_
        obtain ⟨hg, h⟩ := of_gd h
        obtain ⟨μ6, e_μ6, h⟩ := of_lt h
        refine tr_iast hO 68 e_μ6 (x_v0 (by decide)) a_28 hg dX8_turnRound_68 ?_
        obtain ⟨v7, e_v7, h⟩ := of_lt h
        refine tr_iinc hO 69 (q := 3) (v := v7) (lv' := [(2, .int v7), (3, .int v4), (0, .ref (X.1 27 0)), (1, .int v1)]) hn rfl (by rw [e_v7]; rfl) (by decide) rfl dX8_turnRound_69 ?_
        refine tr_goto hO 72 10 (by decide) dX8_turnRound_72 ?_
        refine tr_sub [2, 3, 0] rfl ?_
        exact ih _ _ h
  refine tr_sub [2, 1, 0] rfl ?_
  exact L10_T _ _ _ h
set_option maxHeartbeats 4000000 in
set_option maxRecDepth 100000 in
theorem c_X8_canPull {X : xT} (hX : xOK X) {a1 : Int32} {a2 : Int32}  {μ μ' : mT} {r : Int32} (h : f_X8_canPull a1 a2 μ = some (r, μ')) : CMi X yX8_canPull cX8_canPull 3 .boolean 3 65 [.ref (X.1 27 0), .int a1, .int a2] μ r μ' := by
  refine CMi_of hX (by decide +kernel) (lv := [(0, .ref (X.1 27 0)), (1, .int a1), (2, .int a2)]) (Nat.le_of_ble_eq_true rfl) rfl (fun Γ hO hn hQ => ?_)
  have hO : Ok X RX8 cX8_canPull 3 65 Γ := hO
  unfold f_X8_canPull at h
  refine tr_iload_n hO 0 2 rfl dX8_canPull_0 ?_
  refine tr_aload_n hO 1 0 rfl dX8_canPull_1 ?_
  refine tr_iload_n hO 2 1 rfl dX8_canPull_2 ?_
  obtain ⟨v1, μ2, hcall, h⟩ := of_bd h
  refine tr_callI hO 3 (na := 1) (As := [.int a1]) (st := [.int a2]) (c_X8_manyOn hX  hcall) rfl (x_v0 (by decide)) rfl rfl wM_X8_72 wI_X8_manyOn wS_X8_manyOn wN_X8 wC_X8_manyOn (by decide +kernel) rfl (by decide) (by decide) (Nat.le_of_ble_eq_true rfl) dX8_canPull_3 ?_
  refine tr_icmp_gt hO 6 39 (by decide) dX8_canPull_6 (fun hc => ?_) (fun hc => ?_)
  · have h := of_t hc h
    refine tr_iconst hO 39 (v := 0) (by decide) dX8_canPull_39 ?_
    cases h
    exact tr_iret hO 40 hQ (by decide) dX8_canPull_40
  · have h := of_f hc h
    refine tr_aload_n hO 9 0 rfl dX8_canPull_9 ?_
    obtain ⟨v3, μ4, hcall, h⟩ := of_bd h
    refine tr_callI hO 10 (na := 0) (As := []) (st := []) (c_X8_lengthAtEngine hX  hcall) rfl (x_v0 (by decide)) rfl rfl wM_X8_93 wI_X8_lengthAtEngine wS_X8_lengthAtEngine wN_X8 wC_X8_lengthAtEngine (by decide +kernel) rfl (by decide) (by decide) (Nat.le_of_ble_eq_true rfl) dX8_canPull_10 ?_
    refine tr_aload_n hO 13 0 rfl dX8_canPull_13 ?_
    refine tr_bipush hO 14 (v := 60) (by decide) dX8_canPull_14 ?_
    refine tr_bipush hO 16 (v := 30) (by decide) dX8_canPull_16 ?_
    refine tr_iload_n hO 18 1 rfl dX8_canPull_18 ?_
    refine tr_imul hO 19 dX8_canPull_19 ?_
    refine tr_iadd hO 20 dX8_canPull_20 ?_
    refine tr_iload_n hO 21 2 rfl dX8_canPull_21 ?_
    obtain ⟨v5, μ6, hcall, h⟩ := of_bd h
    refine tr_callI hO 22 (na := 2) (As := [.int (60 + (30 * a1)), .int a2]) (st := [.int v3]) (c_X8_lengths hX  hcall) rfl (x_v0 (by decide)) rfl rfl wM_X8_75 wI_X8_lengths wS_X8_lengths wN_X8 wC_X8_lengths (by decide +kernel) rfl (by decide) (by decide) (Nat.le_of_ble_eq_true rfl) dX8_canPull_22 ?_
    refine tr_iadd hO 25 dX8_canPull_25 ?_
    refine tr_aload_n hO 26 0 rfl dX8_canPull_26 ?_
    refine tr_get hO 27 (k := 0) (x_v0 (by decide)) rfl rfl iX8 (by decide) wF_X8_7 rfl rfl dX8_canPull_27 ?_
    refine tr_iconst hO 30 (v := 0) (by decide) dX8_canPull_30 ?_
    refine tr_iald hO 31 (x_v0 (by decide)) a_28 (by decide) dX8_canPull_31 ?_
    refine tr_icmp_gt hO 32 39 (by decide) dX8_canPull_32 (fun hc => ?_) (fun hc => ?_)
    · have h := of_t hc h
      refine tr_iconst hO 39 (v := 0) (by decide) dX8_canPull_39 ?_
      cases h
      exact tr_iret hO 40 hQ (by decide) dX8_canPull_40
    · have h := of_f hc h
      refine tr_iconst hO 35 (v := 1) (by decide) dX8_canPull_35 ?_
      refine tr_goto hO 36 40 (by decide) dX8_canPull_36 ?_
      cases h
      exact tr_iret hO 40 hQ (by decide) dX8_canPull_40
set_option maxHeartbeats 4000000 in
set_option maxRecDepth 100000 in
theorem c_X8_canPush {X : xT} (hX : xOK X) {a1 : Int32} {a2 : Int32}  {μ μ' : mT} {r : Int32} (h : f_X8_canPush a1 a2 μ = some (r, μ')) : CMi X yX8_canPush cX8_canPush 3 .boolean 3 66 [.ref (X.1 27 0), .int a1, .int a2] μ r μ' := by
  refine CMi_of hX (by decide +kernel) (lv := [(0, .ref (X.1 27 0)), (1, .int a1), (2, .int a2)]) (Nat.le_of_ble_eq_true rfl) rfl (fun Γ hO hn hQ => ?_)
  have hO : Ok X RX8 cX8_canPush 3 66 Γ := hO
  unfold f_X8_canPush at h
  refine tr_iload_n hO 0 2 rfl dX8_canPush_0 ?_
  refine tr_aload_n hO 1 0 rfl dX8_canPush_1 ?_
  refine tr_get hO 2 (k := 0) (x_v0 (by decide)) rfl rfl iX8 (by decide) wF_X8_7 rfl rfl dX8_canPush_2 ?_
  refine tr_bipush hO 5 (v := 9) (by decide) dX8_canPush_5 ?_
  refine tr_iald hO 7 (x_v0 (by decide)) a_28 (by decide) dX8_canPush_7 ?_
  refine tr_icmp_gt hO 8 53 (by decide) dX8_canPush_8 (fun hc => ?_) (fun hc => ?_)
  · have h := of_t hc h
    refine tr_iconst hO 53 (v := 0) (by decide) dX8_canPush_53 ?_
    cases h
    exact tr_iret hO 54 hQ (by decide) dX8_canPush_54
  · have h := of_f hc h
    refine tr_aload_n hO 11 0 rfl dX8_canPush_11 ?_
    refine tr_iload_n hO 12 1 rfl dX8_canPush_12 ?_
    obtain ⟨v1, μ2, hcall, h⟩ := of_bd h
    refine tr_callI hO 13 (na := 1) (As := [.int a1]) (st := []) (c_X8_lengthOn hX  hcall) rfl (x_v0 (by decide)) rfl rfl wM_X8_83 wI_X8_lengthOn wS_X8_lengthOn wN_X8 wC_X8_lengthOn (by decide +kernel) rfl (by decide) (by decide) (Nat.le_of_ble_eq_true rfl) dX8_canPush_13 ?_
    refine tr_aload_n hO 16 0 rfl dX8_canPush_16 ?_
    refine tr_sipush hO 17 (v := 300) (by decide) dX8_canPush_17 ?_
    refine tr_aload_n hO 20 0 rfl dX8_canPush_20 ?_
    refine tr_get hO 21 (k := 0) (x_v0 (by decide)) rfl rfl iX8 (by decide) wF_X8_7 rfl rfl dX8_canPush_21 ?_
    refine tr_bipush hO 24 (v := 9) (by decide) dX8_canPush_24 ?_
    refine tr_iald hO 26 (x_v0 (by decide)) a_28 (by decide) dX8_canPush_26 ?_
    refine tr_iadd hO 27 dX8_canPush_27 ?_
    refine tr_iload_n hO 28 2 rfl dX8_canPush_28 ?_
    refine tr_isub hO 29 dX8_canPush_29 ?_
    refine tr_iload_n hO 30 2 rfl dX8_canPush_30 ?_
    obtain ⟨v3, μ4, hcall, h⟩ := of_bd h
    refine tr_callI hO 31 (na := 2) (As := [.int ((300 + (μ2 28 0 (9 : Int32).toNatClampNeg)) - a2), .int a2]) (st := [.int v1]) (c_X8_lengths hX  hcall) rfl (x_v0 (by decide)) rfl rfl wM_X8_75 wI_X8_lengths wS_X8_lengths wN_X8 wC_X8_lengths (by decide +kernel) rfl (by decide) (by decide) (Nat.le_of_ble_eq_true rfl) dX8_canPush_31 ?_
    refine tr_iadd hO 34 dX8_canPush_34 ?_
    refine tr_aload_n hO 35 0 rfl dX8_canPush_35 ?_
    refine tr_get hO 36 (k := 0) (x_v0 (by decide)) rfl rfl iX8 (by decide) wF_X8_7 rfl rfl dX8_canPush_36 ?_
    refine tr_bipush hO 39 (v := 20) (by decide) dX8_canPush_39 ?_
    refine tr_iconst hO 41 (v := 4) (by decide) dX8_canPush_41 ?_
    refine tr_iload_n hO 42 1 rfl dX8_canPush_42 ?_
    refine tr_imul hO 43 dX8_canPush_43 ?_
    refine tr_iadd hO 44 dX8_canPush_44 ?_
    obtain ⟨hg, h⟩ := of_gd h
    refine tr_iald hO 45 (x_v0 (by decide)) a_28 hg dX8_canPush_45 ?_
    refine tr_icmp_gt hO 46 53 (by decide) dX8_canPush_46 (fun hc => ?_) (fun hc => ?_)
    · have h := of_t hc h
      refine tr_iconst hO 53 (v := 0) (by decide) dX8_canPush_53 ?_
      cases h
      exact tr_iret hO 54 hQ (by decide) dX8_canPush_54
    · have h := of_f hc h
      refine tr_iconst hO 49 (v := 1) (by decide) dX8_canPush_49 ?_
      refine tr_goto hO 50 54 (by decide) dX8_canPush_50 ?_
      cases h
      exact tr_iret hO 54 hQ (by decide) dX8_canPush_54
set_option maxHeartbeats 4000000 in
set_option maxRecDepth 100000 in
theorem c_X8_canRound {X : xT} (hX : xOK X)   {μ μ' : mT} {r : Int32} (h : f_X8_canRound μ = some (r, μ')) : CMi X yX8_canRound cX8_canRound 1 .boolean 3 65 [.ref (X.1 27 0)] μ r μ' := by
  refine CMi_of hX (by decide +kernel) (lv := [(0, .ref (X.1 27 0))]) (Nat.le_of_ble_eq_true rfl) rfl (fun Γ hO hn hQ => ?_)
  have hO : Ok X RX8 cX8_canRound 3 65 Γ := hO
  unfold f_X8_canRound at h
  refine tr_aload_n hO 0 0 rfl dX8_canRound_0 ?_
  refine tr_get hO 1 (k := 0) (x_v0 (by decide)) rfl rfl iX8 (by decide) wF_X8_7 rfl rfl dX8_canRound_1 ?_
  refine tr_bipush hO 4 (v := 9) (by decide) dX8_canRound_4 ?_
  refine tr_iald hO 6 (x_v0 (by decide)) a_28 (by decide) dX8_canRound_6 ?_
  refine tr_if_le hO 7 27 (by decide) dX8_canRound_7 (fun hc => ?_) (fun hc => ?_)
  · have h := of_t hc h
    refine tr_iconst hO 27 (v := 0) (by decide) dX8_canRound_27 ?_
    cases h
    exact tr_iret hO 28 hQ (by decide) dX8_canRound_28
  · have h := of_f hc h
    refine tr_aload_n hO 10 0 rfl dX8_canRound_10 ?_
    obtain ⟨v1, μ2, hcall, h⟩ := of_bd h
    refine tr_callI hO 11 (na := 0) (As := []) (st := []) (c_X8_lengthAtEngine hX  hcall) rfl (x_v0 (by decide)) rfl rfl wM_X8_93 wI_X8_lengthAtEngine wS_X8_lengthAtEngine wN_X8 wC_X8_lengthAtEngine (by decide +kernel) rfl (by decide) (by decide) (Nat.le_of_ble_eq_true rfl) dX8_canRound_11 ?_
    refine tr_aload_n hO 14 0 rfl dX8_canRound_14 ?_
    refine tr_get hO 15 (k := 0) (x_v0 (by decide)) rfl rfl iX8 (by decide) wF_X8_7 rfl rfl dX8_canRound_15 ?_
    refine tr_iconst hO 18 (v := 1) (by decide) dX8_canRound_18 ?_
    refine tr_iald hO 19 (x_v0 (by decide)) a_28 (by decide) dX8_canRound_19 ?_
    refine tr_icmp_gt hO 20 27 (by decide) dX8_canRound_20 (fun hc => ?_) (fun hc => ?_)
    · have h := of_t hc h
      refine tr_iconst hO 27 (v := 0) (by decide) dX8_canRound_27 ?_
      cases h
      exact tr_iret hO 28 hQ (by decide) dX8_canRound_28
    · have h := of_f hc h
      refine tr_iconst hO 23 (v := 1) (by decide) dX8_canRound_23 ?_
      refine tr_goto hO 24 28 (by decide) dX8_canRound_24 ?_
      cases h
      exact tr_iret hO 28 hQ (by decide) dX8_canRound_28
set_option maxHeartbeats 4000000 in
set_option maxRecDepth 100000 in
theorem c_X8_pull {X : xT} (hX : xOK X) {a1 : Int32} {a2 : Int32}  {μ μ' : mT} {r : Int32} (h : f_X8_pull a1 a2 μ = some (r, μ')) : CMi X yX8_pull cX8_pull 3 .int 4 87 [.ref (X.1 27 0), .int a1, .int a2] μ r μ' := by
  refine CMi_of hX (by decide +kernel) (lv := [(0, .ref (X.1 27 0)), (1, .int a1), (2, .int a2)]) (Nat.le_of_ble_eq_true rfl) rfl (fun Γ hO hn hQ => ?_)
  have hO : Ok X RX8 cX8_pull 4 87 Γ := hO
  unfold f_X8_pull at h
  refine tr_aload_n hO 0 0 rfl dX8_pull_0 ?_
  refine tr_iload_n hO 1 1 rfl dX8_pull_1 ?_
  obtain ⟨v1, μ2, hcall, h⟩ := of_bd h
  refine tr_callI hO 2 (na := 1) (As := [.int a1]) (st := []) (c_X8_isTrack hX  hcall) rfl (x_v0 (by decide)) rfl rfl wM_X8_79 wI_X8_isTrack wS_X8_isTrack wN_X8 wC_X8_isTrack (by decide +kernel) rfl (by decide) (by decide) (Nat.le_of_ble_eq_true rfl) dX8_pull_2 ?_
  refine tr_if_ne hO 5 10 (by decide) dX8_pull_5 (fun hc => ?_) (fun hc => ?_)
  · have h := of_f hc h
    refine tr_iload_n hO 10 2 rfl dX8_pull_10 ?_
    refine tr_iconst hO 11 (v := 1) (by decide) dX8_pull_11 ?_
    refine tr_bipush hO 12 (v := 30) (by decide) dX8_pull_12 ?_
    obtain ⟨v3, μ4, hcall, h⟩ := of_bd h
    refine tr_callS hO 14 (na := 3) (As := [.int a2, .int 1, .int 30]) (st := []) (c_X8_in hX  hcall) rfl wM_X8_55 wT_X8_in wN_X8 wC_X8_in (by decide +kernel) rfl (by decide) (by decide) (Nat.le_of_ble_eq_true rfl) dX8_pull_14 ?_
    refine tr_if_ne hO 17 23 (by decide) dX8_pull_17 (fun hc => ?_) (fun hc => ?_)
    · have h := of_f hc h
      refine tr_aload_n hO 23 0 rfl dX8_pull_23 ?_
      refine tr_iload_n hO 24 1 rfl dX8_pull_24 ?_
      refine tr_iload_n hO 25 2 rfl dX8_pull_25 ?_
      obtain ⟨v5, μ6, hcall, h⟩ := of_bd h
      refine tr_callI hO 26 (na := 2) (As := [.int a1, .int a2]) (st := []) (c_X8_canPull hX  hcall) rfl (x_v0 (by decide)) rfl rfl wM_X8_97 wI_X8_canPull wS_X8_canPull wN_X8 wC_X8_canPull (by decide +kernel) rfl (by decide) (by decide) (Nat.le_of_ble_eq_true rfl) dX8_pull_26 ?_
      refine tr_if_ne hO 29 35 (by decide) dX8_pull_29 (fun hc => ?_) (fun hc => ?_)
      · have h := of_f hc h
        refine tr_aload_n hO 35 0 rfl dX8_pull_35 ?_
        obtain ⟨v7, μ8, hcall, h⟩ := of_bd h
        refine tr_callV hO 36 (na := 0) (As := []) (st := []) (c_X8_record hX  hcall) rfl (x_v0 (by decide)) rfl rfl wM_X8_66 wI_X8_record wS_X8_record wN_X8 wC_X8_record (by decide +kernel) rfl (by decide) (by decide) (Nat.le_of_ble_eq_true rfl) dX8_pull_36 ?_
        refine tr_aload_n hO 39 0 rfl dX8_pull_39 ?_
        refine tr_aload_n hO 40 0 rfl dX8_pull_40 ?_
        refine tr_get hO 41 (k := 0) (x_v0 (by decide)) rfl rfl iX8 (by decide) wF_X8_7 rfl rfl dX8_pull_41 ?_
        refine tr_iconst hO 44 (v := 2) (by decide) dX8_pull_44 ?_
        refine tr_iald hO 45 (x_v0 (by decide)) a_28 (by decide) dX8_pull_45 ?_
        refine tr_aload_n hO 46 0 rfl dX8_pull_46 ?_
        refine tr_iload_n hO 47 1 rfl dX8_pull_47 ?_
        refine tr_iload_n hO 48 2 rfl dX8_pull_48 ?_
        obtain ⟨v9, μ10, hcall, h⟩ := of_bd h
        refine tr_callI hO 49 (na := 2) (As := [.int a1, .int a2]) (st := [.int (μ8 28 0 (2 : Int32).toNatClampNeg), .ref (X.1 27 0)]) (c_X8_drawOut hX  hcall) rfl (x_v0 (by decide)) rfl rfl wM_X8_101 wI_X8_drawOut wS_X8_drawOut wN_X8 wC_X8_drawOut (by decide +kernel) rfl (by decide) (by decide) (Nat.le_of_ble_eq_true rfl) dX8_pull_49 ?_
        obtain ⟨v11, μ12, hcall, h⟩ := of_bd h
        refine tr_callV hO 52 (na := 2) (As := [.int (μ8 28 0 (2 : Int32).toNatClampNeg), .int v9]) (st := []) (c_X8_take hX  hcall) rfl (x_v0 (by decide)) rfl rfl wM_X8_104 wI_X8_take wS_X8_take wN_X8 wC_X8_take (by decide +kernel) rfl (by decide) (by decide) (Nat.le_of_ble_eq_true rfl) dX8_pull_52 ?_
        refine tr_aload_n hO 55 0 rfl dX8_pull_55 ?_
        refine tr_get hO 56 (k := 0) (x_v0 (by decide)) rfl rfl iX8 (by decide) wF_X8_7 rfl rfl dX8_pull_56 ?_
        refine tr_bipush hO 59 (v := 9) (by decide) dX8_pull_59 ?_
        refine tr_iald hO 61 (x_v0 (by decide)) a_28 (by decide) dX8_pull_61 ?_
        cases h
        exact tr_iret hO 62 hQ rfl dX8_pull_62
      · have h := of_t hc h
        refine tr_bipush hO 32 (v := (-5)) (by decide) dX8_pull_32 ?_
        cases h
        exact tr_iret hO 34 hQ rfl dX8_pull_34
    · have h := of_t hc h
      refine tr_bipush hO 20 (v := (-2)) (by decide) dX8_pull_20 ?_
      cases h
      exact tr_iret hO 22 hQ rfl dX8_pull_22
  · have h := of_t hc h
    refine tr_iconst hO 8 (v := (-1)) (by decide) dX8_pull_8 ?_
    cases h
    exact tr_iret hO 9 hQ rfl dX8_pull_9
set_option maxHeartbeats 4000000 in
set_option maxRecDepth 100000 in
theorem c_X8_push {X : xT} (hX : xOK X) {a1 : Int32} {a2 : Int32}  {μ μ' : mT} {r : Int32} (h : f_X8_push a1 a2 μ = some (r, μ')) : CMi X yX8_push cX8_push 3 .int 4 88 [.ref (X.1 27 0), .int a1, .int a2] μ r μ' := by
  refine CMi_of hX (by decide +kernel) (lv := [(0, .ref (X.1 27 0)), (1, .int a1), (2, .int a2)]) (Nat.le_of_ble_eq_true rfl) rfl (fun Γ hO hn hQ => ?_)
  have hO : Ok X RX8 cX8_push 4 88 Γ := hO
  unfold f_X8_push at h
  refine tr_aload_n hO 0 0 rfl dX8_push_0 ?_
  refine tr_iload_n hO 1 1 rfl dX8_push_1 ?_
  obtain ⟨v1, μ2, hcall, h⟩ := of_bd h
  refine tr_callI hO 2 (na := 1) (As := [.int a1]) (st := []) (c_X8_isTrack hX  hcall) rfl (x_v0 (by decide)) rfl rfl wM_X8_79 wI_X8_isTrack wS_X8_isTrack wN_X8 wC_X8_isTrack (by decide +kernel) rfl (by decide) (by decide) (Nat.le_of_ble_eq_true rfl) dX8_push_2 ?_
  refine tr_if_ne hO 5 10 (by decide) dX8_push_5 (fun hc => ?_) (fun hc => ?_)
  · have h := of_f hc h
    refine tr_iload_n hO 10 2 rfl dX8_push_10 ?_
    refine tr_iconst hO 11 (v := 1) (by decide) dX8_push_11 ?_
    refine tr_bipush hO 12 (v := 30) (by decide) dX8_push_12 ?_
    obtain ⟨v3, μ4, hcall, h⟩ := of_bd h
    refine tr_callS hO 14 (na := 3) (As := [.int a2, .int 1, .int 30]) (st := []) (c_X8_in hX  hcall) rfl wM_X8_55 wT_X8_in wN_X8 wC_X8_in (by decide +kernel) rfl (by decide) (by decide) (Nat.le_of_ble_eq_true rfl) dX8_push_14 ?_
    refine tr_if_ne hO 17 23 (by decide) dX8_push_17 (fun hc => ?_) (fun hc => ?_)
    · have h := of_f hc h
      refine tr_aload_n hO 23 0 rfl dX8_push_23 ?_
      refine tr_iload_n hO 24 1 rfl dX8_push_24 ?_
      refine tr_iload_n hO 25 2 rfl dX8_push_25 ?_
      obtain ⟨v5, μ6, hcall, h⟩ := of_bd h
      refine tr_callI hO 26 (na := 2) (As := [.int a1, .int a2]) (st := []) (c_X8_canPush hX  hcall) rfl (x_v0 (by decide)) rfl rfl wM_X8_108 wI_X8_canPush wS_X8_canPush wN_X8 wC_X8_canPush (by decide +kernel) rfl (by decide) (by decide) (Nat.le_of_ble_eq_true rfl) dX8_push_26 ?_
      refine tr_if_ne hO 29 35 (by decide) dX8_push_29 (fun hc => ?_) (fun hc => ?_)
      · have h := of_f hc h
        refine tr_aload_n hO 35 0 rfl dX8_push_35 ?_
        obtain ⟨v7, μ8, hcall, h⟩ := of_bd h
        refine tr_callV hO 36 (na := 0) (As := []) (st := []) (c_X8_record hX  hcall) rfl (x_v0 (by decide)) rfl rfl wM_X8_66 wI_X8_record wS_X8_record wN_X8 wC_X8_record (by decide +kernel) rfl (by decide) (by decide) (Nat.le_of_ble_eq_true rfl) dX8_push_36 ?_
        refine tr_aload_n hO 39 0 rfl dX8_push_39 ?_
        refine tr_aload_n hO 40 0 rfl dX8_push_40 ?_
        refine tr_get hO 41 (k := 0) (x_v0 (by decide)) rfl rfl iX8 (by decide) wF_X8_7 rfl rfl dX8_push_41 ?_
        refine tr_iconst hO 44 (v := 2) (by decide) dX8_push_44 ?_
        refine tr_iald hO 45 (x_v0 (by decide)) a_28 (by decide) dX8_push_45 ?_
        refine tr_aload_n hO 46 0 rfl dX8_push_46 ?_
        refine tr_iload_n hO 47 1 rfl dX8_push_47 ?_
        refine tr_iload_n hO 48 2 rfl dX8_push_48 ?_
        obtain ⟨v9, μ10, hcall, h⟩ := of_bd h
        refine tr_callI hO 49 (na := 2) (As := [.int a1, .int a2]) (st := [.int (μ8 28 0 (2 : Int32).toNatClampNeg), .ref (X.1 27 0)]) (c_X8_setBack hX  hcall) rfl (x_v0 (by decide)) rfl rfl wM_X8_111 wI_X8_setBack wS_X8_setBack wN_X8 wC_X8_setBack (by decide +kernel) rfl (by decide) (by decide) (Nat.le_of_ble_eq_true rfl) dX8_push_49 ?_
        obtain ⟨v11, μ12, hcall, h⟩ := of_bd h
        refine tr_callV hO 52 (na := 2) (As := [.int (μ8 28 0 (2 : Int32).toNatClampNeg), .int v9]) (st := []) (c_X8_take hX  hcall) rfl (x_v0 (by decide)) rfl rfl wM_X8_104 wI_X8_take wS_X8_take wN_X8 wC_X8_take (by decide +kernel) rfl (by decide) (by decide) (Nat.le_of_ble_eq_true rfl) dX8_push_52 ?_
        refine tr_aload_n hO 55 0 rfl dX8_push_55 ?_
        refine tr_get hO 56 (k := 0) (x_v0 (by decide)) rfl rfl iX8 (by decide) wF_X8_7 rfl rfl dX8_push_56 ?_
        refine tr_bipush hO 59 (v := 9) (by decide) dX8_push_59 ?_
        refine tr_iald hO 61 (x_v0 (by decide)) a_28 (by decide) dX8_push_61 ?_
        cases h
        exact tr_iret hO 62 hQ rfl dX8_push_62
      · have h := of_t hc h
        refine tr_bipush hO 32 (v := (-5)) (by decide) dX8_push_32 ?_
        cases h
        exact tr_iret hO 34 hQ rfl dX8_push_34
    · have h := of_t hc h
      refine tr_bipush hO 20 (v := (-2)) (by decide) dX8_push_20 ?_
      cases h
      exact tr_iret hO 22 hQ rfl dX8_push_22
  · have h := of_t hc h
    refine tr_iconst hO 8 (v := (-1)) (by decide) dX8_push_8 ?_
    cases h
    exact tr_iret hO 9 hQ rfl dX8_push_9
set_option maxHeartbeats 4000000 in
set_option maxRecDepth 100000 in
theorem c_X8_round {X : xT} (hX : xOK X)   {μ μ' : mT} {r : Int32} (h : f_X8_round μ = some (r, μ')) : CMi X yX8_round cX8_round 1 .int 4 85 [.ref (X.1 27 0)] μ r μ' := by
  refine CMi_of hX (by decide +kernel) (lv := [(0, .ref (X.1 27 0))]) (Nat.le_of_ble_eq_true rfl) rfl (fun Γ hO hn hQ => ?_)
  have hO : Ok X RX8 cX8_round 4 85 Γ := hO
  unfold f_X8_round at h
  refine tr_aload_n hO 0 0 rfl dX8_round_0 ?_
  obtain ⟨v1, μ2, hcall, h⟩ := of_bd h
  refine tr_callI hO 1 (na := 0) (As := []) (st := []) (c_X8_canRound hX  hcall) rfl (x_v0 (by decide)) rfl rfl wM_X8_114 wI_X8_canRound wS_X8_canRound wN_X8 wC_X8_canRound (by decide +kernel) rfl (by decide) (by decide) (Nat.le_of_ble_eq_true rfl) dX8_round_1 ?_
  refine tr_if_ne hO 4 10 (by decide) dX8_round_4 (fun hc => ?_) (fun hc => ?_)
  · have h := of_f hc h
    refine tr_aload_n hO 10 0 rfl dX8_round_10 ?_
    obtain ⟨v3, μ4, hcall, h⟩ := of_bd h
    refine tr_callV hO 11 (na := 0) (As := []) (st := []) (c_X8_record hX  hcall) rfl (x_v0 (by decide)) rfl rfl wM_X8_66 wI_X8_record wS_X8_record wN_X8 wC_X8_record (by decide +kernel) rfl (by decide) (by decide) (Nat.le_of_ble_eq_true rfl) dX8_round_11 ?_
    refine tr_aload_n hO 14 0 rfl dX8_round_14 ?_
    obtain ⟨v5, μ6, hcall, h⟩ := of_bd h
    refine tr_callV hO 15 (na := 0) (As := []) (st := []) (c_X8_turnRound hX  hcall) rfl (x_v0 (by decide)) rfl rfl wM_X8_118 wI_X8_turnRound wS_X8_turnRound wN_X8 wC_X8_turnRound (by decide +kernel) rfl (by decide) (by decide) (Nat.le_of_ble_eq_true rfl) dX8_round_15 ?_
    refine tr_aload_n hO 18 0 rfl dX8_round_18 ?_
    refine tr_aload_n hO 19 0 rfl dX8_round_19 ?_
    refine tr_get hO 20 (k := 0) (x_v0 (by decide)) rfl rfl iX8 (by decide) wF_X8_7 rfl rfl dX8_round_20 ?_
    refine tr_iconst hO 23 (v := 4) (by decide) dX8_round_23 ?_
    refine tr_iald hO 24 (x_v0 (by decide)) a_28 (by decide) dX8_round_24 ?_
    refine tr_iconst hO 25 (v := 2) (by decide) dX8_round_25 ?_
    obtain ⟨v7, μ8, hcall, h⟩ := of_bd h
    refine tr_callV hO 26 (na := 2) (As := [.int (μ6 28 0 (4 : Int32).toNatClampNeg), .int 2]) (st := []) (c_X8_take hX  hcall) rfl (x_v0 (by decide)) rfl rfl wM_X8_104 wI_X8_take wS_X8_take wN_X8 wC_X8_take (by decide +kernel) rfl (by decide) (by decide) (Nat.le_of_ble_eq_true rfl) dX8_round_26 ?_
    refine tr_aload_n hO 29 0 rfl dX8_round_29 ?_
    refine tr_get hO 30 (k := 0) (x_v0 (by decide)) rfl rfl iX8 (by decide) wF_X8_7 rfl rfl dX8_round_30 ?_
    refine tr_bipush hO 33 (v := 6) (by decide) dX8_round_33 ?_
    refine tr_iald hO 35 (x_v0 (by decide)) a_28 (by decide) dX8_round_35 ?_
    cases h
    exact tr_iret hO 36 hQ rfl dX8_round_36
  · have h := of_t hc h
    refine tr_bipush hO 7 (v := (-5)) (by decide) dX8_round_7 ?_
    cases h
    exact tr_iret hO 9 hQ rfl dX8_round_9
set_option maxHeartbeats 4000000 in
set_option maxRecDepth 100000 in
theorem c_X8_pass {X : xT} (hX : xOK X) {a1 : Int32}  {μ μ' : mT} {r : Int32} (h : f_X8_pass a1 μ = some (r, μ')) : CMi X yX8_pass cX8_pass 2 .int 1 23 [.ref (X.1 27 0), .int a1] μ r μ' := by
  refine CMi_of hX (by decide +kernel) (lv := [(0, .ref (X.1 27 0)), (1, .int a1)]) (Nat.le_of_ble_eq_true rfl) rfl (fun Γ hO hn hQ => ?_)
  have hO : Ok X RX8 cX8_pass 1 23 Γ := hO
  unfold f_X8_pass at h
  refine tr_iload_n hO 0 1 rfl dX8_pass_0 ?_
  refine tr_iconst hO 1 (v := 1) (by decide) dX8_pass_1 ?_
  refine tr_sipush hO 2 (v := 999) (by decide) dX8_pass_2 ?_
  obtain ⟨v1, μ2, hcall, h⟩ := of_bd h
  refine tr_callS hO 5 (na := 3) (As := [.int a1, .int 1, .int 999]) (st := []) (c_X8_in hX  hcall) rfl wM_X8_55 wT_X8_in wN_X8 wC_X8_in (by decide +kernel) rfl (by decide) (by decide) (Nat.le_of_ble_eq_true rfl) dX8_pass_5 ?_
  refine tr_if_ne hO 8 14 (by decide) dX8_pass_8 (fun hc => ?_) (fun hc => ?_)
  · have h := of_f hc h
    refine tr_aload_n hO 14 0 rfl dX8_pass_14 ?_
    obtain ⟨v3, μ4, hcall, h⟩ := of_bd h
    refine tr_callV hO 15 (na := 0) (As := []) (st := []) (c_X8_record hX  hcall) rfl (x_v0 (by decide)) rfl rfl wM_X8_66 wI_X8_record wS_X8_record wN_X8 wC_X8_record (by decide +kernel) rfl (by decide) (by decide) (Nat.le_of_ble_eq_true rfl) dX8_pass_15 ?_
    refine tr_aload_n hO 18 0 rfl dX8_pass_18 ?_
    refine tr_aload_n hO 19 0 rfl dX8_pass_19 ?_
    refine tr_get hO 20 (k := 0) (x_v0 (by decide)) rfl rfl iX8 (by decide) wF_X8_7 rfl rfl dX8_pass_20 ?_
    refine tr_bipush hO 23 (v := 6) (by decide) dX8_pass_23 ?_
    refine tr_iald hO 25 (x_v0 (by decide)) a_28 (by decide) dX8_pass_25 ?_
    refine tr_iload_n hO 26 1 rfl dX8_pass_26 ?_
    refine tr_iadd hO 27 dX8_pass_27 ?_
    obtain ⟨v5, μ6, hcall, h⟩ := of_bd h
    refine tr_callV hO 28 (na := 1) (As := [.int ((μ4 28 0 (6 : Int32).toNatClampNeg) + a1)]) (st := []) (c_X8_comeTo hX  hcall) rfl (x_v0 (by decide)) rfl rfl wM_X8_89 wI_X8_comeTo wS_X8_comeTo wN_X8 wC_X8_comeTo (by decide +kernel) rfl (by decide) (by decide) (Nat.le_of_ble_eq_true rfl) dX8_pass_28 ?_
    refine tr_aload_n hO 31 0 rfl dX8_pass_31 ?_
    refine tr_get hO 32 (k := 0) (x_v0 (by decide)) rfl rfl iX8 (by decide) wF_X8_7 rfl rfl dX8_pass_32 ?_
    refine tr_bipush hO 35 (v := 6) (by decide) dX8_pass_35 ?_
    refine tr_iald hO 37 (x_v0 (by decide)) a_28 (by decide) dX8_pass_37 ?_
    cases h
    exact tr_iret hO 38 hQ rfl dX8_pass_38
  · have h := of_t hc h
    refine tr_bipush hO 11 (v := (-2)) (by decide) dX8_pass_11 ?_
    cases h
    exact tr_iret hO 13 hQ rfl dX8_pass_13
set_option maxHeartbeats 4000000 in
set_option maxRecDepth 100000 in
theorem c_X8_isTrain {X : xT} (hX : xOK X) {a1 : Int32}  {μ μ' : mT} {r : Int32} (h : f_X8_isTrain a1 μ = some (r, μ')) : CMi X yX8_isTrain cX8_isTrain 2 .boolean 1 22 [.ref (X.1 27 0), .int a1] μ r μ' := by
  refine CMi_of hX (by decide +kernel) (lv := [(0, .ref (X.1 27 0)), (1, .int a1)]) (Nat.le_of_ble_eq_true rfl) rfl (fun Γ hO hn hQ => ?_)
  have hO : Ok X RX8 cX8_isTrain 1 22 Γ := hO
  unfold f_X8_isTrain at h
  refine tr_iload_n hO 0 1 rfl dX8_isTrain_0 ?_
  refine tr_iconst hO 1 (v := 0) (by decide) dX8_isTrain_1 ?_
  refine tr_aload_n hO 2 0 rfl dX8_isTrain_2 ?_
  refine tr_get hO 3 (k := 0) (x_v0 (by decide)) rfl rfl iX8 (by decide) wF_X8_7 rfl rfl dX8_isTrain_3 ?_
  refine tr_bipush hO 6 (v := 11) (by decide) dX8_isTrain_6 ?_
  refine tr_iald hO 8 (x_v0 (by decide)) a_28 (by decide) dX8_isTrain_8 ?_
  refine tr_iconst hO 9 (v := 1) (by decide) dX8_isTrain_9 ?_
  refine tr_isub hO 10 dX8_isTrain_10 ?_
  obtain ⟨v1, μ2, hcall, h⟩ := of_bd h
  refine tr_callS hO 11 (na := 3) (As := [.int a1, .int 0, .int ((μ 28 0 (11 : Int32).toNatClampNeg) - 1)]) (st := []) (c_X8_in hX  hcall) rfl wM_X8_55 wT_X8_in wN_X8 wC_X8_in (by decide +kernel) rfl (by decide) (by decide) (Nat.le_of_ble_eq_true rfl) dX8_isTrain_11 ?_
  obtain ⟨hg, h⟩ := of_gd h
  cases h
  exact tr_iret hO 14 hQ (isB_n hg) dX8_isTrain_14
set_option maxHeartbeats 4000000 in
set_option maxRecDepth 100000 in
theorem c_X8_trainOf {X : xT} (hX : xOK X) {a1 : Int32}  {μ μ' : mT} {r : Int32} (h : f_X8_trainOf a1 μ = some (r, μ')) : CMi X yX8_trainOf cX8_trainOf 4 .int 0 0 [.ref (X.1 27 0), .int a1] μ r μ' := by
  refine CMi_of hX (by decide +kernel) (lv := [(0, .ref (X.1 27 0)), (1, .int a1)]) (Nat.le_of_ble_eq_true rfl) rfl (fun Γ hO hn hQ => ?_)
  have hO : Ok X RX8 cX8_trainOf 0 0 Γ := hO
  unfold f_X8_trainOf at h
  refine tr_iconst hO 0 (v := 0) (by decide) dX8_trainOf_0 ?_
  refine tr_istore_n hO 1 (v := 0) rfl (lv' := [(2, .int 0), (0, .ref (X.1 27 0)), (1, .int a1)]) hn rfl (by decide) rfl dX8_trainOf_1 ?_
  have L2_T : ∀ (n : Nat) (v1 : Int32) (μ2 : mT), f_X8_trainOf_L2 a1 n v1 μ2 = some (r, μ') → tj X Γ μ2 2 [(0, .ref (X.1 27 0)), (1, .int a1), (2, .int v1)] [] := by
    intro n
    induction n with
    | zero =>
      intro v1 μ2 h
      rw [f_X8_trainOf_L2] at h
      cases h
    | succ n ih =>
      intro v1 μ2 h
      rw [f_X8_trainOf_L2] at h
      refine tr_iload_n hO 2 2 rfl dX8_trainOf_2 ?_
      refine tr_aload_n hO 3 0 rfl dX8_trainOf_3 ?_
      refine tr_get hO 4 (k := 0) (x_v0 (by decide)) rfl rfl iX8 (by decide) wF_X8_7 rfl rfl dX8_trainOf_4 ?_
      refine tr_bipush hO 7 (v := 11) (by decide) dX8_trainOf_7 ?_
      refine tr_iald hO 9 (x_v0 (by decide)) a_28 (by decide) dX8_trainOf_9 ?_
      refine tr_icmp_ge hO 10 69 (by decide) dX8_trainOf_10 (fun hc => ?_) (fun hc => ?_)
      · have h := of_t hc h
        refine tr_bipush hO 69 (v := (-6)) (by decide) dX8_trainOf_69 ?_
        cases h
        exact tr_iret hO 71 hQ rfl dX8_trainOf_71
      · have h := of_f hc h
        refine tr_iconst hO 13 (v := 0) (by decide) dX8_trainOf_13 ?_
        refine tr_istore_n hO 14 (v := 0) rfl (lv' := [(3, .int 0), (0, .ref (X.1 27 0)), (1, .int a1), (2, .int v1)]) hn rfl (by decide) rfl dX8_trainOf_14 ?_
        obtain ⟨K5, e_K5, h⟩ := of_lt h
        have K5_T : ∀ (μ6 : mT), K5 μ6 = some (r, μ') → tj X Γ μ6 63 [(0, .ref (X.1 27 0)), (1, .int a1), (2, .int v1)] [] := by
          intro μ6 h
          rw [e_K5] at h
          obtain ⟨v7, e_v7, h⟩ := of_lt h
          refine tr_iinc hO 63 (q := 2) (v := v7) (lv' := [(2, .int v7), (0, .ref (X.1 27 0)), (1, .int a1)]) hn rfl (by rw [e_v7]; rfl) (by decide) rfl dX8_trainOf_63 ?_
          refine tr_goto hO 66 2 (by decide) dX8_trainOf_66 ?_
          refine tr_sub [1, 2, 0] rfl ?_
          exact ih _ _ h
        have L15_T : ∀ (n : Nat) (v3 : Int32) (μ4 : mT), f_X8_trainOf_L15 a1 v1 K5 n v3 μ4 = some (r, μ') → tj X Γ μ4 15 [(0, .ref (X.1 27 0)), (1, .int a1), (2, .int v1), (3, .int v3)] [] := by
          intro n
          induction n with
          | zero =>
            intro v3 μ4 h
            rw [f_X8_trainOf_L15] at h
            cases h
          | succ n ih =>
            intro v3 μ4 h
            rw [f_X8_trainOf_L15] at h
            refine tr_iload_n hO 15 3 rfl dX8_trainOf_15 ?_
            refine tr_aload_n hO 16 0 rfl dX8_trainOf_16 ?_
            refine tr_get hO 17 (k := 0) (x_v0 (by decide)) rfl rfl iX8 (by decide) wF_X8_7 rfl rfl dX8_trainOf_17 ?_
            refine tr_sipush hO 20 (v := 450) (by decide) dX8_trainOf_20 ?_
            refine tr_bipush hO 23 (v := 10) (by decide) dX8_trainOf_23 ?_
            refine tr_iload_n hO 25 2 rfl dX8_trainOf_25 ?_
            refine tr_imul hO 26 dX8_trainOf_26 ?_
            refine tr_iadd hO 27 dX8_trainOf_27 ?_
            refine tr_iconst hO 28 (v := 1) (by decide) dX8_trainOf_28 ?_
            refine tr_iadd hO 29 dX8_trainOf_29 ?_
            obtain ⟨hg, h⟩ := of_gd h
            refine tr_iald hO 30 (x_v0 (by decide)) a_28 hg dX8_trainOf_30 ?_
            refine tr_icmp_ge hO 31 63 (by decide) dX8_trainOf_31 (fun hc => ?_) (fun hc => ?_)
            · have h := of_t hc h
              refine tr_sub [0, 1, 2] rfl ?_
              exact K5_T _ h
            · have h := of_f hc h
              refine tr_aload_n hO 34 0 rfl dX8_trainOf_34 ?_
              refine tr_get hO 35 (k := 0) (x_v0 (by decide)) rfl rfl iX8 (by decide) wF_X8_7 rfl rfl dX8_trainOf_35 ?_
              refine tr_sipush hO 38 (v := 450) (by decide) dX8_trainOf_38 ?_
              refine tr_bipush hO 41 (v := 10) (by decide) dX8_trainOf_41 ?_
              refine tr_iload_n hO 43 2 rfl dX8_trainOf_43 ?_
              refine tr_imul hO 44 dX8_trainOf_44 ?_
              refine tr_iadd hO 45 dX8_trainOf_45 ?_
              refine tr_iconst hO 46 (v := 2) (by decide) dX8_trainOf_46 ?_
              refine tr_iadd hO 47 dX8_trainOf_47 ?_
              refine tr_iload_n hO 48 3 rfl dX8_trainOf_48 ?_
              refine tr_iadd hO 49 dX8_trainOf_49 ?_
              obtain ⟨hg, h⟩ := of_gd h
              refine tr_iald hO 50 (x_v0 (by decide)) a_28 hg dX8_trainOf_50 ?_
              refine tr_iload_n hO 51 1 rfl dX8_trainOf_51 ?_
              refine tr_icmp_ne hO 52 57 (by decide) dX8_trainOf_52 (fun hc => ?_) (fun hc => ?_)
              · have h := of_f hc h
                obtain ⟨v8, e_v8, h⟩ := of_lt h
                refine tr_iinc hO 57 (q := 3) (v := v8) (lv' := [(3, .int v8), (0, .ref (X.1 27 0)), (1, .int a1), (2, .int v1)]) hn rfl (by rw [e_v8]; rfl) (by decide) rfl dX8_trainOf_57 ?_
                refine tr_goto hO 60 15 (by decide) dX8_trainOf_60 ?_
                refine tr_sub [1, 2, 3, 0] rfl ?_
                exact ih _ _ h
              · have h := of_t hc h
                refine tr_iload_n hO 55 2 rfl dX8_trainOf_55 ?_
                cases h
                exact tr_iret hO 56 hQ rfl dX8_trainOf_56
        refine tr_sub [1, 2, 3, 0] rfl ?_
        exact L15_T _ _ _ h
  refine tr_sub [1, 2, 0] rfl ?_
  exact L2_T _ _ _ h
set_option maxHeartbeats 4000000 in
set_option maxRecDepth 100000 in
theorem c_X8_readList {X : xT} (hX : xOK X) {a1 : Int64}  {μ μ' : mT} {r : Int32} (h : f_X8_readList a1 μ = some (r, μ')) : CMi X yX8_readList cX8_readList 8 .int 2 43 [.ref (X.1 27 0), .long a1] μ r μ' := by
  refine CMi_of hX (by decide +kernel) (lv := [(0, .ref (X.1 27 0)), (1, .long a1)]) (Nat.le_of_ble_eq_true rfl) rfl (fun Γ hO hn hQ => ?_)
  have hO : Ok X RX8 cX8_readList 2 43 Γ := hO
  unfold f_X8_readList at h
  refine tr_lload_n hO 0 1 rfl dX8_readList_0 ?_
  refine tr_lstore_n hO 1 (v := a1) rfl (lv' := [(3, .long a1), (0, .ref (X.1 27 0)), (1, .long a1)]) hn rfl (by decide) rfl dX8_readList_1 ?_
  refine tr_iconst hO 2 (v := 0) (by decide) dX8_readList_2 ?_
  refine tr_istore hO 3 (v := 0) rfl (lv' := [(5, .int 0), (3, .long a1), (0, .ref (X.1 27 0)), (1, .long a1)]) hn (by decide) rfl dX8_readList_3 ?_
  refine tr_iconst hO 5 (v := 0) (by decide) dX8_readList_5 ?_
  refine tr_istore hO 6 (v := 0) rfl (lv' := [(6, .int 0), (5, .int 0), (3, .long a1), (0, .ref (X.1 27 0)), (1, .long a1)]) hn (by decide) rfl dX8_readList_6 ?_
  have L8_T : ∀ (n : Nat) (v1 : Int64) (v2 : Int32) (v3 : Int32) (μ4 : mT), f_X8_readList_L8 n v1 v2 v3 μ4 = some (r, μ') → tj X Γ μ4 8 [(0, .ref (X.1 27 0)), (3, .long v1), (5, .int v2), (6, .int v3)] [] := by
    intro n
    induction n with
    | zero =>
      intro v1 v2 v3 μ4 h
      rw [f_X8_readList_L8] at h
      cases h
    | succ n ih =>
      intro v1 v2 v3 μ4 h
      rw [f_X8_readList_L8] at h
      refine tr_lload_n hO 8 1 rfl dX8_readList_8 ?_
      refine tr_lconst hO 9 (v := 0) (by decide) dX8_readList_9 ?_
      refine tr_lcmp hO 10 dX8_readList_10 ?_
      refine tr_if_le hO 11 101 (by decide) dX8_readList_11 (fun hc => ?_) (fun hc => ?_)
      · have h := of_t hc h
        refine tr_iload hO 101 2 rfl dX8_readList_101 ?_
        cases h
        exact tr_iret hO 103 hQ rfl dX8_readList_103
      · have h := of_f hc h
        refine tr_lload_n hO 14 1 rfl dX8_readList_14 ?_
        refine tr_ldc2 hO 15 (v := 31) wK_X8_121 dX8_readList_15 ?_
        refine tr_lrem hO 18 (by decide) dX8_readList_18 ?_
        refine tr_l2i hO 19 dX8_readList_19 ?_
        refine tr_iconst hO 20 (v := 1) (by decide) dX8_readList_20 ?_
        refine tr_isub hO 21 dX8_readList_21 ?_
        obtain ⟨v5, e_v5, h⟩ := of_lt h
        refine tr_istore hO 22 (v := v5) e_v5 (lv' := [(7, .int v5), (0, .ref (X.1 27 0)), (3, .long v1), (5, .int v2), (6, .int v3)]) hn (by decide) rfl dX8_readList_22 ?_
        refine tr_iload hO 24 3 rfl dX8_readList_24 ?_
        refine tr_bipush hO 26 (v := 8) (by decide) dX8_readList_26 ?_
        refine tr_icmp_eq hO 28 69 (by decide) dX8_readList_28 (fun hc => ?_) (fun hc => ?_)
        · have h := of_t hc h
          refine tr_iconst hO 69 (v := 0) (by decide) dX8_readList_69 ?_
          cases h
          exact tr_iret hO 70 hQ rfl dX8_readList_70
        · have h := of_f hc h
          refine tr_aload_n hO 31 1 rfl dX8_readList_31 ?_
          refine tr_iload hO 32 0 rfl dX8_readList_32 ?_
          obtain ⟨v6, μ7, hcall, h⟩ := of_bd h
          refine tr_callI hO 34 (na := 1) (As := [.int v5]) (st := []) (c_X8_isWagon hX  hcall) rfl (x_v0 (by decide)) rfl rfl wM_X8_123 wI_X8_isWagon wS_X8_isWagon wN_X8 wC_X8_isWagon (by decide +kernel) rfl (by decide) (by decide) (Nat.le_of_ble_eq_true rfl) dX8_readList_34 ?_
          refine tr_if_eq hO 37 69 (by decide) dX8_readList_37 (fun hc => ?_) (fun hc => ?_)
          · have h := of_t hc h
            refine tr_iconst hO 69 (v := 0) (by decide) dX8_readList_69 ?_
            cases h
            exact tr_iret hO 70 hQ rfl dX8_readList_70
          · have h := of_f hc h
            refine tr_aload_n hO 40 1 rfl dX8_readList_40 ?_
            refine tr_get hO 41 (k := 0) (x_v0 (by decide)) rfl rfl iX8 (by decide) wF_X8_7 rfl rfl dX8_readList_41 ?_
            refine tr_sipush hO 44 (v := 330) (by decide) dX8_readList_44 ?_
            refine tr_iconst hO 47 (v := 4) (by decide) dX8_readList_47 ?_
            refine tr_iload hO 48 0 rfl dX8_readList_48 ?_
            refine tr_imul hO 50 dX8_readList_50 ?_
            refine tr_iadd hO 51 dX8_readList_51 ?_
            refine tr_iconst hO 52 (v := 1) (by decide) dX8_readList_52 ?_
            refine tr_iadd hO 53 dX8_readList_53 ?_
            obtain ⟨hg, h⟩ := of_gd h
            refine tr_iald hO 54 (x_v0 (by decide)) a_28 hg dX8_readList_54 ?_
            refine tr_if_ge hO 55 69 (by decide) dX8_readList_55 (fun hc => ?_) (fun hc => ?_)
            · have h := of_t hc h
              refine tr_iconst hO 69 (v := 0) (by decide) dX8_readList_69 ?_
              cases h
              exact tr_iret hO 70 hQ rfl dX8_readList_70
            · have h := of_f hc h
              refine tr_iload hO 58 4 rfl dX8_readList_58 ?_
              refine tr_iload hO 60 0 rfl dX8_readList_60 ?_
              refine tr_ishr hO 62 dX8_readList_62 ?_
              refine tr_iconst hO 63 (v := 1) (by decide) dX8_readList_63 ?_
              refine tr_iand hO 64 dX8_readList_64 ?_
              refine tr_iconst hO 65 (v := 1) (by decide) dX8_readList_65 ?_
              refine tr_icmp_ne hO 66 71 (by decide) dX8_readList_66 (fun hc => ?_) (fun hc => ?_)
              · have h := of_f hc h
                refine tr_aload_n hO 71 1 rfl dX8_readList_71 ?_
                refine tr_get hO 72 (k := 10) (x_v0 (by decide)) rfl rfl iX8 (by decide) wF_X8_32 rfl rfl dX8_readList_72 ?_
                refine tr_iload hO 75 3 rfl dX8_readList_75 ?_
                refine tr_iload hO 77 0 rfl dX8_readList_77 ?_
                obtain ⟨hg, h⟩ := of_gd h
                obtain ⟨μ8, e_μ8, h⟩ := of_lt h
                refine tr_iast hO 79 e_μ8 (x_v0 (by decide)) a_35 hg dX8_readList_79 ?_
                refine tr_iload hO 80 4 rfl dX8_readList_80 ?_
                refine tr_iconst hO 82 (v := 1) (by decide) dX8_readList_82 ?_
                refine tr_iload hO 83 0 rfl dX8_readList_83 ?_
                refine tr_ishl hO 85 dX8_readList_85 ?_
                refine tr_ior hO 86 dX8_readList_86 ?_
                obtain ⟨v9, e_v9, h⟩ := of_lt h
                refine tr_istore hO 87 (v := v9) e_v9 (lv' := [(6, .int v9), (7, .int v5), (0, .ref (X.1 27 0)), (3, .long v1), (5, .int v2)]) hn (by decide) rfl dX8_readList_87 ?_
                obtain ⟨v10, e_v10, h⟩ := of_lt h
                refine tr_iinc hO 89 (q := 4) (v := v10) (lv' := [(5, .int v10), (6, .int v9), (7, .int v5), (0, .ref (X.1 27 0)), (3, .long v1)]) hn rfl (by rw [e_v10]; rfl) (by decide) rfl dX8_readList_89 ?_
                refine tr_lload_n hO 92 4 rfl dX8_readList_92 ?_
                refine tr_ldc2 hO 93 (v := 31) wK_X8_121 dX8_readList_93 ?_
                refine tr_ldiv hO 96 (by decide) dX8_readList_96 ?_
                obtain ⟨v11, e_v11, h⟩ := of_lt h
                refine tr_lstore_n hO 97 (v := v11) e_v11 (lv' := [(3, .long v11), (5, .int v10), (6, .int v9), (7, .int v5), (0, .ref (X.1 27 0))]) hn rfl (by decide) rfl dX8_readList_97 ?_
                refine tr_goto hO 98 8 (by decide) dX8_readList_98 ?_
                refine tr_sub [4, 0, 1, 2] rfl ?_
                exact ih _ _ _ _ h
              · have h := of_t hc h
                refine tr_iconst hO 69 (v := 0) (by decide) dX8_readList_69 ?_
                cases h
                exact tr_iret hO 70 hQ rfl dX8_readList_70
  refine tr_sub [3, 2, 1, 0] rfl ?_
  exact L8_T _ _ _ _ _ h
set_option maxHeartbeats 4000000 in
set_option maxRecDepth 100000 in
theorem c_X8_train {X : xT} (hX : xOK X) {a1 : Int64} {a3 : Int32}  {μ μ' : mT} {r : Int32} (h : f_X8_train a1 a3 μ = some (r, μ')) : CMi X yX8_train cX8_train 7 .int 3 70 [.ref (X.1 27 0), .long a1, .int a3] μ r μ' := by
  refine CMi_of hX (by decide +kernel) (lv := [(0, .ref (X.1 27 0)), (1, .long a1), (3, .int a3)]) (Nat.le_of_ble_eq_true rfl) rfl (fun Γ hO hn hQ => ?_)
  have hO : Ok X RX8 cX8_train 3 70 Γ := hO
  unfold f_X8_train at h
  refine tr_aload_n hO 0 0 rfl dX8_train_0 ?_
  refine tr_lload_n hO 1 1 rfl dX8_train_1 ?_
  obtain ⟨v1, μ2, hcall, h⟩ := of_bd h
  refine tr_callI hO 2 (na := 1) (As := [.long a1]) (st := []) (c_X8_readList hX  hcall) rfl (x_v0 (by decide)) rfl rfl wM_X8_126 wI_X8_readList wS_X8_readList wN_X8 wC_X8_readList (by decide +kernel) rfl (by decide) (by decide) (Nat.le_of_ble_eq_true rfl) dX8_train_2 ?_
  refine tr_istore hO 5 (v := v1) rfl (lv' := [(4, .int v1), (0, .ref (X.1 27 0)), (1, .long a1), (3, .int a3)]) hn (by decide) rfl dX8_train_5 ?_
  refine tr_iload hO 7 0 rfl dX8_train_7 ?_
  refine tr_iconst hO 9 (v := 1) (by decide) dX8_train_9 ?_
  refine tr_icmp_lt hO 10 38 (by decide) dX8_train_10 (fun hc => ?_) (fun hc => ?_)
  · have h := of_t hc h
    refine tr_bipush hO 38 (v := (-2)) (by decide) dX8_train_38 ?_
    cases h
    exact tr_iret hO 40 hQ rfl dX8_train_40
  · have h := of_f hc h
    refine tr_iload_n hO 13 3 rfl dX8_train_13 ?_
    refine tr_aload_n hO 14 1 rfl dX8_train_14 ?_
    refine tr_get hO 15 (k := 0) (x_v0 (by decide)) rfl rfl iX8 (by decide) wF_X8_7 rfl rfl dX8_train_15 ?_
    refine tr_bipush hO 18 (v := 6) (by decide) dX8_train_18 ?_
    refine tr_iald hO 20 (x_v0 (by decide)) a_28 (by decide) dX8_train_20 ?_
    refine tr_aload_n hO 21 1 rfl dX8_train_21 ?_
    refine tr_get hO 22 (k := 0) (x_v0 (by decide)) rfl rfl iX8 (by decide) wF_X8_7 rfl rfl dX8_train_22 ?_
    refine tr_bipush hO 25 (v := 6) (by decide) dX8_train_25 ?_
    refine tr_iald hO 27 (x_v0 (by decide)) a_28 (by decide) dX8_train_27 ?_
    refine tr_sipush hO 28 (v := 5000) (by decide) dX8_train_28 ?_
    refine tr_iadd hO 31 dX8_train_31 ?_
    obtain ⟨v3, μ4, hcall, h⟩ := of_bd h
    refine tr_callS hO 32 (na := 3) (As := [.int a3, .int (μ2 28 0 (6 : Int32).toNatClampNeg), .int ((μ2 28 0 (6 : Int32).toNatClampNeg) + 5000)]) (st := []) (c_X8_in hX  hcall) rfl wM_X8_55 wT_X8_in wN_X8 wC_X8_in (by decide +kernel) rfl (by decide) (by decide) (Nat.le_of_ble_eq_true rfl) dX8_train_32 ?_
    refine tr_if_ne hO 35 41 (by decide) dX8_train_35 (fun hc => ?_) (fun hc => ?_)
    · have h := of_f hc h
      refine tr_aload_n hO 41 1 rfl dX8_train_41 ?_
      refine tr_get hO 42 (k := 0) (x_v0 (by decide)) rfl rfl iX8 (by decide) wF_X8_7 rfl rfl dX8_train_42 ?_
      refine tr_bipush hO 45 (v := 11) (by decide) dX8_train_45 ?_
      refine tr_iald hO 47 (x_v0 (by decide)) a_28 (by decide) dX8_train_47 ?_
      refine tr_bipush hO 48 (v := 8) (by decide) dX8_train_48 ?_
      refine tr_icmp_ne hO 50 56 (by decide) dX8_train_50 (fun hc => ?_) (fun hc => ?_)
      · have h := of_f hc h
        refine tr_iconst hO 56 (v := 0) (by decide) dX8_train_56 ?_
        refine tr_istore hO 57 (v := 0) rfl (lv' := [(5, .int 0), (4, .int v1), (0, .ref (X.1 27 0)), (1, .long a1), (3, .int a3)]) hn (by decide) rfl dX8_train_57 ?_
        obtain ⟨K7, e_K7, h⟩ := of_lt h
        have K7_T : ∀ (μ8 : mT), K7 μ8 = some (r, μ') → tj X Γ μ8 89 [(0, .ref (X.1 27 0)), (3, .int a3), (4, .int v1)] [] := by
          intro μ8 h
          rw [e_K7] at h
          refine tr_aload_n hO 89 0 rfl dX8_train_89 ?_
          obtain ⟨v9, μ10, hcall, h⟩ := of_bd h
          refine tr_callV hO 90 (na := 0) (As := []) (st := []) (c_X8_record hX  hcall) rfl (x_v0 (by decide)) rfl rfl wM_X8_66 wI_X8_record wS_X8_record wN_X8 wC_X8_record (by decide +kernel) rfl (by decide) (by decide) (Nat.le_of_ble_eq_true rfl) dX8_train_90 ?_
          refine tr_sipush hO 93 (v := 450) (by decide) dX8_train_93 ?_
          refine tr_bipush hO 96 (v := 10) (by decide) dX8_train_96 ?_
          refine tr_aload_n hO 98 0 rfl dX8_train_98 ?_
          refine tr_get hO 99 (k := 0) (x_v0 (by decide)) rfl rfl iX8 (by decide) wF_X8_7 rfl rfl dX8_train_99 ?_
          refine tr_bipush hO 102 (v := 11) (by decide) dX8_train_102 ?_
          refine tr_iald hO 104 (x_v0 (by decide)) a_28 (by decide) dX8_train_104 ?_
          refine tr_imul hO 105 dX8_train_105 ?_
          refine tr_iadd hO 106 dX8_train_106 ?_
          obtain ⟨v11, e_v11, h⟩ := of_lt h
          refine tr_istore hO 107 (v := v11) e_v11 (lv' := [(5, .int v11), (0, .ref (X.1 27 0)), (3, .int a3), (4, .int v1)]) hn (by decide) rfl dX8_train_107 ?_
          refine tr_aload_n hO 109 1 rfl dX8_train_109 ?_
          refine tr_get hO 110 (k := 0) (x_v0 (by decide)) rfl rfl iX8 (by decide) wF_X8_7 rfl rfl dX8_train_110 ?_
          refine tr_iload hO 113 0 rfl dX8_train_113 ?_
          refine tr_iload_n hO 115 2 rfl dX8_train_115 ?_
          obtain ⟨hg, h⟩ := of_gd h
          obtain ⟨μ12, e_μ12, h⟩ := of_lt h
          refine tr_iast hO 116 e_μ12 (x_v0 (by decide)) a_28 hg dX8_train_116 ?_
          refine tr_aload_n hO 117 1 rfl dX8_train_117 ?_
          refine tr_get hO 118 (k := 0) (x_v0 (by decide)) rfl rfl iX8 (by decide) wF_X8_7 rfl rfl dX8_train_118 ?_
          refine tr_iload hO 121 0 rfl dX8_train_121 ?_
          refine tr_iconst hO 123 (v := 1) (by decide) dX8_train_123 ?_
          refine tr_iadd hO 124 dX8_train_124 ?_
          refine tr_iload hO 125 3 rfl dX8_train_125 ?_
          obtain ⟨hg, h⟩ := of_gd h
          obtain ⟨μ13, e_μ13, h⟩ := of_lt h
          refine tr_iast hO 127 e_μ13 (x_v0 (by decide)) a_28 hg dX8_train_127 ?_
          refine tr_iconst hO 128 (v := 0) (by decide) dX8_train_128 ?_
          refine tr_istore hO 129 (v := 0) rfl (lv' := [(6, .int 0), (5, .int v11), (0, .ref (X.1 27 0)), (3, .int a3), (4, .int v1)]) hn (by decide) rfl dX8_train_129 ?_
          obtain ⟨K16, e_K16, h⟩ := of_lt h
          have K16_T : ∀ (μ17 : mT), K16 μ17 = some (r, μ') → tj X Γ μ17 163 [(0, .ref (X.1 27 0))] [] := by
            intro μ17 h
            rw [e_K16] at h
            refine tr_aload_n hO 163 0 rfl dX8_train_163 ?_
            refine tr_get hO 164 (k := 0) (x_v0 (by decide)) rfl rfl iX8 (by decide) wF_X8_7 rfl rfl dX8_train_164 ?_
            refine tr_bipush hO 167 (v := 11) (by decide) dX8_train_167 ?_
            refine tr_dup2 hO 169 rfl rfl dX8_train_169 ?_
            refine tr_iald hO 170 (x_v0 (by decide)) a_28 (by decide) dX8_train_170 ?_
            refine tr_iconst hO 171 (v := 1) (by decide) dX8_train_171 ?_
            refine tr_iadd hO 172 dX8_train_172 ?_
            obtain ⟨μ18, e_μ18, h⟩ := of_lt h
            refine tr_iast hO 173 e_μ18 (x_v0 (by decide)) a_28 (by decide) dX8_train_173 ?_
            refine tr_aload_n hO 174 0 rfl dX8_train_174 ?_
            refine tr_get hO 175 (k := 0) (x_v0 (by decide)) rfl rfl iX8 (by decide) wF_X8_7 rfl rfl dX8_train_175 ?_
            refine tr_bipush hO 178 (v := 11) (by decide) dX8_train_178 ?_
            refine tr_iald hO 180 (x_v0 (by decide)) a_28 (by decide) dX8_train_180 ?_
            refine tr_iconst hO 181 (v := 1) (by decide) dX8_train_181 ?_
            refine tr_isub hO 182 dX8_train_182 ?_
            cases h
            exact tr_iret hO 183 hQ rfl dX8_train_183
          have L131_T : ∀ (n : Nat) (v14 : Int32) (μ15 : mT), f_X8_train_L131 v1 v11 K16 n v14 μ15 = some (r, μ') → tj X Γ μ15 131 [(0, .ref (X.1 27 0)), (4, .int v1), (5, .int v11), (6, .int v14)] [] := by
            intro n
            induction n with
            | zero =>
              intro v14 μ15 h
              rw [f_X8_train_L131] at h
              cases h
            | succ n ih =>
              intro v14 μ15 h
              rw [f_X8_train_L131] at h
              refine tr_iload hO 131 3 rfl dX8_train_131 ?_
              refine tr_iload hO 133 1 rfl dX8_train_133 ?_
              refine tr_icmp_ge hO 135 163 (by decide) dX8_train_135 (fun hc => ?_) (fun hc => ?_)
              · have h := of_t hc h
                refine tr_sub [0] rfl ?_
                exact K16_T _ h
              · have h := of_f hc h
                refine tr_aload_n hO 138 0 rfl dX8_train_138 ?_
                refine tr_get hO 139 (k := 0) (x_v0 (by decide)) rfl rfl iX8 (by decide) wF_X8_7 rfl rfl dX8_train_139 ?_
                refine tr_iload hO 142 2 rfl dX8_train_142 ?_
                refine tr_iconst hO 144 (v := 2) (by decide) dX8_train_144 ?_
                refine tr_iadd hO 145 dX8_train_145 ?_
                refine tr_iload hO 146 3 rfl dX8_train_146 ?_
                refine tr_iadd hO 148 dX8_train_148 ?_
                refine tr_aload_n hO 149 0 rfl dX8_train_149 ?_
                refine tr_get hO 150 (k := 10) (x_v0 (by decide)) rfl rfl iX8 (by decide) wF_X8_32 rfl rfl dX8_train_150 ?_
                refine tr_iload hO 153 3 rfl dX8_train_153 ?_
                obtain ⟨hg, h⟩ := of_gd h
                refine tr_iald hO 155 (x_v0 (by decide)) a_35 hg dX8_train_155 ?_
                obtain ⟨hg, h⟩ := of_gd h
                obtain ⟨μ19, e_μ19, h⟩ := of_lt h
                refine tr_iast hO 156 e_μ19 (x_v0 (by decide)) a_28 hg dX8_train_156 ?_
                obtain ⟨v20, e_v20, h⟩ := of_lt h
                refine tr_iinc hO 157 (q := 3) (v := v20) (lv' := [(6, .int v20), (0, .ref (X.1 27 0)), (4, .int v1), (5, .int v11)]) hn rfl (by rw [e_v20]; rfl) (by decide) rfl dX8_train_157 ?_
                refine tr_goto hO 160 131 (by decide) dX8_train_160 ?_
                refine tr_sub [1, 2, 3, 0] rfl ?_
                exact ih _ _ h
          refine tr_sub [2, 4, 1, 0] rfl ?_
          exact L131_T _ _ _ h
        have L59_T : ∀ (n : Nat) (v5 : Int32) (μ6 : mT), f_X8_train_L59 a3 v1 K7 n v5 μ6 = some (r, μ') → tj X Γ μ6 59 [(0, .ref (X.1 27 0)), (3, .int a3), (4, .int v1), (5, .int v5)] [] := by
          intro n
          induction n with
          | zero =>
            intro v5 μ6 h
            rw [f_X8_train_L59] at h
            cases h
          | succ n ih =>
            intro v5 μ6 h
            rw [f_X8_train_L59] at h
            refine tr_iload hO 59 3 rfl dX8_train_59 ?_
            refine tr_iload hO 61 2 rfl dX8_train_61 ?_
            refine tr_icmp_ge hO 63 89 (by decide) dX8_train_63 (fun hc => ?_) (fun hc => ?_)
            · have h := of_t hc h
              refine tr_sub [0, 1, 2] rfl ?_
              exact K7_T _ h
            · have h := of_f hc h
              refine tr_aload_n hO 66 0 rfl dX8_train_66 ?_
              refine tr_aload_n hO 67 0 rfl dX8_train_67 ?_
              refine tr_get hO 68 (k := 10) (x_v0 (by decide)) rfl rfl iX8 (by decide) wF_X8_32 rfl rfl dX8_train_68 ?_
              refine tr_iload hO 71 3 rfl dX8_train_71 ?_
              obtain ⟨hg, h⟩ := of_gd h
              refine tr_iald hO 73 (x_v0 (by decide)) a_35 hg dX8_train_73 ?_
              obtain ⟨v21, μ22, hcall, h⟩ := of_bd h
              refine tr_callI hO 74 (na := 1) (As := [.int (μ6 35 0 v5.toNatClampNeg)]) (st := []) (c_X8_trainOf hX  hcall) rfl (x_v0 (by decide)) rfl rfl wM_X8_130 wI_X8_trainOf wS_X8_trainOf wN_X8 wC_X8_trainOf (by decide +kernel) rfl (by decide) (by decide) (Nat.le_of_ble_eq_true rfl) dX8_train_74 ?_
              refine tr_if_lt hO 77 83 (by decide) dX8_train_77 (fun hc => ?_) (fun hc => ?_)
              · have h := of_t hc h
                obtain ⟨v23, e_v23, h⟩ := of_lt h
                refine tr_iinc hO 83 (q := 3) (v := v23) (lv' := [(5, .int v23), (0, .ref (X.1 27 0)), (3, .int a3), (4, .int v1)]) hn rfl (by rw [e_v23]; rfl) (by decide) rfl dX8_train_83 ?_
                refine tr_goto hO 86 59 (by decide) dX8_train_86 ?_
                refine tr_sub [1, 2, 3, 0] rfl ?_
                exact ih _ _ h
              · have h := of_f hc h
                refine tr_bipush hO 80 (v := (-5)) (by decide) dX8_train_80 ?_
                cases h
                exact tr_iret hO 82 hQ rfl dX8_train_82
        refine tr_sub [2, 4, 1, 0] rfl ?_
        exact L59_T _ _ _ h
      · have h := of_t hc h
        refine tr_bipush hO 53 (v := (-4)) (by decide) dX8_train_53 ?_
        cases h
        exact tr_iret hO 55 hQ rfl dX8_train_55
    · have h := of_t hc h
      refine tr_bipush hO 38 (v := (-2)) (by decide) dX8_train_38 ?_
      cases h
      exact tr_iret hO 40 hQ rfl dX8_train_40
set_option maxHeartbeats 4000000 in
set_option maxRecDepth 100000 in
theorem c_X8_dropTrain {X : xT} (hX : xOK X) {a1 : Int32}  {μ μ' : mT} {r : Int32} (h : f_X8_dropTrain a1 μ = some (r, μ')) : CMv X yX8_dropTrain cX8_dropTrain 3 0 0 [.ref (X.1 27 0), .int a1] μ μ' := by
  refine CMv_of hX (by decide +kernel) (lv := [(0, .ref (X.1 27 0)), (1, .int a1)]) (Nat.le_of_ble_eq_true rfl) rfl (fun Γ hO hn hQ => ?_)
  have hO : Ok X RX8 cX8_dropTrain 0 0 Γ := hO
  unfold f_X8_dropTrain at h
  refine tr_aload_n hO 0 0 rfl dX8_dropTrain_0 ?_
  refine tr_get hO 1 (k := 0) (x_v0 (by decide)) rfl rfl iX8 (by decide) wF_X8_7 rfl rfl dX8_dropTrain_1 ?_
  refine tr_bipush hO 4 (v := 11) (by decide) dX8_dropTrain_4 ?_
  refine tr_dup2 hO 6 rfl rfl dX8_dropTrain_6 ?_
  refine tr_iald hO 7 (x_v0 (by decide)) a_28 (by decide) dX8_dropTrain_7 ?_
  refine tr_iconst hO 8 (v := 1) (by decide) dX8_dropTrain_8 ?_
  refine tr_isub hO 9 dX8_dropTrain_9 ?_
  obtain ⟨μ1, e_μ1, h⟩ := of_lt h
  refine tr_iast hO 10 e_μ1 (x_v0 (by decide)) a_28 (by decide) dX8_dropTrain_10 ?_
  refine tr_sipush hO 11 (v := 450) (by decide) dX8_dropTrain_11 ?_
  refine tr_bipush hO 14 (v := 10) (by decide) dX8_dropTrain_14 ?_
  refine tr_iload_n hO 16 1 rfl dX8_dropTrain_16 ?_
  refine tr_imul hO 17 dX8_dropTrain_17 ?_
  refine tr_iadd hO 18 dX8_dropTrain_18 ?_
  obtain ⟨v2, e_v2, h⟩ := of_lt h
  refine tr_istore_n hO 19 (v := v2) e_v2 (lv' := [(2, .int v2), (0, .ref (X.1 27 0)), (1, .int a1)]) hn rfl (by decide) rfl dX8_dropTrain_19 ?_
  have L20_T : ∀ (n : Nat) (v3 : Int32) (μ4 : mT), f_X8_dropTrain_L20 n v3 μ4 = some (r, μ') → tj X Γ μ4 20 [(0, .ref (X.1 27 0)), (2, .int v3)] [] := by
    intro n
    induction n with
    | zero =>
      intro v3 μ4 h
      rw [f_X8_dropTrain_L20] at h
      cases h
    | succ n ih =>
      intro v3 μ4 h
      rw [f_X8_dropTrain_L20] at h
      refine tr_iload_n hO 20 1 rfl dX8_dropTrain_20 ?_
      refine tr_sipush hO 21 (v := 450) (by decide) dX8_dropTrain_21 ?_
      refine tr_bipush hO 24 (v := 10) (by decide) dX8_dropTrain_24 ?_
      refine tr_aload_n hO 26 0 rfl dX8_dropTrain_26 ?_
      refine tr_get hO 27 (k := 0) (x_v0 (by decide)) rfl rfl iX8 (by decide) wF_X8_7 rfl rfl dX8_dropTrain_27 ?_
      refine tr_bipush hO 30 (v := 11) (by decide) dX8_dropTrain_30 ?_
      refine tr_iald hO 32 (x_v0 (by decide)) a_28 (by decide) dX8_dropTrain_32 ?_
      refine tr_imul hO 33 dX8_dropTrain_33 ?_
      refine tr_iadd hO 34 dX8_dropTrain_34 ?_
      refine tr_icmp_ge hO 35 59 (by decide) dX8_dropTrain_35 (fun hc => ?_) (fun hc => ?_)
      · have h := of_t hc h
        cases h
        exact tr_vret hO 59 hQ dX8_dropTrain_59
      · have h := of_f hc h
        refine tr_aload_n hO 38 0 rfl dX8_dropTrain_38 ?_
        refine tr_get hO 39 (k := 0) (x_v0 (by decide)) rfl rfl iX8 (by decide) wF_X8_7 rfl rfl dX8_dropTrain_39 ?_
        refine tr_iload_n hO 42 1 rfl dX8_dropTrain_42 ?_
        refine tr_aload_n hO 43 0 rfl dX8_dropTrain_43 ?_
        refine tr_get hO 44 (k := 0) (x_v0 (by decide)) rfl rfl iX8 (by decide) wF_X8_7 rfl rfl dX8_dropTrain_44 ?_
        refine tr_iload_n hO 47 1 rfl dX8_dropTrain_47 ?_
        refine tr_bipush hO 48 (v := 10) (by decide) dX8_dropTrain_48 ?_
        refine tr_iadd hO 50 dX8_dropTrain_50 ?_
        obtain ⟨hg, h⟩ := of_gd h
        refine tr_iald hO 51 (x_v0 (by decide)) a_28 hg dX8_dropTrain_51 ?_
        obtain ⟨hg, h⟩ := of_gd h
        obtain ⟨μ5, e_μ5, h⟩ := of_lt h
        refine tr_iast hO 52 e_μ5 (x_v0 (by decide)) a_28 hg dX8_dropTrain_52 ?_
        obtain ⟨v6, e_v6, h⟩ := of_lt h
        refine tr_iinc hO 53 (q := 1) (v := v6) (lv' := [(2, .int v6), (0, .ref (X.1 27 0))]) hn rfl (by rw [e_v6]; rfl) (by decide) rfl dX8_dropTrain_53 ?_
        refine tr_goto hO 56 20 (by decide) dX8_dropTrain_56 ?_
        refine tr_sub [1, 0] rfl ?_
        exact ih _ _ h
  refine tr_sub [1, 0] rfl ?_
  exact L20_T _ _ _ h
set_option maxHeartbeats 4000000 in
set_option maxRecDepth 100000 in
theorem c_X8_strike {X : xT} (hX : xOK X) {a1 : Int32}  {μ μ' : mT} {r : Int32} (h : f_X8_strike a1 μ = some (r, μ')) : CMi X yX8_strike cX8_strike 2 .int 2 43 [.ref (X.1 27 0), .int a1] μ r μ' := by
  refine CMi_of hX (by decide +kernel) (lv := [(0, .ref (X.1 27 0)), (1, .int a1)]) (Nat.le_of_ble_eq_true rfl) rfl (fun Γ hO hn hQ => ?_)
  have hO : Ok X RX8 cX8_strike 2 43 Γ := hO
  unfold f_X8_strike at h
  refine tr_aload_n hO 0 0 rfl dX8_strike_0 ?_
  refine tr_iload_n hO 1 1 rfl dX8_strike_1 ?_
  obtain ⟨v1, μ2, hcall, h⟩ := of_bd h
  refine tr_callI hO 2 (na := 1) (As := [.int a1]) (st := []) (c_X8_isTrain hX  hcall) rfl (x_v0 (by decide)) rfl rfl wM_X8_133 wI_X8_isTrain wS_X8_isTrain wN_X8 wC_X8_isTrain (by decide +kernel) rfl (by decide) (by decide) (Nat.le_of_ble_eq_true rfl) dX8_strike_2 ?_
  refine tr_if_ne hO 5 10 (by decide) dX8_strike_5 (fun hc => ?_) (fun hc => ?_)
  · have h := of_f hc h
    refine tr_aload_n hO 10 0 rfl dX8_strike_10 ?_
    obtain ⟨v3, μ4, hcall, h⟩ := of_bd h
    refine tr_callV hO 11 (na := 0) (As := []) (st := []) (c_X8_record hX  hcall) rfl (x_v0 (by decide)) rfl rfl wM_X8_66 wI_X8_record wS_X8_record wN_X8 wC_X8_record (by decide +kernel) rfl (by decide) (by decide) (Nat.le_of_ble_eq_true rfl) dX8_strike_11 ?_
    refine tr_aload_n hO 14 0 rfl dX8_strike_14 ?_
    refine tr_iload_n hO 15 1 rfl dX8_strike_15 ?_
    obtain ⟨v5, μ6, hcall, h⟩ := of_bd h
    refine tr_callV hO 16 (na := 1) (As := [.int a1]) (st := []) (c_X8_dropTrain hX  hcall) rfl (x_v0 (by decide)) rfl rfl wM_X8_136 wI_X8_dropTrain wS_X8_dropTrain wN_X8 wC_X8_dropTrain (by decide +kernel) rfl (by decide) (by decide) (Nat.le_of_ble_eq_true rfl) dX8_strike_16 ?_
    refine tr_aload_n hO 19 0 rfl dX8_strike_19 ?_
    refine tr_get hO 20 (k := 0) (x_v0 (by decide)) rfl rfl iX8 (by decide) wF_X8_7 rfl rfl dX8_strike_20 ?_
    refine tr_bipush hO 23 (v := 11) (by decide) dX8_strike_23 ?_
    refine tr_iald hO 25 (x_v0 (by decide)) a_28 (by decide) dX8_strike_25 ?_
    cases h
    exact tr_iret hO 26 hQ rfl dX8_strike_26
  · have h := of_t hc h
    refine tr_iconst hO 8 (v := (-1)) (by decide) dX8_strike_8 ?_
    cases h
    exact tr_iret hO 9 hQ rfl dX8_strike_9
set_option maxHeartbeats 4000000 in
set_option maxRecDepth 100000 in
theorem c_X8_canLeave {X : xT} (hX : xOK X) {a1 : Int32}  {μ μ' : mT} {r : Int32} (h : f_X8_canLeave a1 μ = some (r, μ')) : CMi X yX8_canLeave cX8_canLeave 5 .boolean 0 0 [.ref (X.1 27 0), .int a1] μ r μ' := by
  refine CMi_of hX (by decide +kernel) (lv := [(0, .ref (X.1 27 0)), (1, .int a1)]) (Nat.le_of_ble_eq_true rfl) rfl (fun Γ hO hn hQ => ?_)
  have hO : Ok X RX8 cX8_canLeave 0 0 Γ := hO
  unfold f_X8_canLeave at h
  refine tr_sipush hO 0 (v := 450) (by decide) dX8_canLeave_0 ?_
  refine tr_bipush hO 3 (v := 10) (by decide) dX8_canLeave_3 ?_
  refine tr_iload_n hO 5 1 rfl dX8_canLeave_5 ?_
  refine tr_imul hO 6 dX8_canLeave_6 ?_
  refine tr_iadd hO 7 dX8_canLeave_7 ?_
  obtain ⟨v1, e_v1, h⟩ := of_lt h
  refine tr_istore_n hO 8 (v := v1) e_v1 (lv' := [(2, .int v1), (0, .ref (X.1 27 0)), (1, .int a1)]) hn rfl (by decide) rfl dX8_canLeave_8 ?_
  refine tr_aload_n hO 9 1 rfl dX8_canLeave_9 ?_
  refine tr_get hO 10 (k := 0) (x_v0 (by decide)) rfl rfl iX8 (by decide) wF_X8_7 rfl rfl dX8_canLeave_10 ?_
  refine tr_iload_n hO 13 0 rfl dX8_canLeave_13 ?_
  refine tr_iconst hO 14 (v := 1) (by decide) dX8_canLeave_14 ?_
  refine tr_iadd hO 15 dX8_canLeave_15 ?_
  obtain ⟨hg, h⟩ := of_gd h
  refine tr_iald hO 16 (x_v0 (by decide)) a_28 hg dX8_canLeave_16 ?_
  refine tr_aload_n hO 17 1 rfl dX8_canLeave_17 ?_
  refine tr_get hO 18 (k := 0) (x_v0 (by decide)) rfl rfl iX8 (by decide) wF_X8_7 rfl rfl dX8_canLeave_18 ?_
  refine tr_bipush hO 21 (v := 9) (by decide) dX8_canLeave_21 ?_
  refine tr_iald hO 23 (x_v0 (by decide)) a_28 (by decide) dX8_canLeave_23 ?_
  obtain ⟨J2, e_J2, h⟩ := of_lt h
  have J2_T : ∀ (v3 : Int32) (μ4 : mT), J2 v3 μ4 = some (r, μ') → tj X Γ μ4 32 [(0, .ref (X.1 27 0)), (2, .int v1)] [.int v3] := by
    intro v3 μ4 h
    rw [e_J2] at h
    refine tr_istore_n hO 32 (v := v3) rfl (lv' := [(3, .int v3), (0, .ref (X.1 27 0)), (2, .int v1)]) hn rfl (by decide) rfl dX8_canLeave_32 ?_
    refine tr_iconst hO 33 (v := 0) (by decide) dX8_canLeave_33 ?_
    refine tr_istore hO 34 (v := 0) rfl (lv' := [(4, .int 0), (3, .int v3), (0, .ref (X.1 27 0)), (2, .int v1)]) hn (by decide) rfl dX8_canLeave_34 ?_
    have L36_T : ∀ (n : Nat) (v5 : Int32) (v6 : Int32) (μ7 : mT), f_X8_canLeave_L36 v1 n v5 v6 μ7 = some (r, μ') → tj X Γ μ7 36 [(0, .ref (X.1 27 0)), (2, .int v1), (3, .int v5), (4, .int v6)] [] := by
      intro n
      induction n with
      | zero =>
        intro v5 v6 μ7 h
        rw [f_X8_canLeave_L36] at h
        cases h
      | succ n ih =>
        intro v5 v6 μ7 h
        rw [f_X8_canLeave_L36] at h
        refine tr_iload hO 36 3 rfl dX8_canLeave_36 ?_
        refine tr_aload_n hO 38 0 rfl dX8_canLeave_38 ?_
        refine tr_get hO 39 (k := 0) (x_v0 (by decide)) rfl rfl iX8 (by decide) wF_X8_7 rfl rfl dX8_canLeave_39 ?_
        refine tr_bipush hO 42 (v := 9) (by decide) dX8_canLeave_42 ?_
        refine tr_iald hO 44 (x_v0 (by decide)) a_28 (by decide) dX8_canLeave_44 ?_
        refine tr_icmp_ge hO 45 89 (by decide) dX8_canLeave_45 (fun hc => ?_) (fun hc => ?_)
        · have h := of_t hc h
          refine tr_iload_n hO 89 2 rfl dX8_canLeave_89 ?_
          obtain ⟨hg, h⟩ := of_gd h
          cases h
          exact tr_iret hO 90 hQ (isB_n hg) dX8_canLeave_90
        · have h := of_f hc h
          refine tr_iload_n hO 48 2 rfl dX8_canLeave_48 ?_
          refine tr_if_eq hO 49 89 (by decide) dX8_canLeave_49 (fun hc => ?_) (fun hc => ?_)
          · have h := of_t hc h
            refine tr_iload_n hO 89 2 rfl dX8_canLeave_89 ?_
            obtain ⟨hg, h⟩ := of_gd h
            cases h
            exact tr_iret hO 90 hQ (isB_n hg) dX8_canLeave_90
          · have h := of_f hc h
            refine tr_aload_n hO 52 0 rfl dX8_canLeave_52 ?_
            refine tr_get hO 53 (k := 0) (x_v0 (by decide)) rfl rfl iX8 (by decide) wF_X8_7 rfl rfl dX8_canLeave_53 ?_
            refine tr_iload_n hO 56 1 rfl dX8_canLeave_56 ?_
            refine tr_iconst hO 57 (v := 2) (by decide) dX8_canLeave_57 ?_
            refine tr_iadd hO 58 dX8_canLeave_58 ?_
            refine tr_iload hO 59 3 rfl dX8_canLeave_59 ?_
            refine tr_iadd hO 61 dX8_canLeave_61 ?_
            obtain ⟨hg, h⟩ := of_gd h
            refine tr_iald hO 62 (x_v0 (by decide)) a_28 hg dX8_canLeave_62 ?_
            refine tr_aload_n hO 63 0 rfl dX8_canLeave_63 ?_
            refine tr_get hO 64 (k := 0) (x_v0 (by decide)) rfl rfl iX8 (by decide) wF_X8_7 rfl rfl dX8_canLeave_64 ?_
            refine tr_sipush hO 67 (v := 300) (by decide) dX8_canLeave_67 ?_
            refine tr_iload hO 70 3 rfl dX8_canLeave_70 ?_
            refine tr_iadd hO 72 dX8_canLeave_72 ?_
            obtain ⟨hg, h⟩ := of_gd h
            refine tr_iald hO 73 (x_v0 (by decide)) a_28 hg dX8_canLeave_73 ?_
            obtain ⟨J8, e_J8, h⟩ := of_lt h
            have J8_T : ∀ (v9 : Int32) (μ10 : mT), J8 v9 μ10 = some (r, μ') → tj X Γ μ10 82 [(0, .ref (X.1 27 0)), (2, .int v1), (4, .int v6)] [.int v9] := by
              intro v9 μ10 h
              rw [e_J8] at h
              refine tr_istore_n hO 82 (v := v9) rfl (lv' := [(3, .int v9), (0, .ref (X.1 27 0)), (2, .int v1), (4, .int v6)]) hn rfl (by decide) rfl dX8_canLeave_82 ?_
              obtain ⟨v11, e_v11, h⟩ := of_lt h
              refine tr_iinc hO 83 (q := 3) (v := v11) (lv' := [(4, .int v11), (3, .int v9), (0, .ref (X.1 27 0)), (2, .int v1)]) hn rfl (by rw [e_v11]; rfl) (by decide) rfl dX8_canLeave_83 ?_
              refine tr_goto hO 86 36 (by decide) dX8_canLeave_86 ?_
              refine tr_sub [2, 3, 1, 0] rfl ?_
              exact ih _ _ _ h
            refine tr_icmp_ne hO 74 81 (by decide) dX8_canLeave_74 (fun hc => ?_) (fun hc => ?_)
            · have h := of_f hc h
              refine tr_iconst hO 81 (v := 0) (by decide) dX8_canLeave_81 ?_
              refine tr_sub [0, 1, 3] rfl ?_
              exact J8_T _ _ h
            · have h := of_t hc h
              refine tr_iconst hO 77 (v := 1) (by decide) dX8_canLeave_77 ?_
              refine tr_goto hO 78 82 (by decide) dX8_canLeave_78 ?_
              refine tr_sub [0, 1, 3] rfl ?_
              exact J8_T _ _ h
    refine tr_sub [2, 3, 1, 0] rfl ?_
    exact L36_T _ _ _ _ h
  refine tr_icmp_ne hO 24 31 (by decide) dX8_canLeave_24 (fun hc => ?_) (fun hc => ?_)
  · have h := of_f hc h
    refine tr_iconst hO 31 (v := 0) (by decide) dX8_canLeave_31 ?_
    refine tr_sub [1, 0] rfl ?_
    exact J2_T _ _ h
  · have h := of_t hc h
    refine tr_iconst hO 27 (v := 1) (by decide) dX8_canLeave_27 ?_
    refine tr_goto hO 28 32 (by decide) dX8_canLeave_28 ?_
    refine tr_sub [1, 0] rfl ?_
    exact J2_T _ _ h
set_option maxHeartbeats 4000000 in
set_option maxRecDepth 100000 in
theorem c_X8_leave {X : xT} (hX : xOK X) {a1 : Int32}  {μ μ' : mT} {r : Int32} (h : f_X8_leave a1 μ = some (r, μ')) : CMi X yX8_leave cX8_leave 5 .int 2 43 [.ref (X.1 27 0), .int a1] μ r μ' := by
  refine CMi_of hX (by decide +kernel) (lv := [(0, .ref (X.1 27 0)), (1, .int a1)]) (Nat.le_of_ble_eq_true rfl) rfl (fun Γ hO hn hQ => ?_)
  have hO : Ok X RX8 cX8_leave 2 43 Γ := hO
  unfold f_X8_leave at h
  refine tr_aload_n hO 0 0 rfl dX8_leave_0 ?_
  refine tr_iload_n hO 1 1 rfl dX8_leave_1 ?_
  obtain ⟨v1, μ2, hcall, h⟩ := of_bd h
  refine tr_callI hO 2 (na := 1) (As := [.int a1]) (st := []) (c_X8_isTrain hX  hcall) rfl (x_v0 (by decide)) rfl rfl wM_X8_133 wI_X8_isTrain wS_X8_isTrain wN_X8 wC_X8_isTrain (by decide +kernel) rfl (by decide) (by decide) (Nat.le_of_ble_eq_true rfl) dX8_leave_2 ?_
  refine tr_if_ne hO 5 10 (by decide) dX8_leave_5 (fun hc => ?_) (fun hc => ?_)
  · have h := of_f hc h
    refine tr_aload_n hO 10 0 rfl dX8_leave_10 ?_
    refine tr_iload_n hO 11 1 rfl dX8_leave_11 ?_
    obtain ⟨v3, μ4, hcall, h⟩ := of_bd h
    refine tr_callI hO 12 (na := 1) (As := [.int a1]) (st := []) (c_X8_canLeave hX  hcall) rfl (x_v0 (by decide)) rfl rfl wM_X8_139 wI_X8_canLeave wS_X8_canLeave wN_X8 wC_X8_canLeave (by decide +kernel) rfl (by decide) (by decide) (Nat.le_of_ble_eq_true rfl) dX8_leave_12 ?_
    refine tr_if_ne hO 15 21 (by decide) dX8_leave_15 (fun hc => ?_) (fun hc => ?_)
    · have h := of_f hc h
      refine tr_aload_n hO 21 0 rfl dX8_leave_21 ?_
      obtain ⟨v5, μ6, hcall, h⟩ := of_bd h
      refine tr_callV hO 22 (na := 0) (As := []) (st := []) (c_X8_record hX  hcall) rfl (x_v0 (by decide)) rfl rfl wM_X8_66 wI_X8_record wS_X8_record wN_X8 wC_X8_record (by decide +kernel) rfl (by decide) (by decide) (Nat.le_of_ble_eq_true rfl) dX8_leave_22 ?_
      refine tr_aload_n hO 25 0 rfl dX8_leave_25 ?_
      refine tr_get hO 26 (k := 0) (x_v0 (by decide)) rfl rfl iX8 (by decide) wF_X8_7 rfl rfl dX8_leave_26 ?_
      refine tr_sipush hO 29 (v := 450) (by decide) dX8_leave_29 ?_
      refine tr_bipush hO 32 (v := 10) (by decide) dX8_leave_32 ?_
      refine tr_iload_n hO 34 1 rfl dX8_leave_34 ?_
      refine tr_imul hO 35 dX8_leave_35 ?_
      refine tr_iadd hO 36 dX8_leave_36 ?_
      obtain ⟨hg, h⟩ := of_gd h
      refine tr_iald hO 37 (x_v0 (by decide)) a_28 hg dX8_leave_37 ?_
      obtain ⟨v7, e_v7, h⟩ := of_lt h
      refine tr_istore_n hO 38 (v := v7) e_v7 (lv' := [(2, .int v7), (0, .ref (X.1 27 0)), (1, .int a1)]) hn rfl (by decide) rfl dX8_leave_38 ?_
      refine tr_aload_n hO 39 1 rfl dX8_leave_39 ?_
      refine tr_get hO 40 (k := 0) (x_v0 (by decide)) rfl rfl iX8 (by decide) wF_X8_7 rfl rfl dX8_leave_40 ?_
      refine tr_bipush hO 43 (v := 6) (by decide) dX8_leave_43 ?_
      refine tr_iald hO 45 (x_v0 (by decide)) a_28 (by decide) dX8_leave_45 ?_
      refine tr_iload_n hO 46 0 rfl dX8_leave_46 ?_
      obtain ⟨J8, e_J8, h⟩ := of_lt h
      have J8_T : ∀ (v9 : Int32) (μ10 : mT), J8 v9 μ10 = some (r, μ') → tj X Γ μ10 63 [(0, .ref (X.1 27 0)), (1, .int a1)] [.int v9] := by
        intro v9 μ10 h
        rw [e_J8] at h
        refine tr_istore_n hO 63 (v := v9) rfl (lv' := [(3, .int v9), (0, .ref (X.1 27 0)), (1, .int a1)]) hn rfl (by decide) rfl dX8_leave_63 ?_
        refine tr_iconst hO 64 (v := 0) (by decide) dX8_leave_64 ?_
        refine tr_istore hO 65 (v := 0) rfl (lv' := [(4, .int 0), (3, .int v9), (0, .ref (X.1 27 0)), (1, .int a1)]) hn (by decide) rfl dX8_leave_65 ?_
        obtain ⟨K13, e_K13, h⟩ := of_lt h
        have K13_T : ∀ (μ14 : mT), K13 μ14 = some (r, μ') → tj X Γ μ14 116 [(0, .ref (X.1 27 0)), (1, .int a1), (3, .int v9)] [] := by
          intro μ14 h
          rw [e_K13] at h
          refine tr_aload_n hO 116 0 rfl dX8_leave_116 ?_
          refine tr_get hO 117 (k := 0) (x_v0 (by decide)) rfl rfl iX8 (by decide) wF_X8_7 rfl rfl dX8_leave_117 ?_
          refine tr_bipush hO 120 (v := 10) (by decide) dX8_leave_120 ?_
          refine tr_dup2 hO 122 rfl rfl dX8_leave_122 ?_
          refine tr_iald hO 123 (x_v0 (by decide)) a_28 (by decide) dX8_leave_123 ?_
          refine tr_aload_n hO 124 0 rfl dX8_leave_124 ?_
          refine tr_get hO 125 (k := 0) (x_v0 (by decide)) rfl rfl iX8 (by decide) wF_X8_7 rfl rfl dX8_leave_125 ?_
          refine tr_bipush hO 128 (v := 9) (by decide) dX8_leave_128 ?_
          refine tr_iald hO 130 (x_v0 (by decide)) a_28 (by decide) dX8_leave_130 ?_
          refine tr_iadd hO 131 dX8_leave_131 ?_
          obtain ⟨μ15, e_μ15, h⟩ := of_lt h
          refine tr_iast hO 132 e_μ15 (x_v0 (by decide)) a_28 (by decide) dX8_leave_132 ?_
          refine tr_aload_n hO 133 0 rfl dX8_leave_133 ?_
          refine tr_get hO 134 (k := 0) (x_v0 (by decide)) rfl rfl iX8 (by decide) wF_X8_7 rfl rfl dX8_leave_134 ?_
          refine tr_bipush hO 137 (v := 9) (by decide) dX8_leave_137 ?_
          refine tr_iconst hO 139 (v := 0) (by decide) dX8_leave_139 ?_
          obtain ⟨μ16, e_μ16, h⟩ := of_lt h
          refine tr_iast hO 140 e_μ16 (x_v0 (by decide)) a_28 (by decide) dX8_leave_140 ?_
          refine tr_aload_n hO 141 0 rfl dX8_leave_141 ?_
          refine tr_get hO 142 (k := 0) (x_v0 (by decide)) rfl rfl iX8 (by decide) wF_X8_7 rfl rfl dX8_leave_142 ?_
          refine tr_bipush hO 145 (v := 12) (by decide) dX8_leave_145 ?_
          refine tr_dup2 hO 147 rfl rfl dX8_leave_147 ?_
          refine tr_iald hO 148 (x_v0 (by decide)) a_28 (by decide) dX8_leave_148 ?_
          refine tr_iconst hO 149 (v := 1) (by decide) dX8_leave_149 ?_
          refine tr_iadd hO 150 dX8_leave_150 ?_
          obtain ⟨μ17, e_μ17, h⟩ := of_lt h
          refine tr_iast hO 151 e_μ17 (x_v0 (by decide)) a_28 (by decide) dX8_leave_151 ?_
          refine tr_aload_n hO 152 0 rfl dX8_leave_152 ?_
          refine tr_get hO 153 (k := 0) (x_v0 (by decide)) rfl rfl iX8 (by decide) wF_X8_7 rfl rfl dX8_leave_153 ?_
          refine tr_bipush hO 156 (v := 17) (by decide) dX8_leave_156 ?_
          refine tr_dup2 hO 158 rfl rfl dX8_leave_158 ?_
          refine tr_iald hO 159 (x_v0 (by decide)) a_28 (by decide) dX8_leave_159 ?_
          refine tr_aload_n hO 160 0 rfl dX8_leave_160 ?_
          refine tr_get hO 161 (k := 0) (x_v0 (by decide)) rfl rfl iX8 (by decide) wF_X8_7 rfl rfl dX8_leave_161 ?_
          refine tr_iconst hO 164 (v := 5) (by decide) dX8_leave_164 ?_
          refine tr_iald hO 165 (x_v0 (by decide)) a_28 (by decide) dX8_leave_165 ?_
          refine tr_iload_n hO 166 2 rfl dX8_leave_166 ?_
          refine tr_imul hO 167 dX8_leave_167 ?_
          refine tr_iadd hO 168 dX8_leave_168 ?_
          obtain ⟨μ18, e_μ18, h⟩ := of_lt h
          refine tr_iast hO 169 e_μ18 (x_v0 (by decide)) a_28 (by decide) dX8_leave_169 ?_
          refine tr_aload_n hO 170 0 rfl dX8_leave_170 ?_
          refine tr_iload_n hO 171 1 rfl dX8_leave_171 ?_
          obtain ⟨v19, μ20, hcall, h⟩ := of_bd h
          refine tr_callV hO 172 (na := 1) (As := [.int a1]) (st := []) (c_X8_dropTrain hX  hcall) rfl (x_v0 (by decide)) rfl rfl wM_X8_136 wI_X8_dropTrain wS_X8_dropTrain wN_X8 wC_X8_dropTrain (by decide +kernel) rfl (by decide) (by decide) (Nat.le_of_ble_eq_true rfl) dX8_leave_172 ?_
          refine tr_iload_n hO 175 2 rfl dX8_leave_175 ?_
          cases h
          exact tr_iret hO 176 hQ rfl dX8_leave_176
        have L67_T : ∀ (n : Nat) (v11 : Int32) (μ12 : mT), f_X8_leave_L67 a1 v9 K13 n v11 μ12 = some (r, μ') → tj X Γ μ12 67 [(0, .ref (X.1 27 0)), (1, .int a1), (3, .int v9), (4, .int v11)] [] := by
          intro n
          induction n with
          | zero =>
            intro v11 μ12 h
            rw [f_X8_leave_L67] at h
            cases h
          | succ n ih =>
            intro v11 μ12 h
            rw [f_X8_leave_L67] at h
            refine tr_iload hO 67 3 rfl dX8_leave_67 ?_
            refine tr_aload_n hO 69 0 rfl dX8_leave_69 ?_
            refine tr_get hO 70 (k := 0) (x_v0 (by decide)) rfl rfl iX8 (by decide) wF_X8_7 rfl rfl dX8_leave_70 ?_
            refine tr_bipush hO 73 (v := 9) (by decide) dX8_leave_73 ?_
            refine tr_iald hO 75 (x_v0 (by decide)) a_28 (by decide) dX8_leave_75 ?_
            refine tr_icmp_ge hO 76 116 (by decide) dX8_leave_76 (fun hc => ?_) (fun hc => ?_)
            · have h := of_t hc h
              refine tr_sub [0, 1, 2] rfl ?_
              exact K13_T _ h
            · have h := of_f hc h
              refine tr_aload_n hO 79 0 rfl dX8_leave_79 ?_
              refine tr_get hO 80 (k := 0) (x_v0 (by decide)) rfl rfl iX8 (by decide) wF_X8_7 rfl rfl dX8_leave_80 ?_
              refine tr_sipush hO 83 (v := 330) (by decide) dX8_leave_83 ?_
              refine tr_iconst hO 86 (v := 4) (by decide) dX8_leave_86 ?_
              refine tr_aload_n hO 87 0 rfl dX8_leave_87 ?_
              refine tr_get hO 88 (k := 0) (x_v0 (by decide)) rfl rfl iX8 (by decide) wF_X8_7 rfl rfl dX8_leave_88 ?_
              refine tr_sipush hO 91 (v := 300) (by decide) dX8_leave_91 ?_
              refine tr_iload hO 94 3 rfl dX8_leave_94 ?_
              refine tr_iadd hO 96 dX8_leave_96 ?_
              obtain ⟨hg, h⟩ := of_gd h
              refine tr_iald hO 97 (x_v0 (by decide)) a_28 hg dX8_leave_97 ?_
              refine tr_imul hO 98 dX8_leave_98 ?_
              refine tr_iadd hO 99 dX8_leave_99 ?_
              refine tr_iconst hO 100 (v := 1) (by decide) dX8_leave_100 ?_
              refine tr_iadd hO 101 dX8_leave_101 ?_
              refine tr_aload_n hO 102 0 rfl dX8_leave_102 ?_
              refine tr_get hO 103 (k := 0) (x_v0 (by decide)) rfl rfl iX8 (by decide) wF_X8_7 rfl rfl dX8_leave_103 ?_
              refine tr_bipush hO 106 (v := 6) (by decide) dX8_leave_106 ?_
              refine tr_iald hO 108 (x_v0 (by decide)) a_28 (by decide) dX8_leave_108 ?_
              obtain ⟨hg, h⟩ := of_gd h
              obtain ⟨μ21, e_μ21, h⟩ := of_lt h
              refine tr_iast hO 109 e_μ21 (x_v0 (by decide)) a_28 hg dX8_leave_109 ?_
              obtain ⟨v22, e_v22, h⟩ := of_lt h
              refine tr_iinc hO 110 (q := 3) (v := v22) (lv' := [(4, .int v22), (0, .ref (X.1 27 0)), (1, .int a1), (3, .int v9)]) hn rfl (by rw [e_v22]; rfl) (by decide) rfl dX8_leave_110 ?_
              refine tr_goto hO 113 67 (by decide) dX8_leave_113 ?_
              refine tr_sub [1, 2, 3, 0] rfl ?_
              exact ih _ _ h
        refine tr_sub [2, 3, 1, 0] rfl ?_
        exact L67_T _ _ _ h
      refine tr_icmp_le hO 47 62 (by decide) dX8_leave_47 (fun hc => ?_) (fun hc => ?_)
      · have h := of_t hc h
        refine tr_iconst hO 62 (v := 0) (by decide) dX8_leave_62 ?_
        refine tr_sub [1, 2] rfl ?_
        exact J8_T _ _ h
      · have h := of_f hc h
        refine tr_aload_n hO 50 1 rfl dX8_leave_50 ?_
        refine tr_get hO 51 (k := 0) (x_v0 (by decide)) rfl rfl iX8 (by decide) wF_X8_7 rfl rfl dX8_leave_51 ?_
        refine tr_bipush hO 54 (v := 6) (by decide) dX8_leave_54 ?_
        refine tr_iald hO 56 (x_v0 (by decide)) a_28 (by decide) dX8_leave_56 ?_
        refine tr_iload_n hO 57 0 rfl dX8_leave_57 ?_
        refine tr_isub hO 58 dX8_leave_58 ?_
        refine tr_goto hO 59 63 (by decide) dX8_leave_59 ?_
        refine tr_sub [1, 2] rfl ?_
        exact J8_T _ _ h
    · have h := of_t hc h
      refine tr_bipush hO 18 (v := (-5)) (by decide) dX8_leave_18 ?_
      cases h
      exact tr_iret hO 20 hQ rfl dX8_leave_20
  · have h := of_t hc h
    refine tr_iconst hO 8 (v := (-1)) (by decide) dX8_leave_8 ?_
    cases h
    exact tr_iret hO 9 hQ rfl dX8_leave_9
set_option maxHeartbeats 4000000 in
set_option maxRecDepth 100000 in
theorem c_X8_ofTrack {X : xT} (hX : xOK X) {a1 : Int32} {a2 : Int32}  {μ μ' : mT} {r : Int32} (h : f_X8_ofTrack a1 a2 μ = some (r, μ')) : CMi X yX8_ofTrack cX8_ofTrack 3 .int 3 66 [.ref (X.1 27 0), .int a1, .int a2] μ r μ' := by
  refine CMi_of hX (by decide +kernel) (lv := [(0, .ref (X.1 27 0)), (1, .int a1), (2, .int a2)]) (Nat.le_of_ble_eq_true rfl) rfl (fun Γ hO hn hQ => ?_)
  have hO : Ok X RX8 cX8_ofTrack 3 66 Γ := hO
  unfold f_X8_ofTrack at h
  refine tr_aload_n hO 0 0 rfl dX8_ofTrack_0 ?_
  refine tr_iload_n hO 1 1 rfl dX8_ofTrack_1 ?_
  obtain ⟨v1, μ2, hcall, h⟩ := of_bd h
  refine tr_callI hO 2 (na := 1) (As := [.int a1]) (st := []) (c_X8_isTrack hX  hcall) rfl (x_v0 (by decide)) rfl rfl wM_X8_79 wI_X8_isTrack wS_X8_isTrack wN_X8 wC_X8_isTrack (by decide +kernel) rfl (by decide) (by decide) (Nat.le_of_ble_eq_true rfl) dX8_ofTrack_2 ?_
  refine tr_if_ne hO 5 10 (by decide) dX8_ofTrack_5 (fun hc => ?_) (fun hc => ?_)
  · have h := of_f hc h
    refine tr_iload_n hO 10 2 rfl dX8_ofTrack_10 ?_
    by_cases hs0 : a2 = 0
    · have h := of_t hs0 h
      refine tr_tabIn hO 11 44 (by rw [hs0]; decide) (by rw [hs0]; decide) (by rw [hs0]; rfl) (by decide) dX8_ofTrack_11 ?_
      refine tr_aload_n hO 44 0 rfl dX8_ofTrack_44 ?_
      refine tr_get hO 45 (k := 0) (x_v0 (by decide)) rfl rfl iX8 (by decide) wF_X8_7 rfl rfl dX8_ofTrack_45 ?_
      refine tr_bipush hO 48 (v := 20) (by decide) dX8_ofTrack_48 ?_
      refine tr_iconst hO 50 (v := 4) (by decide) dX8_ofTrack_50 ?_
      refine tr_iload_n hO 51 1 rfl dX8_ofTrack_51 ?_
      refine tr_imul hO 52 dX8_ofTrack_52 ?_
      refine tr_iadd hO 53 dX8_ofTrack_53 ?_
      refine tr_iload_n hO 54 2 rfl dX8_ofTrack_54 ?_
      refine tr_iadd hO 55 dX8_ofTrack_55 ?_
      obtain ⟨hg, h⟩ := of_gd h
      refine tr_iald hO 56 (x_v0 (by decide)) a_28 hg dX8_ofTrack_56 ?_
      cases h
      exact tr_iret hO 57 hQ rfl dX8_ofTrack_57
    have h := of_f hs0 h
    by_cases hs1 : a2 = 1
    · have h := of_t hs1 h
      refine tr_tabIn hO 11 44 (by rw [hs1]; decide) (by rw [hs1]; decide) (by rw [hs1]; rfl) (by decide) dX8_ofTrack_11 ?_
      refine tr_aload_n hO 44 0 rfl dX8_ofTrack_44 ?_
      refine tr_get hO 45 (k := 0) (x_v0 (by decide)) rfl rfl iX8 (by decide) wF_X8_7 rfl rfl dX8_ofTrack_45 ?_
      refine tr_bipush hO 48 (v := 20) (by decide) dX8_ofTrack_48 ?_
      refine tr_iconst hO 50 (v := 4) (by decide) dX8_ofTrack_50 ?_
      refine tr_iload_n hO 51 1 rfl dX8_ofTrack_51 ?_
      refine tr_imul hO 52 dX8_ofTrack_52 ?_
      refine tr_iadd hO 53 dX8_ofTrack_53 ?_
      refine tr_iload_n hO 54 2 rfl dX8_ofTrack_54 ?_
      refine tr_iadd hO 55 dX8_ofTrack_55 ?_
      obtain ⟨hg, h⟩ := of_gd h
      refine tr_iald hO 56 (x_v0 (by decide)) a_28 hg dX8_ofTrack_56 ?_
      cases h
      exact tr_iret hO 57 hQ rfl dX8_ofTrack_57
    have h := of_f hs1 h
    by_cases hs2 : a2 = 2
    · have h := of_t hs2 h
      refine tr_tabIn hO 11 58 (by rw [hs2]; decide) (by rw [hs2]; decide) (by rw [hs2]; rfl) (by decide) dX8_ofTrack_11 ?_
      refine tr_aload_n hO 58 0 rfl dX8_ofTrack_58 ?_
      refine tr_iload_n hO 59 1 rfl dX8_ofTrack_59 ?_
      obtain ⟨v3, μ4, hcall, h⟩ := of_bd h
      refine tr_callI hO 60 (na := 1) (As := [.int a1]) (st := []) (c_X8_lengthOn hX  hcall) rfl (x_v0 (by decide)) rfl rfl wM_X8_83 wI_X8_lengthOn wS_X8_lengthOn wN_X8 wC_X8_lengthOn (by decide +kernel) rfl (by decide) (by decide) (Nat.le_of_ble_eq_true rfl) dX8_ofTrack_60 ?_
      cases h
      exact tr_iret hO 63 hQ rfl dX8_ofTrack_63
    have h := of_f hs2 h
    by_cases hs3 : a2 = 3
    · have h := of_t hs3 h
      refine tr_tabIn hO 11 64 (by rw [hs3]; decide) (by rw [hs3]; decide) (by rw [hs3]; rfl) (by decide) dX8_ofTrack_11 ?_
      refine tr_aload_n hO 64 0 rfl dX8_ofTrack_64 ?_
      refine tr_get hO 65 (k := 0) (x_v0 (by decide)) rfl rfl iX8 (by decide) wF_X8_7 rfl rfl dX8_ofTrack_65 ?_
      refine tr_bipush hO 68 (v := 20) (by decide) dX8_ofTrack_68 ?_
      refine tr_iconst hO 70 (v := 4) (by decide) dX8_ofTrack_70 ?_
      refine tr_iload_n hO 71 1 rfl dX8_ofTrack_71 ?_
      refine tr_imul hO 72 dX8_ofTrack_72 ?_
      refine tr_iadd hO 73 dX8_ofTrack_73 ?_
      refine tr_iload_n hO 74 2 rfl dX8_ofTrack_74 ?_
      refine tr_iadd hO 75 dX8_ofTrack_75 ?_
      refine tr_iconst hO 76 (v := 1) (by decide) dX8_ofTrack_76 ?_
      refine tr_isub hO 77 dX8_ofTrack_77 ?_
      obtain ⟨hg, h⟩ := of_gd h
      refine tr_iald hO 78 (x_v0 (by decide)) a_28 hg dX8_ofTrack_78 ?_
      cases h
      exact tr_iret hO 79 hQ rfl dX8_ofTrack_79
    have h := of_f hs3 h
    by_cases hs4 : a2 = 4
    · have h := of_t hs4 h
      refine tr_tabIn hO 11 64 (by rw [hs4]; decide) (by rw [hs4]; decide) (by rw [hs4]; rfl) (by decide) dX8_ofTrack_11 ?_
      refine tr_aload_n hO 64 0 rfl dX8_ofTrack_64 ?_
      refine tr_get hO 65 (k := 0) (x_v0 (by decide)) rfl rfl iX8 (by decide) wF_X8_7 rfl rfl dX8_ofTrack_65 ?_
      refine tr_bipush hO 68 (v := 20) (by decide) dX8_ofTrack_68 ?_
      refine tr_iconst hO 70 (v := 4) (by decide) dX8_ofTrack_70 ?_
      refine tr_iload_n hO 71 1 rfl dX8_ofTrack_71 ?_
      refine tr_imul hO 72 dX8_ofTrack_72 ?_
      refine tr_iadd hO 73 dX8_ofTrack_73 ?_
      refine tr_iload_n hO 74 2 rfl dX8_ofTrack_74 ?_
      refine tr_iadd hO 75 dX8_ofTrack_75 ?_
      refine tr_iconst hO 76 (v := 1) (by decide) dX8_ofTrack_76 ?_
      refine tr_isub hO 77 dX8_ofTrack_77 ?_
      obtain ⟨hg, h⟩ := of_gd h
      refine tr_iald hO 78 (x_v0 (by decide)) a_28 hg dX8_ofTrack_78 ?_
      cases h
      exact tr_iret hO 79 hQ rfl dX8_ofTrack_79
    have h := of_f hs4 h
    have hn_hs0 : ¬ a2.toInt = 0 := i_ne (by decide) hs0
    have hn_hs1 : ¬ a2.toInt = 1 := i_ne (by decide) hs1
    have hn_hs2 : ¬ a2.toInt = 2 := i_ne (by decide) hs2
    have hn_hs3 : ¬ a2.toInt = 3 := i_ne (by decide) hs3
    have hn_hs4 : ¬ a2.toInt = 4 := i_ne (by decide) hs4
    have hsw : a2.toInt < 0 ∨ (4 : Int) < a2.toInt := by omega
    refine tr_tabD hO 11 80 (by
      rcases hsw with hsw | hsw
      · exact Or.inl hsw
      · exact Or.inr (Or.inl hsw)
      ) (by decide) dX8_ofTrack_11 ?_
    refine tr_bipush hO 80 (v := (-2)) (by decide) dX8_ofTrack_80 ?_
    cases h
    exact tr_iret hO 82 hQ rfl dX8_ofTrack_82
  · have h := of_t hc h
    refine tr_iconst hO 8 (v := (-1)) (by decide) dX8_ofTrack_8 ?_
    cases h
    exact tr_iret hO 9 hQ rfl dX8_ofTrack_9
set_option maxHeartbeats 4000000 in
set_option maxRecDepth 100000 in
theorem c_X8_at {X : xT} (hX : xOK X) {a1 : Int32} {a2 : Int32}  {μ μ' : mT} {r : Int32} (h : f_X8_at a1 a2 μ = some (r, μ')) : CMi X yX8_at cX8_at 3 .int 2 43 [.ref (X.1 27 0), .int a1, .int a2] μ r μ' := by
  refine CMi_of hX (by decide +kernel) (lv := [(0, .ref (X.1 27 0)), (1, .int a1), (2, .int a2)]) (Nat.le_of_ble_eq_true rfl) rfl (fun Γ hO hn hQ => ?_)
  have hO : Ok X RX8 cX8_at 2 43 Γ := hO
  unfold f_X8_at at h
  refine tr_iload_n hO 0 1 rfl dX8_at_0 ?_
  refine tr_bipush hO 1 (v := (-6)) (by decide) dX8_at_1 ?_
  obtain ⟨J1, e_J1, h⟩ := of_lt h
  have J1_T : ∀ (μ2 : mT), J1 μ2 = some (r, μ') → tj X Γ μ2 16 [(0, .ref (X.1 27 0)), (1, .int a1), (2, .int a2)] [] := by
    intro μ2 h
    rw [e_J1] at h
    refine tr_iload_n hO 16 1 rfl dX8_at_16 ?_
    refine tr_if_ge hO 17 53 (by decide) dX8_at_17 (fun hc => ?_) (fun hc => ?_)
    · have h := of_t hc h
      refine tr_iload_n hO 53 2 rfl dX8_at_53 ?_
      refine tr_iconst hO 54 (v := 0) (by decide) dX8_at_54 ?_
      refine tr_aload_n hO 55 0 rfl dX8_at_55 ?_
      refine tr_iload_n hO 56 1 rfl dX8_at_56 ?_
      obtain ⟨v3, μ4, hcall, h⟩ := of_bd h
      refine tr_callI hO 57 (na := 1) (As := [.int a1]) (st := [.int 0, .int a2]) (c_X8_manyOn hX  hcall) rfl (x_v0 (by decide)) rfl rfl wM_X8_72 wI_X8_manyOn wS_X8_manyOn wN_X8 wC_X8_manyOn (by decide +kernel) rfl (by decide) (by decide) (Nat.le_of_ble_eq_true rfl) dX8_at_57 ?_
      refine tr_iconst hO 60 (v := 1) (by decide) dX8_at_60 ?_
      refine tr_isub hO 61 dX8_at_61 ?_
      obtain ⟨v5, μ6, hcall, h⟩ := of_bd h
      refine tr_callS hO 62 (na := 3) (As := [.int a2, .int 0, .int (v3 - 1)]) (st := []) (c_X8_in hX  hcall) rfl wM_X8_55 wT_X8_in wN_X8 wC_X8_in (by decide +kernel) rfl (by decide) (by decide) (Nat.le_of_ble_eq_true rfl) dX8_at_62 ?_
      refine tr_if_eq hO 65 85 (by decide) dX8_at_65 (fun hc => ?_) (fun hc => ?_)
      · have h := of_t hc h
        refine tr_bipush hO 85 (v := (-6)) (by decide) dX8_at_85 ?_
        cases h
        exact tr_iret hO 87 hQ rfl dX8_at_87
      · have h := of_f hc h
        refine tr_aload_n hO 68 0 rfl dX8_at_68 ?_
        refine tr_get hO 69 (k := 0) (x_v0 (by decide)) rfl rfl iX8 (by decide) wF_X8_7 rfl rfl dX8_at_69 ?_
        refine tr_bipush hO 72 (v := 60) (by decide) dX8_at_72 ?_
        refine tr_bipush hO 74 (v := 30) (by decide) dX8_at_74 ?_
        refine tr_iload_n hO 76 1 rfl dX8_at_76 ?_
        refine tr_imul hO 77 dX8_at_77 ?_
        refine tr_iadd hO 78 dX8_at_78 ?_
        refine tr_iload_n hO 79 2 rfl dX8_at_79 ?_
        refine tr_iadd hO 80 dX8_at_80 ?_
        obtain ⟨hg, h⟩ := of_gd h
        refine tr_iald hO 81 (x_v0 (by decide)) a_28 hg dX8_at_81 ?_
        refine tr_goto hO 82 87 (by decide) dX8_at_82 ?_
        cases h
        exact tr_iret hO 87 hQ rfl dX8_at_87
    · have h := of_f hc h
      refine tr_iload_n hO 20 2 rfl dX8_at_20 ?_
      refine tr_iconst hO 21 (v := 0) (by decide) dX8_at_21 ?_
      refine tr_aload_n hO 22 0 rfl dX8_at_22 ?_
      refine tr_get hO 23 (k := 0) (x_v0 (by decide)) rfl rfl iX8 (by decide) wF_X8_7 rfl rfl dX8_at_23 ?_
      refine tr_bipush hO 26 (v := 9) (by decide) dX8_at_26 ?_
      refine tr_iald hO 28 (x_v0 (by decide)) a_28 (by decide) dX8_at_28 ?_
      refine tr_iconst hO 29 (v := 1) (by decide) dX8_at_29 ?_
      refine tr_isub hO 30 dX8_at_30 ?_
      obtain ⟨v7, μ8, hcall, h⟩ := of_bd h
      refine tr_callS hO 31 (na := 3) (As := [.int a2, .int 0, .int ((μ2 28 0 (9 : Int32).toNatClampNeg) - 1)]) (st := []) (c_X8_in hX  hcall) rfl wM_X8_55 wT_X8_in wN_X8 wC_X8_in (by decide +kernel) rfl (by decide) (by decide) (Nat.le_of_ble_eq_true rfl) dX8_at_31 ?_
      refine tr_if_eq hO 34 50 (by decide) dX8_at_34 (fun hc => ?_) (fun hc => ?_)
      · have h := of_t hc h
        refine tr_bipush hO 50 (v := (-6)) (by decide) dX8_at_50 ?_
        cases h
        exact tr_iret hO 52 hQ rfl dX8_at_52
      · have h := of_f hc h
        refine tr_aload_n hO 37 0 rfl dX8_at_37 ?_
        refine tr_get hO 38 (k := 0) (x_v0 (by decide)) rfl rfl iX8 (by decide) wF_X8_7 rfl rfl dX8_at_38 ?_
        refine tr_sipush hO 41 (v := 300) (by decide) dX8_at_41 ?_
        refine tr_iload_n hO 44 2 rfl dX8_at_44 ?_
        refine tr_iadd hO 45 dX8_at_45 ?_
        obtain ⟨hg, h⟩ := of_gd h
        refine tr_iald hO 46 (x_v0 (by decide)) a_28 hg dX8_at_46 ?_
        refine tr_goto hO 47 52 (by decide) dX8_at_47 ?_
        cases h
        exact tr_iret hO 52 hQ rfl dX8_at_52
  refine tr_icmp_eq hO 3 16 (by decide) dX8_at_3 (fun hc => ?_) (fun hc => ?_)
  · have h := of_t hc h
    exact J1_T _ h
  · have h := of_f hc h
    refine tr_aload_n hO 6 0 rfl dX8_at_6 ?_
    refine tr_iload_n hO 7 1 rfl dX8_at_7 ?_
    obtain ⟨v9, μ10, hcall, h⟩ := of_bd h
    refine tr_callI hO 8 (na := 1) (As := [.int a1]) (st := []) (c_X8_isTrack hX  hcall) rfl (x_v0 (by decide)) rfl rfl wM_X8_79 wI_X8_isTrack wS_X8_isTrack wN_X8 wC_X8_isTrack (by decide +kernel) rfl (by decide) (by decide) (Nat.le_of_ble_eq_true rfl) dX8_at_8 ?_
    refine tr_if_ne hO 11 16 (by decide) dX8_at_11 (fun hc => ?_) (fun hc => ?_)
    · have h := of_f hc h
      exact J1_T _ h
    · have h := of_t hc h
      refine tr_iconst hO 14 (v := (-1)) (by decide) dX8_at_14 ?_
      cases h
      exact tr_iret hO 15 hQ rfl dX8_at_15
set_option maxHeartbeats 4000000 in
set_option maxRecDepth 100000 in
theorem c_X8_placeIn {X : xT} (hX : xOK X) {a1 : Int32} {a2 : Int32} {a3 : Int32}  {μ μ' : mT} {r : Int32} (h : f_X8_placeIn a1 a2 a3 μ = some (r, μ')) : CMi X yX8_placeIn cX8_placeIn 5 .int 0 0 [.ref (X.1 27 0), .int a1, .int a2, .int a3] μ r μ' := by
  refine CMi_of hX (by decide +kernel) (lv := [(0, .ref (X.1 27 0)), (1, .int a1), (2, .int a2), (3, .int a3)]) (Nat.le_of_ble_eq_true rfl) rfl (fun Γ hO hn hQ => ?_)
  have hO : Ok X RX8 cX8_placeIn 0 0 Γ := hO
  unfold f_X8_placeIn at h
  refine tr_iconst hO 0 (v := 0) (by decide) dX8_placeIn_0 ?_
  refine tr_istore hO 1 (v := 0) rfl (lv' := [(4, .int 0), (0, .ref (X.1 27 0)), (1, .int a1), (2, .int a2), (3, .int a3)]) hn (by decide) rfl dX8_placeIn_1 ?_
  have L3_T : ∀ (n : Nat) (v1 : Int32) (μ2 : mT), f_X8_placeIn_L3 a1 a2 a3 n v1 μ2 = some (r, μ') → tj X Γ μ2 3 [(0, .ref (X.1 27 0)), (1, .int a1), (2, .int a2), (3, .int a3), (4, .int v1)] [] := by
    intro n
    induction n with
    | zero =>
      intro v1 μ2 h
      rw [f_X8_placeIn_L3] at h
      cases h
    | succ n ih =>
      intro v1 μ2 h
      rw [f_X8_placeIn_L3] at h
      refine tr_iload hO 3 4 rfl dX8_placeIn_3 ?_
      refine tr_iload_n hO 5 2 rfl dX8_placeIn_5 ?_
      refine tr_icmp_ge hO 6 31 (by decide) dX8_placeIn_6 (fun hc => ?_) (fun hc => ?_)
      · have h := of_t hc h
        refine tr_bipush hO 31 (v := (-6)) (by decide) dX8_placeIn_31 ?_
        cases h
        exact tr_iret hO 33 hQ rfl dX8_placeIn_33
      · have h := of_f hc h
        refine tr_aload_n hO 9 0 rfl dX8_placeIn_9 ?_
        refine tr_get hO 10 (k := 0) (x_v0 (by decide)) rfl rfl iX8 (by decide) wF_X8_7 rfl rfl dX8_placeIn_10 ?_
        refine tr_iload_n hO 13 1 rfl dX8_placeIn_13 ?_
        refine tr_iload hO 14 4 rfl dX8_placeIn_14 ?_
        refine tr_iadd hO 16 dX8_placeIn_16 ?_
        obtain ⟨hg, h⟩ := of_gd h
        refine tr_iald hO 17 (x_v0 (by decide)) a_28 hg dX8_placeIn_17 ?_
        refine tr_iload_n hO 18 3 rfl dX8_placeIn_18 ?_
        refine tr_icmp_ne hO 19 25 (by decide) dX8_placeIn_19 (fun hc => ?_) (fun hc => ?_)
        · have h := of_f hc h
          obtain ⟨v3, e_v3, h⟩ := of_lt h
          refine tr_iinc hO 25 (q := 4) (v := v3) (lv' := [(4, .int v3), (0, .ref (X.1 27 0)), (1, .int a1), (2, .int a2), (3, .int a3)]) hn rfl (by rw [e_v3]; rfl) (by decide) rfl dX8_placeIn_25 ?_
          refine tr_goto hO 28 3 (by decide) dX8_placeIn_28 ?_
          refine tr_sub [1, 2, 3, 4, 0] rfl ?_
          exact ih _ _ h
        · have h := of_t hc h
          refine tr_iload hO 22 4 rfl dX8_placeIn_22 ?_
          cases h
          exact tr_iret hO 24 hQ rfl dX8_placeIn_24
  refine tr_sub [1, 2, 3, 4, 0] rfl ?_
  exact L3_T _ _ _ h
set_option maxHeartbeats 4000000 in
set_option maxRecDepth 100000 in
theorem c_X8_trackOf {X : xT} (hX : xOK X) {a1 : Int32}  {μ μ' : mT} {r : Int32} (h : f_X8_trackOf a1 μ = some (r, μ')) : CMi X yX8_trackOf cX8_trackOf 3 .int 1 24 [.ref (X.1 27 0), .int a1] μ r μ' := by
  refine CMi_of hX (by decide +kernel) (lv := [(0, .ref (X.1 27 0)), (1, .int a1)]) (Nat.le_of_ble_eq_true rfl) rfl (fun Γ hO hn hQ => ?_)
  have hO : Ok X RX8 cX8_trackOf 1 24 Γ := hO
  unfold f_X8_trackOf at h
  refine tr_iconst hO 0 (v := 0) (by decide) dX8_trackOf_0 ?_
  refine tr_istore_n hO 1 (v := 0) rfl (lv' := [(2, .int 0), (0, .ref (X.1 27 0)), (1, .int a1)]) hn rfl (by decide) rfl dX8_trackOf_1 ?_
  have L2_T : ∀ (n : Nat) (v1 : Int32) (μ2 : mT), f_X8_trackOf_L2 a1 n v1 μ2 = some (r, μ') → tj X Γ μ2 2 [(0, .ref (X.1 27 0)), (1, .int a1), (2, .int v1)] [] := by
    intro n
    induction n with
    | zero =>
      intro v1 μ2 h
      rw [f_X8_trackOf_L2] at h
      cases h
    | succ n ih =>
      intro v1 μ2 h
      rw [f_X8_trackOf_L2] at h
      refine tr_iload_n hO 2 2 rfl dX8_trackOf_2 ?_
      refine tr_aload_n hO 3 0 rfl dX8_trackOf_3 ?_
      refine tr_get hO 4 (k := 0) (x_v0 (by decide)) rfl rfl iX8 (by decide) wF_X8_7 rfl rfl dX8_trackOf_4 ?_
      refine tr_bipush hO 7 (v := 7) (by decide) dX8_trackOf_7 ?_
      refine tr_iald hO 9 (x_v0 (by decide)) a_28 (by decide) dX8_trackOf_9 ?_
      refine tr_icmp_ge hO 10 41 (by decide) dX8_trackOf_10 (fun hc => ?_) (fun hc => ?_)
      · have h := of_t hc h
        refine tr_bipush hO 41 (v := (-6)) (by decide) dX8_trackOf_41 ?_
        cases h
        exact tr_iret hO 43 hQ rfl dX8_trackOf_43
      · have h := of_f hc h
        refine tr_aload_n hO 13 0 rfl dX8_trackOf_13 ?_
        refine tr_bipush hO 14 (v := 60) (by decide) dX8_trackOf_14 ?_
        refine tr_bipush hO 16 (v := 30) (by decide) dX8_trackOf_16 ?_
        refine tr_iload_n hO 18 2 rfl dX8_trackOf_18 ?_
        refine tr_imul hO 19 dX8_trackOf_19 ?_
        refine tr_iadd hO 20 dX8_trackOf_20 ?_
        refine tr_aload_n hO 21 0 rfl dX8_trackOf_21 ?_
        refine tr_iload_n hO 22 2 rfl dX8_trackOf_22 ?_
        obtain ⟨v3, μ4, hcall, h⟩ := of_bd h
        refine tr_callI hO 23 (na := 1) (As := [.int v1]) (st := [.int (60 + (30 * v1)), .ref (X.1 27 0)]) (c_X8_manyOn hX  hcall) rfl (x_v0 (by decide)) rfl rfl wM_X8_72 wI_X8_manyOn wS_X8_manyOn wN_X8 wC_X8_manyOn (by decide +kernel) rfl (by decide) (by decide) (Nat.le_of_ble_eq_true rfl) dX8_trackOf_23 ?_
        refine tr_iload_n hO 26 1 rfl dX8_trackOf_26 ?_
        obtain ⟨v5, μ6, hcall, h⟩ := of_bd h
        refine tr_callI hO 27 (na := 3) (As := [.int (60 + (30 * v1)), .int v3, .int a1]) (st := []) (c_X8_placeIn hX  hcall) rfl (x_v0 (by decide)) rfl rfl wM_X8_142 wI_X8_placeIn wS_X8_placeIn wN_X8 wC_X8_placeIn (by decide +kernel) rfl (by decide) (by decide) (Nat.le_of_ble_eq_true rfl) dX8_trackOf_27 ?_
        refine tr_if_lt hO 30 35 (by decide) dX8_trackOf_30 (fun hc => ?_) (fun hc => ?_)
        · have h := of_t hc h
          obtain ⟨v7, e_v7, h⟩ := of_lt h
          refine tr_iinc hO 35 (q := 2) (v := v7) (lv' := [(2, .int v7), (0, .ref (X.1 27 0)), (1, .int a1)]) hn rfl (by rw [e_v7]; rfl) (by decide) rfl dX8_trackOf_35 ?_
          refine tr_goto hO 38 2 (by decide) dX8_trackOf_38 ?_
          refine tr_sub [1, 2, 0] rfl ?_
          exact ih _ _ h
        · have h := of_f hc h
          refine tr_iload_n hO 33 2 rfl dX8_trackOf_33 ?_
          cases h
          exact tr_iret hO 34 hQ rfl dX8_trackOf_34
  refine tr_sub [1, 2, 0] rfl ?_
  exact L2_T _ _ _ h
