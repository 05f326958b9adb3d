set_option maxHeartbeats 4000000 in
set_option maxRecDepth 100000 in
theorem c_X8_ofWagon {X : xT} (hX : xOK X) {a1 : Int32} {a2 : Int32}  {μ μ' : mT} {r : Int32} (h : f_X8_ofWagon a1 a2 μ = some (r, μ')) : CMi X yX8_ofWagon cX8_ofWagon 6 .int 2 46 [.ref (X.1 27 0), .int a1, .int a2] μ r μ' := by
  refine CMi_of hX (by decide +kernel) (lv := [(0, .ref (X.1 27 0)), (1, .int a1), (2, .int a2)]) (Nat.le_of_ble_eq_true rfl) rfl (fun Γ hO hn hQ => ?_)
  have hO : Ok X RX8 cX8_ofWagon 2 46 Γ := hO
  unfold f_X8_ofWagon at h
  refine tr_aload_n hO 0 0 rfl dX8_ofWagon_0 ?_
  refine tr_iload_n hO 1 1 rfl dX8_ofWagon_1 ?_
  obtain ⟨v1, μ2, hcall, h⟩ := of_bd h
  refine tr_callI hO 2 (na := 1) (As := [.int a1]) (st := []) (c_X8_isWagon hX  hcall) rfl (x_v0 (by decide)) rfl rfl wM_X8_123 wI_X8_isWagon wS_X8_isWagon wN_X8 wC_X8_isWagon (by decide +kernel) rfl (by decide) (by decide) (Nat.le_of_ble_eq_true rfl) dX8_ofWagon_2 ?_
  refine tr_if_ne hO 5 10 (by decide) dX8_ofWagon_5 (fun hc => ?_) (fun hc => ?_)
  · have h := of_f hc h
    refine tr_aload_n hO 10 0 rfl dX8_ofWagon_10 ?_
    refine tr_iload_n hO 11 1 rfl dX8_ofWagon_11 ?_
    obtain ⟨v3, μ4, hcall, h⟩ := of_bd h
    refine tr_callI hO 12 (na := 1) (As := [.int a1]) (st := []) (c_X8_trackOf hX  hcall) rfl (x_v0 (by decide)) rfl rfl wM_X8_146 wI_X8_trackOf wS_X8_trackOf wN_X8 wC_X8_trackOf (by decide +kernel) rfl (by decide) (by decide) (Nat.le_of_ble_eq_true rfl) dX8_ofWagon_12 ?_
    refine tr_istore_n hO 15 (v := v3) rfl (lv' := [(3, .int v3), (0, .ref (X.1 27 0)), (1, .int a1), (2, .int a2)]) hn rfl (by decide) rfl dX8_ofWagon_15 ?_
    refine tr_aload_n hO 16 1 rfl dX8_ofWagon_16 ?_
    refine tr_sipush hO 17 (v := 300) (by decide) dX8_ofWagon_17 ?_
    refine tr_aload_n hO 20 1 rfl dX8_ofWagon_20 ?_
    refine tr_get hO 21 (k := 0) (x_v0 (by decide)) rfl rfl iX8 (by decide) wF_X8_7 rfl rfl dX8_ofWagon_21 ?_
    refine tr_bipush hO 24 (v := 9) (by decide) dX8_ofWagon_24 ?_
    refine tr_iald hO 26 (x_v0 (by decide)) a_28 (by decide) dX8_ofWagon_26 ?_
    refine tr_iload_n hO 27 2 rfl dX8_ofWagon_27 ?_
    obtain ⟨v5, μ6, hcall, h⟩ := of_bd h
    refine tr_callI hO 28 (na := 3) (As := [.int 300, .int (μ4 28 0 (9 : Int32).toNatClampNeg), .int a1]) (st := []) (c_X8_placeIn hX  hcall) rfl (x_v0 (by decide)) rfl rfl wM_X8_142 wI_X8_placeIn wS_X8_placeIn wN_X8 wC_X8_placeIn (by decide +kernel) rfl (by decide) (by decide) (Nat.le_of_ble_eq_true rfl) dX8_ofWagon_28 ?_
    refine tr_istore hO 31 (v := v5) rfl (lv' := [(4, .int v5), (3, .int v3), (0, .ref (X.1 27 0)), (1, .int a1), (2, .int a2)]) hn (by decide) rfl dX8_ofWagon_31 ?_
    refine tr_iload_n hO 33 1 rfl dX8_ofWagon_33 ?_
    obtain ⟨J7, e_J7, h⟩ := of_lt h
    have J7_T : ∀ (v8 : Int32) (μ9 : mT), J7 v8 μ9 = some (r, μ') → tj X Γ μ9 59 [(0, .ref (X.1 27 0)), (1, .int a1), (2, .int a2), (3, .int v3), (4, .int v5)] [.int v8] := by
      intro v8 μ9 h
      rw [e_J7] at h
      refine tr_istore hO 59 (v := v8) rfl (lv' := [(5, .int v8), (0, .ref (X.1 27 0)), (1, .int a1), (2, .int a2), (3, .int v3), (4, .int v5)]) hn (by decide) rfl dX8_ofWagon_59 ?_
      refine tr_iload_n hO 61 3 rfl dX8_ofWagon_61 ?_
      by_cases hs0 : a2 = 0
      · have h := of_t hs0 h
        refine tr_tabIn hO 62 104 (by rw [hs0]; decide) (by rw [hs0]; decide) (by rw [hs0]; rfl) (by decide) dX8_ofWagon_62 ?_
        refine tr_aload_n hO 104 1 rfl dX8_ofWagon_104 ?_
        refine tr_iload_n hO 105 2 rfl dX8_ofWagon_105 ?_
        obtain ⟨v10, μ11, hcall, h⟩ := of_bd h
        refine tr_callI hO 106 (na := 1) (As := [.int a1]) (st := []) (c_X8_lengthOf hX  hcall) rfl (x_v0 (by decide)) rfl rfl wM_X8_69 wI_X8_lengthOf wS_X8_lengthOf wN_X8 wC_X8_lengthOf (by decide +kernel) rfl (by decide) (by decide) (Nat.le_of_ble_eq_true rfl) dX8_ofWagon_106 ?_
        cases h
        exact tr_iret hO 109 hQ rfl dX8_ofWagon_109
      have h := of_f hs0 h
      by_cases hs1 : a2 = 1
      · have h := of_t hs1 h
        refine tr_tabIn hO 62 110 (by rw [hs1]; decide) (by rw [hs1]; decide) (by rw [hs1]; rfl) (by decide) dX8_ofWagon_62 ?_
        refine tr_iload_n hO 110 4 rfl dX8_ofWagon_110 ?_
        cases h
        exact tr_iret hO 111 hQ rfl dX8_ofWagon_111
      have h := of_f hs1 h
      by_cases hs2 : a2 = 2
      · have h := of_t hs2 h
        refine tr_tabIn hO 62 112 (by rw [hs2]; decide) (by rw [hs2]; decide) (by rw [hs2]; rfl) (by decide) dX8_ofWagon_62 ?_
        refine tr_iload_n hO 112 4 rfl dX8_ofWagon_112 ?_
        refine tr_if_ge hO 113 121 (by decide) dX8_ofWagon_113 (fun hc => ?_) (fun hc => ?_)
        · have h := of_t hc h
          refine tr_iload hO 121 0 rfl dX8_ofWagon_121 ?_
          cases h
          exact tr_iret hO 123 hQ rfl dX8_ofWagon_123
        · have h := of_f hc h
          refine tr_iload hO 116 5 rfl dX8_ofWagon_116 ?_
          refine tr_goto hO 118 123 (by decide) dX8_ofWagon_118 ?_
          cases h
          exact tr_iret hO 123 hQ rfl dX8_ofWagon_123
      have h := of_f hs2 h
      by_cases hs3 : a2 = 3
      · have h := of_t hs3 h
        refine tr_tabIn hO 62 124 (by rw [hs3]; decide) (by rw [hs3]; decide) (by rw [hs3]; rfl) (by decide) dX8_ofWagon_62 ?_
        refine tr_iload hO 124 5 rfl dX8_ofWagon_124 ?_
        refine tr_if_lt hO 126 133 (by decide) dX8_ofWagon_126 (fun hc => ?_) (fun hc => ?_)
        · have h := of_t hc h
          refine tr_iconst hO 133 (v := 0) (by decide) dX8_ofWagon_133 ?_
          cases h
          exact tr_iret hO 134 hQ rfl dX8_ofWagon_134
        · have h := of_f hc h
          refine tr_iconst hO 129 (v := 1) (by decide) dX8_ofWagon_129 ?_
          refine tr_goto hO 130 134 (by decide) dX8_ofWagon_130 ?_
          cases h
          exact tr_iret hO 134 hQ rfl dX8_ofWagon_134
      have h := of_f hs3 h
      by_cases hs4 : a2 = 4
      · have h := of_t hs4 h
        refine tr_tabIn hO 62 135 (by rw [hs4]; decide) (by rw [hs4]; decide) (by rw [hs4]; rfl) (by decide) dX8_ofWagon_62 ?_
        refine tr_aload_n hO 135 1 rfl dX8_ofWagon_135 ?_
        refine tr_get hO 136 (k := 0) (x_v0 (by decide)) rfl rfl iX8 (by decide) wF_X8_7 rfl rfl dX8_ofWagon_136 ?_
        refine tr_sipush hO 139 (v := 330) (by decide) dX8_ofWagon_139 ?_
        refine tr_iconst hO 142 (v := 4) (by decide) dX8_ofWagon_142 ?_
        refine tr_iload_n hO 143 2 rfl dX8_ofWagon_143 ?_
        refine tr_imul hO 144 dX8_ofWagon_144 ?_
        refine tr_iadd hO 145 dX8_ofWagon_145 ?_
        refine tr_iconst hO 146 (v := 1) (by decide) dX8_ofWagon_146 ?_
        refine tr_iadd hO 147 dX8_ofWagon_147 ?_
        obtain ⟨hg, h⟩ := of_gd h
        refine tr_iald hO 148 (x_v0 (by decide)) a_28 hg dX8_ofWagon_148 ?_
        cases h
        exact tr_iret hO 149 hQ rfl dX8_ofWagon_149
      have h := of_f hs4 h
      by_cases hs5 : a2 = 5
      · have h := of_t hs5 h
        refine tr_tabIn hO 62 150 (by rw [hs5]; decide) (by rw [hs5]; decide) (by rw [hs5]; rfl) (by decide) dX8_ofWagon_62 ?_
        refine tr_aload_n hO 150 1 rfl dX8_ofWagon_150 ?_
        refine tr_get hO 151 (k := 0) (x_v0 (by decide)) rfl rfl iX8 (by decide) wF_X8_7 rfl rfl dX8_ofWagon_151 ?_
        refine tr_sipush hO 154 (v := 330) (by decide) dX8_ofWagon_154 ?_
        refine tr_iconst hO 157 (v := 4) (by decide) dX8_ofWagon_157 ?_
        refine tr_iload_n hO 158 2 rfl dX8_ofWagon_158 ?_
        refine tr_imul hO 159 dX8_ofWagon_159 ?_
        refine tr_iadd hO 160 dX8_ofWagon_160 ?_
        refine tr_iconst hO 161 (v := 2) (by decide) dX8_ofWagon_161 ?_
        refine tr_iadd hO 162 dX8_ofWagon_162 ?_
        obtain ⟨hg, h⟩ := of_gd h
        refine tr_iald hO 163 (x_v0 (by decide)) a_28 hg dX8_ofWagon_163 ?_
        cases h
        exact tr_iret hO 164 hQ rfl dX8_ofWagon_164
      have h := of_f hs5 h
      by_cases hs6 : a2 = 6
      · have h := of_t hs6 h
        refine tr_tabIn hO 62 165 (by rw [hs6]; decide) (by rw [hs6]; decide) (by rw [hs6]; rfl) (by decide) dX8_ofWagon_62 ?_
        refine tr_aload_n hO 165 1 rfl dX8_ofWagon_165 ?_
        refine tr_iload_n hO 166 2 rfl dX8_ofWagon_166 ?_
        obtain ⟨v12, μ13, hcall, h⟩ := of_bd h
        refine tr_callI hO 167 (na := 1) (As := [.int a1]) (st := []) (c_X8_trainOf hX  hcall) rfl (x_v0 (by decide)) rfl rfl wM_X8_130 wI_X8_trainOf wS_X8_trainOf wN_X8 wC_X8_trainOf (by decide +kernel) rfl (by decide) (by decide) (Nat.le_of_ble_eq_true rfl) dX8_ofWagon_167 ?_
        cases h
        exact tr_iret hO 170 hQ rfl dX8_ofWagon_170
      have h := of_f hs6 h
      have hn_hs0 : ¬ a2.toInt = 0 := i_ne (by decide) hs0
      have hn_hs1 : ¬ a2.toInt = 1 := i_ne (by decide) hs1
      have hn_hs2 : ¬ a2.toInt = 2 := i_ne (by decide) hs2
      have hn_hs3 : ¬ a2.toInt = 3 := i_ne (by decide) hs3
      have hn_hs4 : ¬ a2.toInt = 4 := i_ne (by decide) hs4
      have hn_hs5 : ¬ a2.toInt = 5 := i_ne (by decide) hs5
      have hn_hs6 : ¬ a2.toInt = 6 := i_ne (by decide) hs6
      have hsw : a2.toInt < 0 ∨ (6 : Int) < a2.toInt := by omega
      refine tr_tabD hO 62 171 (by
        rcases hsw with hsw | hsw
        · exact Or.inl hsw
        · exact Or.inr (Or.inl hsw)
        ) (by decide) dX8_ofWagon_62 ?_
      refine tr_iload_n hO 171 3 rfl dX8_ofWagon_171 ?_
      refine tr_bipush hO 172 (v := 7) (by decide) dX8_ofWagon_172 ?_
      refine tr_icmp_ne hO 174 182 (by decide) dX8_ofWagon_174 (fun hc => ?_) (fun hc => ?_)
      · have h := of_f hc h
        refine tr_bipush hO 182 (v := (-2)) (by decide) dX8_ofWagon_182 ?_
        cases h
        exact tr_iret hO 184 hQ rfl dX8_ofWagon_184
      · have h := of_t hc h
        refine tr_iload hO 177 0 rfl dX8_ofWagon_177 ?_
        refine tr_goto hO 179 184 (by decide) dX8_ofWagon_179 ?_
        cases h
        exact tr_iret hO 184 hQ rfl dX8_ofWagon_184
    refine tr_if_ge hO 34 42 (by decide) dX8_ofWagon_34 (fun hc => ?_) (fun hc => ?_)
    · have h := of_t hc h
      refine tr_aload_n hO 42 2 rfl dX8_ofWagon_42 ?_
      refine tr_bipush hO 43 (v := 60) (by decide) dX8_ofWagon_43 ?_
      refine tr_bipush hO 45 (v := 30) (by decide) dX8_ofWagon_45 ?_
      refine tr_iload_n hO 47 1 rfl dX8_ofWagon_47 ?_
      refine tr_imul hO 48 dX8_ofWagon_48 ?_
      refine tr_iadd hO 49 dX8_ofWagon_49 ?_
      refine tr_aload_n hO 50 2 rfl dX8_ofWagon_50 ?_
      refine tr_iload_n hO 51 1 rfl dX8_ofWagon_51 ?_
      obtain ⟨v14, μ15, hcall, h⟩ := of_bd h
      refine tr_callI hO 52 (na := 1) (As := [.int v3]) (st := [.int (60 + (30 * v3)), .ref (X.1 27 0)]) (c_X8_manyOn hX  hcall) rfl (x_v0 (by decide)) rfl rfl wM_X8_72 wI_X8_manyOn wS_X8_manyOn wN_X8 wC_X8_manyOn (by decide +kernel) rfl (by decide) (by decide) (Nat.le_of_ble_eq_true rfl) dX8_ofWagon_52 ?_
      refine tr_iload_n hO 55 3 rfl dX8_ofWagon_55 ?_
      obtain ⟨v16, μ17, hcall, h⟩ := of_bd h
      refine tr_callI hO 56 (na := 3) (As := [.int (60 + (30 * v3)), .int v14, .int a1]) (st := []) (c_X8_placeIn hX  hcall) rfl (x_v0 (by decide)) rfl rfl wM_X8_142 wI_X8_placeIn wS_X8_placeIn wN_X8 wC_X8_placeIn (by decide +kernel) rfl (by decide) (by decide) (Nat.le_of_ble_eq_true rfl) dX8_ofWagon_56 ?_
      refine tr_sub [2, 3, 4, 1, 0] rfl ?_
      exact J7_T _ _ h
    · have h := of_f hc h
      refine tr_bipush hO 37 (v := (-6)) (by decide) dX8_ofWagon_37 ?_
      refine tr_goto hO 39 59 (by decide) dX8_ofWagon_39 ?_
      refine tr_sub [2, 3, 4, 1, 0] rfl ?_
      exact J7_T _ _ h
  · have h := of_t hc h
    refine tr_iconst hO 8 (v := (-1)) (by decide) dX8_ofWagon_8 ?_
    cases h
    exact tr_iret hO 9 hQ rfl dX8_ofWagon_9
set_option maxHeartbeats 4000000 in
set_option maxRecDepth 100000 in
theorem c_X8_ofTrain {X : xT} (hX : xOK X) {a1 : Int32} {a2 : Int32}  {μ μ' : mT} {r : Int32} (h : f_X8_ofTrain a1 a2 μ = some (r, μ')) : CMi X yX8_ofTrain cX8_ofTrain 4 .int 2 45 [.ref (X.1 27 0), .int a1, .int a2] μ r μ' := by
  refine CMi_of hX (by decide +kernel) (lv := [(0, .ref (X.1 27 0)), (1, .int a1), (2, .int a2)]) (Nat.le_of_ble_eq_true rfl) rfl (fun Γ hO hn hQ => ?_)
  have hO : Ok X RX8 cX8_ofTrain 2 45 Γ := hO
  unfold f_X8_ofTrain at h
  refine tr_aload_n hO 0 0 rfl dX8_ofTrain_0 ?_
  refine tr_iload_n hO 1 1 rfl dX8_ofTrain_1 ?_
  obtain ⟨v1, μ2, hcall, h⟩ := of_bd h
  refine tr_callI hO 2 (na := 1) (As := [.int a1]) (st := []) (c_X8_isTrain hX  hcall) rfl (x_v0 (by decide)) rfl rfl wM_X8_133 wI_X8_isTrain wS_X8_isTrain wN_X8 wC_X8_isTrain (by decide +kernel) rfl (by decide) (by decide) (Nat.le_of_ble_eq_true rfl) dX8_ofTrain_2 ?_
  refine tr_if_ne hO 5 10 (by decide) dX8_ofTrain_5 (fun hc => ?_) (fun hc => ?_)
  · have h := of_f hc h
    refine tr_sipush hO 10 (v := 450) (by decide) dX8_ofTrain_10 ?_
    refine tr_bipush hO 13 (v := 10) (by decide) dX8_ofTrain_13 ?_
    refine tr_iload_n hO 15 1 rfl dX8_ofTrain_15 ?_
    refine tr_imul hO 16 dX8_ofTrain_16 ?_
    refine tr_iadd hO 17 dX8_ofTrain_17 ?_
    obtain ⟨v3, e_v3, h⟩ := of_lt h
    refine tr_istore_n hO 18 (v := v3) e_v3 (lv' := [(3, .int v3), (0, .ref (X.1 27 0)), (1, .int a1), (2, .int a2)]) hn rfl (by decide) rfl dX8_ofTrain_18 ?_
    refine tr_iload_n hO 19 3 rfl dX8_ofTrain_19 ?_
    refine tr_iconst hO 20 (v := 2) (by decide) dX8_ofTrain_20 ?_
    refine tr_bipush hO 21 (v := 9) (by decide) dX8_ofTrain_21 ?_
    obtain ⟨v4, μ5, hcall, h⟩ := of_bd h
    refine tr_callS hO 23 (na := 3) (As := [.int a2, .int 2, .int 9]) (st := []) (c_X8_in hX  hcall) rfl wM_X8_55 wT_X8_in wN_X8 wC_X8_in (by decide +kernel) rfl (by decide) (by decide) (Nat.le_of_ble_eq_true rfl) dX8_ofTrain_23 ?_
    refine tr_if_eq hO 26 57 (by decide) dX8_ofTrain_26 (fun hc => ?_) (fun hc => ?_)
    · have h := of_t hc h
      refine tr_iload_n hO 57 3 rfl dX8_ofTrain_57 ?_
      refine tr_if_ne hO 58 72 (by decide) dX8_ofTrain_58 (fun hc => ?_) (fun hc => ?_)
      · have h := of_f hc h
        refine tr_iload_n hO 72 3 rfl dX8_ofTrain_72 ?_
        refine tr_iconst hO 73 (v := 1) (by decide) dX8_ofTrain_73 ?_
        refine tr_icmp_ne hO 74 86 (by decide) dX8_ofTrain_74 (fun hc => ?_) (fun hc => ?_)
        · have h := of_f hc h
          refine tr_iload_n hO 86 3 rfl dX8_ofTrain_86 ?_
          refine tr_bipush hO 87 (v := 10) (by decide) dX8_ofTrain_87 ?_
          refine tr_icmp_ne hO 89 110 (by decide) dX8_ofTrain_89 (fun hc => ?_) (fun hc => ?_)
          · have h := of_f hc h
            refine tr_bipush hO 110 (v := (-2)) (by decide) dX8_ofTrain_110 ?_
            cases h
            exact tr_iret hO 112 hQ rfl dX8_ofTrain_112
          · have h := of_t hc h
            refine tr_aload_n hO 92 1 rfl dX8_ofTrain_92 ?_
            refine tr_iload_n hO 93 0 rfl dX8_ofTrain_93 ?_
            refine tr_iconst hO 94 (v := 2) (by decide) dX8_ofTrain_94 ?_
            refine tr_iadd hO 95 dX8_ofTrain_95 ?_
            refine tr_aload_n hO 96 1 rfl dX8_ofTrain_96 ?_
            refine tr_get hO 97 (k := 0) (x_v0 (by decide)) rfl rfl iX8 (by decide) wF_X8_7 rfl rfl dX8_ofTrain_97 ?_
            refine tr_iload_n hO 100 0 rfl dX8_ofTrain_100 ?_
            refine tr_iconst hO 101 (v := 1) (by decide) dX8_ofTrain_101 ?_
            refine tr_iadd hO 102 dX8_ofTrain_102 ?_
            obtain ⟨hg, h⟩ := of_gd h
            refine tr_iald hO 103 (x_v0 (by decide)) a_28 hg dX8_ofTrain_103 ?_
            obtain ⟨v6, μ7, hcall, h⟩ := of_bd h
            refine tr_callI hO 104 (na := 2) (As := [.int (v3 + 2), .int (μ5 28 0 (v3 + 1).toNatClampNeg)]) (st := []) (c_X8_lengths hX  hcall) rfl (x_v0 (by decide)) rfl rfl wM_X8_75 wI_X8_lengths wS_X8_lengths wN_X8 wC_X8_lengths (by decide +kernel) rfl (by decide) (by decide) (Nat.le_of_ble_eq_true rfl) dX8_ofTrain_104 ?_
            refine tr_goto hO 107 112 (by decide) dX8_ofTrain_107 ?_
            cases h
            exact tr_iret hO 112 hQ rfl dX8_ofTrain_112
        · have h := of_t hc h
          refine tr_aload_n hO 77 1 rfl dX8_ofTrain_77 ?_
          refine tr_get hO 78 (k := 0) (x_v0 (by decide)) rfl rfl iX8 (by decide) wF_X8_7 rfl rfl dX8_ofTrain_78 ?_
          refine tr_iload_n hO 81 0 rfl dX8_ofTrain_81 ?_
          obtain ⟨hg, h⟩ := of_gd h
          refine tr_iald hO 82 (x_v0 (by decide)) a_28 hg dX8_ofTrain_82 ?_
          refine tr_goto hO 83 112 (by decide) dX8_ofTrain_83 ?_
          cases h
          exact tr_iret hO 112 hQ rfl dX8_ofTrain_112
      · have h := of_t hc h
        refine tr_aload_n hO 61 1 rfl dX8_ofTrain_61 ?_
        refine tr_get hO 62 (k := 0) (x_v0 (by decide)) rfl rfl iX8 (by decide) wF_X8_7 rfl rfl dX8_ofTrain_62 ?_
        refine tr_iload_n hO 65 0 rfl dX8_ofTrain_65 ?_
        refine tr_iconst hO 66 (v := 1) (by decide) dX8_ofTrain_66 ?_
        refine tr_iadd hO 67 dX8_ofTrain_67 ?_
        obtain ⟨hg, h⟩ := of_gd h
        refine tr_iald hO 68 (x_v0 (by decide)) a_28 hg dX8_ofTrain_68 ?_
        refine tr_goto hO 69 112 (by decide) dX8_ofTrain_69 ?_
        cases h
        exact tr_iret hO 112 hQ rfl dX8_ofTrain_112
    · have h := of_f hc h
      refine tr_iload_n hO 29 3 rfl dX8_ofTrain_29 ?_
      refine tr_iconst hO 30 (v := 2) (by decide) dX8_ofTrain_30 ?_
      refine tr_isub hO 31 dX8_ofTrain_31 ?_
      refine tr_aload_n hO 32 1 rfl dX8_ofTrain_32 ?_
      refine tr_get hO 33 (k := 0) (x_v0 (by decide)) rfl rfl iX8 (by decide) wF_X8_7 rfl rfl dX8_ofTrain_33 ?_
      refine tr_iload_n hO 36 0 rfl dX8_ofTrain_36 ?_
      refine tr_iconst hO 37 (v := 1) (by decide) dX8_ofTrain_37 ?_
      refine tr_iadd hO 38 dX8_ofTrain_38 ?_
      obtain ⟨hg, h⟩ := of_gd h
      refine tr_iald hO 39 (x_v0 (by decide)) a_28 hg dX8_ofTrain_39 ?_
      refine tr_icmp_ge hO 40 54 (by decide) dX8_ofTrain_40 (fun hc => ?_) (fun hc => ?_)
      · have h := of_t hc h
        refine tr_bipush hO 54 (v := (-6)) (by decide) dX8_ofTrain_54 ?_
        cases h
        exact tr_iret hO 56 hQ rfl dX8_ofTrain_56
      · have h := of_f hc h
        refine tr_aload_n hO 43 1 rfl dX8_ofTrain_43 ?_
        refine tr_get hO 44 (k := 0) (x_v0 (by decide)) rfl rfl iX8 (by decide) wF_X8_7 rfl rfl dX8_ofTrain_44 ?_
        refine tr_iload_n hO 47 0 rfl dX8_ofTrain_47 ?_
        refine tr_iload_n hO 48 3 rfl dX8_ofTrain_48 ?_
        refine tr_iadd hO 49 dX8_ofTrain_49 ?_
        obtain ⟨hg, h⟩ := of_gd h
        refine tr_iald hO 50 (x_v0 (by decide)) a_28 hg dX8_ofTrain_50 ?_
        refine tr_goto hO 51 56 (by decide) dX8_ofTrain_51 ?_
        cases h
        exact tr_iret hO 56 hQ rfl dX8_ofTrain_56
  · have h := of_t hc h
    refine tr_iconst hO 8 (v := (-1)) (by decide) dX8_ofTrain_8 ?_
    cases h
    exact tr_iret hO 9 hQ rfl dX8_ofTrain_9
set_option maxHeartbeats 4000000 in
set_option maxRecDepth 100000 in
theorem c_X8_count {X : xT} (hX : xOK X) {a1 : Int32}  {μ μ' : mT} {r : Int32} (h : f_X8_count a1 μ = some (r, μ')) : CMi X yX8_count cX8_count 2 .int 3 65 [.ref (X.1 27 0), .int a1] μ r μ' := by
  refine CMi_of hX (by decide +kernel) (lv := [(0, .ref (X.1 27 0)), (1, .int a1)]) (Nat.le_of_ble_eq_true rfl) rfl (fun Γ hO hn hQ => ?_)
  have hO : Ok X RX8 cX8_count 3 65 Γ := hO
  unfold f_X8_count at h
  refine tr_iload_n hO 0 1 rfl dX8_count_0 ?_
  refine tr_bipush hO 1 (v := 15) (by decide) dX8_count_1 ?_
  refine tr_bipush hO 3 (v := 20) (by decide) dX8_count_3 ?_
  obtain ⟨v1, μ2, hcall, h⟩ := of_bd h
  refine tr_callS hO 5 (na := 3) (As := [.int a1, .int 15, .int 20]) (st := []) (c_X8_in hX  hcall) rfl wM_X8_55 wT_X8_in wN_X8 wC_X8_in (by decide +kernel) rfl (by decide) (by decide) (Nat.le_of_ble_eq_true rfl) dX8_count_5 ?_
  refine tr_if_eq hO 8 21 (by decide) dX8_count_8 (fun hc => ?_) (fun hc => ?_)
  · have h := of_t hc h
    refine tr_iload_n hO 21 1 rfl dX8_count_21 ?_
    by_cases hs0 : a1 = 0
    · have h := of_t hs0 h
      refine tr_tabIn hO 22 92 (by rw [hs0]; decide) (by rw [hs0]; decide) (by rw [hs0]; rfl) (by decide) dX8_count_22 ?_
      refine tr_aload_n hO 92 0 rfl dX8_count_92 ?_
      refine tr_get hO 93 (k := 0) (x_v0 (by decide)) rfl rfl iX8 (by decide) wF_X8_7 rfl rfl dX8_count_93 ?_
      refine tr_bipush hO 96 (v := 6) (by decide) dX8_count_96 ?_
      refine tr_iald hO 98 (x_v0 (by decide)) a_28 (by decide) dX8_count_98 ?_
      cases h
      exact tr_iret hO 99 hQ rfl dX8_count_99
    have h := of_f hs0 h
    by_cases hs1 : a1 = 1
    · have h := of_t hs1 h
      refine tr_tabIn hO 22 100 (by rw [hs1]; decide) (by rw [hs1]; decide) (by rw [hs1]; rfl) (by decide) dX8_count_22 ?_
      refine tr_aload_n hO 100 0 rfl dX8_count_100 ?_
      refine tr_get hO 101 (k := 0) (x_v0 (by decide)) rfl rfl iX8 (by decide) wF_X8_7 rfl rfl dX8_count_101 ?_
      refine tr_bipush hO 104 (v := 7) (by decide) dX8_count_104 ?_
      refine tr_iald hO 106 (x_v0 (by decide)) a_28 (by decide) dX8_count_106 ?_
      cases h
      exact tr_iret hO 107 hQ rfl dX8_count_107
    have h := of_f hs1 h
    by_cases hs2 : a1 = 2
    · have h := of_t hs2 h
      refine tr_tabIn hO 22 108 (by rw [hs2]; decide) (by rw [hs2]; decide) (by rw [hs2]; rfl) (by decide) dX8_count_22 ?_
      refine tr_aload_n hO 108 0 rfl dX8_count_108 ?_
      refine tr_get hO 109 (k := 0) (x_v0 (by decide)) rfl rfl iX8 (by decide) wF_X8_7 rfl rfl dX8_count_109 ?_
      refine tr_bipush hO 112 (v := 8) (by decide) dX8_count_112 ?_
      refine tr_iald hO 114 (x_v0 (by decide)) a_28 (by decide) dX8_count_114 ?_
      cases h
      exact tr_iret hO 115 hQ rfl dX8_count_115
    have h := of_f hs2 h
    by_cases hs3 : a1 = 3
    · have h := of_t hs3 h
      refine tr_tabIn hO 22 116 (by rw [hs3]; decide) (by rw [hs3]; decide) (by rw [hs3]; rfl) (by decide) dX8_count_22 ?_
      refine tr_aload_n hO 116 0 rfl dX8_count_116 ?_
      refine tr_get hO 117 (k := 0) (x_v0 (by decide)) rfl rfl iX8 (by decide) wF_X8_7 rfl rfl dX8_count_117 ?_
      refine tr_bipush hO 120 (v := 9) (by decide) dX8_count_120 ?_
      refine tr_iald hO 122 (x_v0 (by decide)) a_28 (by decide) dX8_count_122 ?_
      cases h
      exact tr_iret hO 123 hQ rfl dX8_count_123
    have h := of_f hs3 h
    by_cases hs4 : a1 = 4
    · have h := of_t hs4 h
      refine tr_tabIn hO 22 124 (by rw [hs4]; decide) (by rw [hs4]; decide) (by rw [hs4]; rfl) (by decide) dX8_count_22 ?_
      refine tr_aload_n hO 124 0 rfl dX8_count_124 ?_
      obtain ⟨v3, μ4, hcall, h⟩ := of_bd h
      refine tr_callI hO 125 (na := 0) (As := []) (st := []) (c_X8_lengthAtEngine hX  hcall) rfl (x_v0 (by decide)) rfl rfl wM_X8_93 wI_X8_lengthAtEngine wS_X8_lengthAtEngine wN_X8 wC_X8_lengthAtEngine (by decide +kernel) rfl (by decide) (by decide) (Nat.le_of_ble_eq_true rfl) dX8_count_125 ?_
      cases h
      exact tr_iret hO 128 hQ rfl dX8_count_128
    have h := of_f hs4 h
    by_cases hs5 : a1 = 5
    · have h := of_t hs5 h
      refine tr_tabIn hO 22 129 (by rw [hs5]; decide) (by rw [hs5]; decide) (by rw [hs5]; rfl) (by decide) dX8_count_22 ?_
      refine tr_aload_n hO 129 0 rfl dX8_count_129 ?_
      refine tr_get hO 130 (k := 0) (x_v0 (by decide)) rfl rfl iX8 (by decide) wF_X8_7 rfl rfl dX8_count_130 ?_
      refine tr_bipush hO 133 (v := 10) (by decide) dX8_count_133 ?_
      refine tr_iald hO 135 (x_v0 (by decide)) a_28 (by decide) dX8_count_135 ?_
      cases h
      exact tr_iret hO 136 hQ rfl dX8_count_136
    have h := of_f hs5 h
    by_cases hs6 : a1 = 6
    · have h := of_t hs6 h
      refine tr_tabIn hO 22 137 (by rw [hs6]; decide) (by rw [hs6]; decide) (by rw [hs6]; rfl) (by decide) dX8_count_22 ?_
      refine tr_aload_n hO 137 0 rfl dX8_count_137 ?_
      refine tr_get hO 138 (k := 0) (x_v0 (by decide)) rfl rfl iX8 (by decide) wF_X8_7 rfl rfl dX8_count_138 ?_
      refine tr_bipush hO 141 (v := 11) (by decide) dX8_count_141 ?_
      refine tr_iald hO 143 (x_v0 (by decide)) a_28 (by decide) dX8_count_143 ?_
      cases h
      exact tr_iret hO 144 hQ rfl dX8_count_144
    have h := of_f hs6 h
    by_cases hs7 : a1 = 7
    · have h := of_t hs7 h
      refine tr_tabIn hO 22 145 (by rw [hs7]; decide) (by rw [hs7]; decide) (by rw [hs7]; rfl) (by decide) dX8_count_22 ?_
      refine tr_aload_n hO 145 0 rfl dX8_count_145 ?_
      refine tr_get hO 146 (k := 0) (x_v0 (by decide)) rfl rfl iX8 (by decide) wF_X8_7 rfl rfl dX8_count_146 ?_
      refine tr_bipush hO 149 (v := 12) (by decide) dX8_count_149 ?_
      refine tr_iald hO 151 (x_v0 (by decide)) a_28 (by decide) dX8_count_151 ?_
      cases h
      exact tr_iret hO 152 hQ rfl dX8_count_152
    have h := of_f hs7 h
    by_cases hs8 : a1 = 8
    · have h := of_t hs8 h
      refine tr_tabIn hO 22 153 (by rw [hs8]; decide) (by rw [hs8]; decide) (by rw [hs8]; rfl) (by decide) dX8_count_22 ?_
      refine tr_aload_n hO 153 0 rfl dX8_count_153 ?_
      refine tr_get hO 154 (k := 0) (x_v0 (by decide)) rfl rfl iX8 (by decide) wF_X8_7 rfl rfl dX8_count_154 ?_
      refine tr_bipush hO 157 (v := 13) (by decide) dX8_count_157 ?_
      refine tr_iald hO 159 (x_v0 (by decide)) a_28 (by decide) dX8_count_159 ?_
      cases h
      exact tr_iret hO 160 hQ rfl dX8_count_160
    have h := of_f hs8 h
    by_cases hs9 : a1 = 9
    · have h := of_t hs9 h
      refine tr_tabIn hO 22 161 (by rw [hs9]; decide) (by rw [hs9]; decide) (by rw [hs9]; rfl) (by decide) dX8_count_22 ?_
      refine tr_aload_n hO 161 0 rfl dX8_count_161 ?_
      refine tr_get hO 162 (k := 0) (x_v0 (by decide)) rfl rfl iX8 (by decide) wF_X8_7 rfl rfl dX8_count_162 ?_
      refine tr_bipush hO 165 (v := 14) (by decide) dX8_count_165 ?_
      refine tr_iload_n hO 167 1 rfl dX8_count_167 ?_
      refine tr_iadd hO 168 dX8_count_168 ?_
      refine tr_bipush hO 169 (v := 9) (by decide) dX8_count_169 ?_
      refine tr_isub hO 171 dX8_count_171 ?_
      obtain ⟨hg, h⟩ := of_gd h
      refine tr_iald hO 172 (x_v0 (by decide)) a_28 hg dX8_count_172 ?_
      cases h
      exact tr_iret hO 173 hQ rfl dX8_count_173
    have h := of_f hs9 h
    by_cases hs10 : a1 = 10
    · have h := of_t hs10 h
      refine tr_tabIn hO 22 161 (by rw [hs10]; decide) (by rw [hs10]; decide) (by rw [hs10]; rfl) (by decide) dX8_count_22 ?_
      refine tr_aload_n hO 161 0 rfl dX8_count_161 ?_
      refine tr_get hO 162 (k := 0) (x_v0 (by decide)) rfl rfl iX8 (by decide) wF_X8_7 rfl rfl dX8_count_162 ?_
      refine tr_bipush hO 165 (v := 14) (by decide) dX8_count_165 ?_
      refine tr_iload_n hO 167 1 rfl dX8_count_167 ?_
      refine tr_iadd hO 168 dX8_count_168 ?_
      refine tr_bipush hO 169 (v := 9) (by decide) dX8_count_169 ?_
      refine tr_isub hO 171 dX8_count_171 ?_
      obtain ⟨hg, h⟩ := of_gd h
      refine tr_iald hO 172 (x_v0 (by decide)) a_28 hg dX8_count_172 ?_
      cases h
      exact tr_iret hO 173 hQ rfl dX8_count_173
    have h := of_f hs10 h
    by_cases hs11 : a1 = 11
    · have h := of_t hs11 h
      refine tr_tabIn hO 22 161 (by rw [hs11]; decide) (by rw [hs11]; decide) (by rw [hs11]; rfl) (by decide) dX8_count_22 ?_
      refine tr_aload_n hO 161 0 rfl dX8_count_161 ?_
      refine tr_get hO 162 (k := 0) (x_v0 (by decide)) rfl rfl iX8 (by decide) wF_X8_7 rfl rfl dX8_count_162 ?_
      refine tr_bipush hO 165 (v := 14) (by decide) dX8_count_165 ?_
      refine tr_iload_n hO 167 1 rfl dX8_count_167 ?_
      refine tr_iadd hO 168 dX8_count_168 ?_
      refine tr_bipush hO 169 (v := 9) (by decide) dX8_count_169 ?_
      refine tr_isub hO 171 dX8_count_171 ?_
      obtain ⟨hg, h⟩ := of_gd h
      refine tr_iald hO 172 (x_v0 (by decide)) a_28 hg dX8_count_172 ?_
      cases h
      exact tr_iret hO 173 hQ rfl dX8_count_173
    have h := of_f hs11 h
    by_cases hs12 : a1 = 12
    · have h := of_t hs12 h
      refine tr_tabIn hO 22 161 (by rw [hs12]; decide) (by rw [hs12]; decide) (by rw [hs12]; rfl) (by decide) dX8_count_22 ?_
      refine tr_aload_n hO 161 0 rfl dX8_count_161 ?_
      refine tr_get hO 162 (k := 0) (x_v0 (by decide)) rfl rfl iX8 (by decide) wF_X8_7 rfl rfl dX8_count_162 ?_
      refine tr_bipush hO 165 (v := 14) (by decide) dX8_count_165 ?_
      refine tr_iload_n hO 167 1 rfl dX8_count_167 ?_
      refine tr_iadd hO 168 dX8_count_168 ?_
      refine tr_bipush hO 169 (v := 9) (by decide) dX8_count_169 ?_
      refine tr_isub hO 171 dX8_count_171 ?_
      obtain ⟨hg, h⟩ := of_gd h
      refine tr_iald hO 172 (x_v0 (by decide)) a_28 hg dX8_count_172 ?_
      cases h
      exact tr_iret hO 173 hQ rfl dX8_count_173
    have h := of_f hs12 h
    by_cases hs13 : a1 = 13
    · have h := of_t hs13 h
      refine tr_tabIn hO 22 174 (by rw [hs13]; decide) (by rw [hs13]; decide) (by rw [hs13]; rfl) (by decide) dX8_count_22 ?_
      refine tr_aload_n hO 174 0 rfl dX8_count_174 ?_
      refine tr_get hO 175 (k := 8) (x_v0 (by decide)) rfl rfl iX8 (by decide) wF_X8_149 rfl rfl dX8_count_175 ?_
      cases h
      exact tr_iret hO 178 hQ rfl dX8_count_178
    have h := of_f hs13 h
    have hn_hs0 : ¬ a1.toInt = 0 := i_ne (by decide) hs0
    have hn_hs1 : ¬ a1.toInt = 1 := i_ne (by decide) hs1
    have hn_hs2 : ¬ a1.toInt = 2 := i_ne (by decide) hs2
    have hn_hs3 : ¬ a1.toInt = 3 := i_ne (by decide) hs3
    have hn_hs4 : ¬ a1.toInt = 4 := i_ne (by decide) hs4
    have hn_hs5 : ¬ a1.toInt = 5 := i_ne (by decide) hs5
    have hn_hs6 : ¬ a1.toInt = 6 := i_ne (by decide) hs6
    have hn_hs7 : ¬ a1.toInt = 7 := i_ne (by decide) hs7
    have hn_hs8 : ¬ a1.toInt = 8 := i_ne (by decide) hs8
    have hn_hs9 : ¬ a1.toInt = 9 := i_ne (by decide) hs9
    have hn_hs10 : ¬ a1.toInt = 10 := i_ne (by decide) hs10
    have hn_hs11 : ¬ a1.toInt = 11 := i_ne (by decide) hs11
    have hn_hs12 : ¬ a1.toInt = 12 := i_ne (by decide) hs12
    have hn_hs13 : ¬ a1.toInt = 13 := i_ne (by decide) hs13
    have hsw : a1.toInt < 0 ∨ (13 : Int) < a1.toInt := by omega
    refine tr_tabD hO 22 179 (by
      rcases hsw with hsw | hsw
      · exact Or.inl hsw
      · exact Or.inr (Or.inl hsw)
      ) (by decide) dX8_count_22 ?_
    refine tr_iload_n hO 179 1 rfl dX8_count_179 ?_
    refine tr_bipush hO 180 (v := 14) (by decide) dX8_count_180 ?_
    refine tr_icmp_ne hO 182 192 (by decide) dX8_count_182 (fun hc => ?_) (fun hc => ?_)
    · have h := of_f hc h
      refine tr_bipush hO 192 (v := (-2)) (by decide) dX8_count_192 ?_
      cases h
      exact tr_iret hO 194 hQ rfl dX8_count_194
    · have h := of_t hc h
      refine tr_aload_n hO 185 0 rfl dX8_count_185 ?_
      refine tr_get hO 186 (k := 4) (x_v0 (by decide)) rfl rfl iX8 (by decide) wF_X8_51 rfl rfl dX8_count_186 ?_
      refine tr_goto hO 189 194 (by decide) dX8_count_189 ?_
      cases h
      exact tr_iret hO 194 hQ rfl dX8_count_194
  · have h := of_f hc h
    refine tr_aload_n hO 11 0 rfl dX8_count_11 ?_
    refine tr_get hO 12 (k := 0) (x_v0 (by decide)) rfl rfl iX8 (by decide) wF_X8_7 rfl rfl dX8_count_12 ?_
    refine tr_iload_n hO 15 1 rfl dX8_count_15 ?_
    refine tr_bipush hO 16 (v := 15) (by decide) dX8_count_16 ?_
    refine tr_isub hO 18 dX8_count_18 ?_
    obtain ⟨hg, h⟩ := of_gd h
    refine tr_iald hO 19 (x_v0 (by decide)) a_28 hg dX8_count_19 ?_
    cases h
    exact tr_iret hO 20 hQ rfl dX8_count_20
set_option maxHeartbeats 4000000 in
set_option maxRecDepth 100000 in
theorem c_X8_freeFrom {X : xT} (hX : xOK X) {a1 : Int32}  {μ μ' : mT} {r : Int32} (h : f_X8_freeFrom a1 μ = some (r, μ')) : CMi X yX8_freeFrom cX8_freeFrom 2 .int 1 27 [.ref (X.1 27 0), .int a1] μ r μ' := by
  refine CMi_of hX (by decide +kernel) (lv := [(0, .ref (X.1 27 0)), (1, .int a1)]) (Nat.le_of_ble_eq_true rfl) rfl (fun Γ hO hn hQ => ?_)
  have hO : Ok X RX8 cX8_freeFrom 1 27 Γ := hO
  unfold f_X8_freeFrom at h
  refine tr_iload_n hO 0 1 rfl dX8_freeFrom_0 ?_
  refine tr_iconst hO 1 (v := 1) (by decide) dX8_freeFrom_1 ?_
  refine tr_sipush hO 2 (v := 500) (by decide) dX8_freeFrom_2 ?_
  obtain ⟨v1, μ2, hcall, h⟩ := of_bd h
  refine tr_callS hO 5 (na := 3) (As := [.int a1, .int 1, .int 500]) (st := []) (c_X8_in hX  hcall) rfl wM_X8_55 wT_X8_in wN_X8 wC_X8_in (by decide +kernel) rfl (by decide) (by decide) (Nat.le_of_ble_eq_true rfl) dX8_freeFrom_5 ?_
  refine tr_if_eq hO 8 26 (by decide) dX8_freeFrom_8 (fun hc => ?_) (fun hc => ?_)
  · have h := of_t hc h
    refine tr_bipush hO 26 (v := (-2)) (by decide) dX8_freeFrom_26 ?_
    cases h
    exact tr_iret hO 28 hQ rfl dX8_freeFrom_28
  · have h := of_f hc h
    refine tr_aload_n hO 11 0 rfl dX8_freeFrom_11 ?_
    refine tr_aload_n hO 12 0 rfl dX8_freeFrom_12 ?_
    refine tr_get hO 13 (k := 0) (x_v0 (by decide)) rfl rfl iX8 (by decide) wF_X8_7 rfl rfl dX8_freeFrom_13 ?_
    refine tr_bipush hO 16 (v := 6) (by decide) dX8_freeFrom_16 ?_
    refine tr_iald hO 18 (x_v0 (by decide)) a_28 (by decide) dX8_freeFrom_18 ?_
    refine tr_iload_n hO 19 1 rfl dX8_freeFrom_19 ?_
    obtain ⟨v3, μ4, hcall, h⟩ := of_bd h
    refine tr_callI hO 20 (na := 2) (As := [.int (μ2 28 0 (6 : Int32).toNatClampNeg), .int a1]) (st := []) (c_X8_freeAt hX  hcall) rfl (x_v0 (by decide)) rfl rfl wM_X8_86 wI_X8_freeAt wS_X8_freeAt wN_X8 wC_X8_freeAt (by decide +kernel) rfl (by decide) (by decide) (Nat.le_of_ble_eq_true rfl) dX8_freeFrom_20 ?_
    refine tr_goto hO 23 28 (by decide) dX8_freeFrom_23 ?_
    cases h
    exact tr_iret hO 28 hQ rfl dX8_freeFrom_28
set_option maxHeartbeats 4000000 in
set_option maxRecDepth 100000 in
theorem c_X8_layPulls {X : xT} (hX : xOK X) {a1 : Int32}  {μ μ' : mT} {r : Int32} (h : f_X8_layPulls a1 μ = some (r, μ')) : CMi X yX8_layPulls cX8_layPulls 6 .boolean 2 46 [.ref (X.1 27 0), .int a1] μ r μ' := by
  refine CMi_of hX (by decide +kernel) (lv := [(0, .ref (X.1 27 0)), (1, .int a1)]) (Nat.le_of_ble_eq_true rfl) rfl (fun Γ hO hn hQ => ?_)
  have hO : Ok X RX8 cX8_layPulls 2 46 Γ := hO
  unfold f_X8_layPulls at h
  refine tr_sipush hO 0 (v := 450) (by decide) dX8_layPulls_0 ?_
  refine tr_bipush hO 3 (v := 10) (by decide) dX8_layPulls_3 ?_
  refine tr_iload_n hO 5 1 rfl dX8_layPulls_5 ?_
  refine tr_imul hO 6 dX8_layPulls_6 ?_
  refine tr_iadd hO 7 dX8_layPulls_7 ?_
  obtain ⟨v1, e_v1, h⟩ := of_lt h
  refine tr_istore_n hO 8 (v := v1) e_v1 (lv' := [(2, .int v1), (0, .ref (X.1 27 0)), (1, .int a1)]) hn rfl (by decide) rfl dX8_layPulls_8 ?_
  refine tr_aload_n hO 9 1 rfl dX8_layPulls_9 ?_
  refine tr_iconst hO 10 (v := 0) (by decide) dX8_layPulls_10 ?_
  obtain ⟨μ2, e_μ2, h⟩ := of_lt h
  refine tr_put hO 11 (k := 14) (ty := .int) e_μ2 (x_v0 (by decide)) rfl rfl rfl iX8 tyX8 tyX8_ok nmX8 (by decide) wF_X8_152 rfl rfl (by decide +kernel) rfl rfl (Nat.le_of_ble_eq_true rfl) dX8_layPulls_11 ?_
  refine tr_iconst hO 14 (v := 0) (by decide) dX8_layPulls_14 ?_
  refine tr_istore_n hO 15 (v := 0) rfl (lv' := [(3, .int 0), (2, .int v1), (0, .ref (X.1 27 0)), (1, .int a1)]) hn rfl (by decide) rfl dX8_layPulls_15 ?_
  obtain ⟨K5, e_K5, h⟩ := of_lt h
  have K5_T : ∀ (μ6 : mT), K5 μ6 = some (r, μ') → tj X Γ μ6 35 [(0, .ref (X.1 27 0)), (2, .int v1)] [] := by
    intro μ6 h
    rw [e_K5] at h
    refine tr_aload_n hO 35 0 rfl dX8_layPulls_35 ?_
    refine tr_get hO 36 (k := 0) (x_v0 (by decide)) rfl rfl iX8 (by decide) wF_X8_7 rfl rfl dX8_layPulls_36 ?_
    refine tr_bipush hO 39 (v := 9) (by decide) dX8_layPulls_39 ?_
    refine tr_iald hO 41 (x_v0 (by decide)) a_28 (by decide) dX8_layPulls_41 ?_
    refine tr_aload_n hO 42 0 rfl dX8_layPulls_42 ?_
    refine tr_get hO 43 (k := 0) (x_v0 (by decide)) rfl rfl iX8 (by decide) wF_X8_7 rfl rfl dX8_layPulls_43 ?_
    refine tr_iload_n hO 46 1 rfl dX8_layPulls_46 ?_
    refine tr_iconst hO 47 (v := 1) (by decide) dX8_layPulls_47 ?_
    refine tr_iadd hO 48 dX8_layPulls_48 ?_
    obtain ⟨hg, h⟩ := of_gd h
    refine tr_iald hO 49 (x_v0 (by decide)) a_28 hg dX8_layPulls_49 ?_
    refine tr_icmp_le hO 50 55 (by decide) dX8_layPulls_50 (fun hc => ?_) (fun hc => ?_)
    · have h := of_t hc h
      refine tr_iconst hO 55 (v := 0) (by decide) dX8_layPulls_55 ?_
      refine tr_istore_n hO 56 (v := 0) rfl (lv' := [(3, .int 0), (0, .ref (X.1 27 0)), (2, .int v1)]) hn rfl (by decide) rfl dX8_layPulls_56 ?_
      have L57_T : ∀ (n : Nat) (v7 : Int32) (μ8 : mT), f_X8_layPulls_L57 v1 n v7 μ8 = some (r, μ') → tj X Γ μ8 57 [(0, .ref (X.1 27 0)), (2, .int v1), (3, .int v7)] [] := by
        intro n
        induction n with
        | zero =>
          intro v7 μ8 h
          rw [f_X8_layPulls_L57] at h
          cases h
        | succ n ih =>
          intro v7 μ8 h
          rw [f_X8_layPulls_L57] at h
          refine tr_iload_n hO 57 2 rfl dX8_layPulls_57 ?_
          refine tr_aload_n hO 58 0 rfl dX8_layPulls_58 ?_
          refine tr_get hO 59 (k := 0) (x_v0 (by decide)) rfl rfl iX8 (by decide) wF_X8_7 rfl rfl dX8_layPulls_59 ?_
          refine tr_iload_n hO 62 1 rfl dX8_layPulls_62 ?_
          refine tr_iconst hO 63 (v := 1) (by decide) dX8_layPulls_63 ?_
          refine tr_iadd hO 64 dX8_layPulls_64 ?_
          obtain ⟨hg, h⟩ := of_gd h
          refine tr_iald hO 65 (x_v0 (by decide)) a_28 hg dX8_layPulls_65 ?_
          refine tr_icmp_ge hO 66 239 (by decide) dX8_layPulls_66 (fun hc => ?_) (fun hc => ?_)
          · have h := of_t hc h
            refine tr_iconst hO 239 (v := 1) (by decide) dX8_layPulls_239 ?_
            cases h
            exact tr_iret hO 240 hQ (by decide) dX8_layPulls_240
          · have h := of_f hc h
            refine tr_aload_n hO 69 0 rfl dX8_layPulls_69 ?_
            refine tr_get hO 70 (k := 0) (x_v0 (by decide)) rfl rfl iX8 (by decide) wF_X8_7 rfl rfl dX8_layPulls_70 ?_
            refine tr_iload_n hO 73 1 rfl dX8_layPulls_73 ?_
            refine tr_iconst hO 74 (v := 2) (by decide) dX8_layPulls_74 ?_
            refine tr_iadd hO 75 dX8_layPulls_75 ?_
            refine tr_iload_n hO 76 2 rfl dX8_layPulls_76 ?_
            refine tr_iadd hO 77 dX8_layPulls_77 ?_
            obtain ⟨hg, h⟩ := of_gd h
            refine tr_iald hO 78 (x_v0 (by decide)) a_28 hg dX8_layPulls_78 ?_
            obtain ⟨v9, e_v9, h⟩ := of_lt h
            refine tr_istore hO 79 (v := v9) e_v9 (lv' := [(4, .int v9), (0, .ref (X.1 27 0)), (2, .int v1), (3, .int v7)]) hn (by decide) rfl dX8_layPulls_79 ?_
            refine tr_iload_n hO 81 3 rfl dX8_layPulls_81 ?_
            refine tr_aload_n hO 82 1 rfl dX8_layPulls_82 ?_
            refine tr_get hO 83 (k := 0) (x_v0 (by decide)) rfl rfl iX8 (by decide) wF_X8_7 rfl rfl dX8_layPulls_83 ?_
            refine tr_bipush hO 86 (v := 9) (by decide) dX8_layPulls_86 ?_
            refine tr_iald hO 88 (x_v0 (by decide)) a_28 (by decide) dX8_layPulls_88 ?_
            obtain ⟨J10, e_J10, h⟩ := of_lt h
            have J10_T : ∀ (μ11 : mT), J10 μ11 = some (r, μ') → tj X Γ μ11 233 [(0, .ref (X.1 27 0)), (2, .int v1), (3, .int v7)] [] := by
              intro μ11 h
              rw [e_J10] at h
              obtain ⟨v12, e_v12, h⟩ := of_lt h
              refine tr_iinc hO 233 (q := 2) (v := v12) (lv' := [(3, .int v12), (0, .ref (X.1 27 0)), (2, .int v1)]) hn rfl (by rw [e_v12]; rfl) (by decide) rfl dX8_layPulls_233 ?_
              refine tr_goto hO 236 57 (by decide) dX8_layPulls_236 ?_
              refine tr_sub [1, 2, 0] rfl ?_
              exact ih _ _ h
            refine tr_icmp_ge hO 89 109 (by decide) dX8_layPulls_89 (fun hc => ?_) (fun hc => ?_)
            · have h := of_t hc h
              refine tr_aload_n hO 109 1 rfl dX8_layPulls_109 ?_
              refine tr_iload hO 110 0 rfl dX8_layPulls_110 ?_
              obtain ⟨v13, μ14, hcall, h⟩ := of_bd h
              refine tr_callI hO 112 (na := 1) (As := [.int v9]) (st := []) (c_X8_trackOf hX  hcall) rfl (x_v0 (by decide)) rfl rfl wM_X8_146 wI_X8_trackOf wS_X8_trackOf wN_X8 wC_X8_trackOf (by decide +kernel) rfl (by decide) (by decide) (Nat.le_of_ble_eq_true rfl) dX8_layPulls_112 ?_
              refine tr_istore hO 115 (v := v13) rfl (lv' := [(5, .int v13), (4, .int v9), (0, .ref (X.1 27 0)), (2, .int v1), (3, .int v7)]) hn (by decide) rfl dX8_layPulls_115 ?_
              refine tr_iload hO 117 0 rfl dX8_layPulls_117 ?_
              refine tr_if_lt hO 119 148 (by decide) dX8_layPulls_119 (fun hc => ?_) (fun hc => ?_)
              · have h := of_t hc h
                refine tr_iconst hO 148 (v := 0) (by decide) dX8_layPulls_148 ?_
                cases h
                exact tr_iret hO 149 hQ (by decide) dX8_layPulls_149
              · have h := of_f hc h
                refine tr_aload_n hO 122 2 rfl dX8_layPulls_122 ?_
                refine tr_get hO 123 (k := 0) (x_v0 (by decide)) rfl rfl iX8 (by decide) wF_X8_7 rfl rfl dX8_layPulls_123 ?_
                refine tr_bipush hO 126 (v := 60) (by decide) dX8_layPulls_126 ?_
                refine tr_bipush hO 128 (v := 30) (by decide) dX8_layPulls_128 ?_
                refine tr_iload hO 130 0 rfl dX8_layPulls_130 ?_
                refine tr_imul hO 132 dX8_layPulls_132 ?_
                refine tr_iadd hO 133 dX8_layPulls_133 ?_
                refine tr_aload_n hO 134 2 rfl dX8_layPulls_134 ?_
                refine tr_get hO 135 (k := 11) (x_v0 (by decide)) rfl rfl iX8 (by decide) wF_X8_35 rfl rfl dX8_layPulls_135 ?_
                refine tr_iload hO 138 0 rfl dX8_layPulls_138 ?_
                obtain ⟨hg, h⟩ := of_gd h
                refine tr_iald hO 140 (x_v0 (by decide)) a_36 hg dX8_layPulls_140 ?_
                refine tr_iadd hO 141 dX8_layPulls_141 ?_
                obtain ⟨hg, h⟩ := of_gd h
                refine tr_iald hO 142 (x_v0 (by decide)) a_28 hg dX8_layPulls_142 ?_
                refine tr_iload hO 143 1 rfl dX8_layPulls_143 ?_
                refine tr_icmp_eq hO 145 150 (by decide) dX8_layPulls_145 (fun hc => ?_) (fun hc => ?_)
                · have h := of_t hc h
                  refine tr_aload_n hO 150 2 rfl dX8_layPulls_150 ?_
                  refine tr_get hO 151 (k := 11) (x_v0 (by decide)) rfl rfl iX8 (by decide) wF_X8_35 rfl rfl dX8_layPulls_151 ?_
                  refine tr_iload hO 154 0 rfl dX8_layPulls_154 ?_
                  refine tr_dup2 hO 156 rfl rfl dX8_layPulls_156 ?_
                  obtain ⟨hg, h⟩ := of_gd h
                  refine tr_iald hO 157 (x_v0 (by decide)) a_36 hg dX8_layPulls_157 ?_
                  refine tr_iconst hO 158 (v := 1) (by decide) dX8_layPulls_158 ?_
                  refine tr_iadd hO 159 dX8_layPulls_159 ?_
                  obtain ⟨hg, h⟩ := of_gd h
                  obtain ⟨μ15, e_μ15, h⟩ := of_lt h
                  refine tr_iast hO 160 e_μ15 (x_v0 (by decide)) a_36 hg dX8_layPulls_160 ?_
                  refine tr_aload_n hO 161 2 rfl dX8_layPulls_161 ?_
                  refine tr_get hO 162 (k := 14) (x_v0 (by decide)) rfl rfl iX8 (by decide) wF_X8_152 rfl rfl dX8_layPulls_162 ?_
                  obtain ⟨J16, e_J16, h⟩ := of_lt h
                  have J16_T : ∀ (μ17 : mT), J16 μ17 = some (r, μ') → tj X Γ μ17 202 [(0, .ref (X.1 27 0)), (2, .int v1), (3, .int v7), (5, .int v13)] [] := by
                    intro μ17 h
                    rw [e_J16] at h
                    refine tr_aload_n hO 202 0 rfl dX8_layPulls_202 ?_
                    refine tr_get hO 203 (k := 12) (x_v0 (by decide)) rfl rfl iX8 (by decide) wF_X8_38 rfl rfl dX8_layPulls_203 ?_
                    refine tr_aload_n hO 206 0 rfl dX8_layPulls_206 ?_
                    refine tr_get hO 207 (k := 14) (x_v0 (by decide)) rfl rfl iX8 (by decide) wF_X8_152 rfl rfl dX8_layPulls_207 ?_
                    refine tr_iload hO 210 3 rfl dX8_layPulls_210 ?_
                    obtain ⟨hg, h⟩ := of_gd h
                    obtain ⟨μ18, e_μ18, h⟩ := of_lt h
                    refine tr_iast hO 212 e_μ18 (x_v0 (by decide)) a_37 hg dX8_layPulls_212 ?_
                    refine tr_aload_n hO 213 0 rfl dX8_layPulls_213 ?_
                    refine tr_get hO 214 (k := 13) (x_v0 (by decide)) rfl rfl iX8 (by decide) wF_X8_41 rfl rfl dX8_layPulls_214 ?_
                    refine tr_aload_n hO 217 0 rfl dX8_layPulls_217 ?_
                    refine tr_get hO 218 (k := 14) (x_v0 (by decide)) rfl rfl iX8 (by decide) wF_X8_152 rfl rfl dX8_layPulls_218 ?_
                    refine tr_iconst hO 221 (v := 1) (by decide) dX8_layPulls_221 ?_
                    obtain ⟨hg, h⟩ := of_gd h
                    obtain ⟨μ19, e_μ19, h⟩ := of_lt h
                    refine tr_iast hO 222 e_μ19 (x_v0 (by decide)) a_38 hg dX8_layPulls_222 ?_
                    refine tr_aload_n hO 223 0 rfl dX8_layPulls_223 ?_
                    refine tr_dup hO 224 rfl dX8_layPulls_224 ?_
                    refine tr_get hO 225 (k := 14) (x_v0 (by decide)) rfl rfl iX8 (by decide) wF_X8_152 rfl rfl dX8_layPulls_225 ?_
                    refine tr_iconst hO 228 (v := 1) (by decide) dX8_layPulls_228 ?_
                    refine tr_iadd hO 229 dX8_layPulls_229 ?_
                    obtain ⟨μ20, e_μ20, h⟩ := of_lt h
                    refine tr_put hO 230 (k := 14) (ty := .int) e_μ20 (x_v0 (by decide)) rfl rfl rfl iX8 tyX8 tyX8_ok nmX8 (by decide) wF_X8_152 rfl rfl (by decide +kernel) rfl rfl (Nat.le_of_ble_eq_true rfl) dX8_layPulls_230 ?_
                    refine tr_sub [0, 1, 2] rfl ?_
                    exact J10_T _ h
                  refine tr_if_le hO 165 202 (by decide) dX8_layPulls_165 (fun hc => ?_) (fun hc => ?_)
                  · have h := of_t hc h
                    refine tr_sub [2, 3, 4, 0] rfl ?_
                    exact J16_T _ h
                  · have h := of_f hc h
                    refine tr_aload_n hO 168 2 rfl dX8_layPulls_168 ?_
                    refine tr_get hO 169 (k := 12) (x_v0 (by decide)) rfl rfl iX8 (by decide) wF_X8_38 rfl rfl dX8_layPulls_169 ?_
                    refine tr_aload_n hO 172 2 rfl dX8_layPulls_172 ?_
                    refine tr_get hO 173 (k := 14) (x_v0 (by decide)) rfl rfl iX8 (by decide) wF_X8_152 rfl rfl dX8_layPulls_173 ?_
                    refine tr_iconst hO 176 (v := 1) (by decide) dX8_layPulls_176 ?_
                    refine tr_isub hO 177 dX8_layPulls_177 ?_
                    obtain ⟨hg, h⟩ := of_gd h
                    refine tr_iald hO 178 (x_v0 (by decide)) a_37 hg dX8_layPulls_178 ?_
                    refine tr_iload hO 179 0 rfl dX8_layPulls_179 ?_
                    refine tr_icmp_ne hO 181 202 (by decide) dX8_layPulls_181 (fun hc => ?_) (fun hc => ?_)
                    · have h := of_f hc h
                      refine tr_sub [2, 3, 4, 0] rfl ?_
                      exact J16_T _ h
                    · have h := of_t hc h
                      refine tr_aload_n hO 184 2 rfl dX8_layPulls_184 ?_
                      refine tr_get hO 185 (k := 13) (x_v0 (by decide)) rfl rfl iX8 (by decide) wF_X8_41 rfl rfl dX8_layPulls_185 ?_
                      refine tr_aload_n hO 188 2 rfl dX8_layPulls_188 ?_
                      refine tr_get hO 189 (k := 14) (x_v0 (by decide)) rfl rfl iX8 (by decide) wF_X8_152 rfl rfl dX8_layPulls_189 ?_
                      refine tr_iconst hO 192 (v := 1) (by decide) dX8_layPulls_192 ?_
                      refine tr_isub hO 193 dX8_layPulls_193 ?_
                      refine tr_dup2 hO 194 rfl rfl dX8_layPulls_194 ?_
                      obtain ⟨hg, h⟩ := of_gd h
                      refine tr_iald hO 195 (x_v0 (by decide)) a_38 hg dX8_layPulls_195 ?_
                      refine tr_iconst hO 196 (v := 1) (by decide) dX8_layPulls_196 ?_
                      refine tr_iadd hO 197 dX8_layPulls_197 ?_
                      obtain ⟨hg, h⟩ := of_gd h
                      obtain ⟨μ21, e_μ21, h⟩ := of_lt h
                      refine tr_iast hO 198 e_μ21 (x_v0 (by decide)) a_38 hg dX8_layPulls_198 ?_
                      refine tr_goto hO 199 233 (by decide) dX8_layPulls_199 ?_
                      refine tr_sub [2, 3, 4] rfl ?_
                      exact J10_T _ h
                · have h := of_f hc h
                  refine tr_iconst hO 148 (v := 0) (by decide) dX8_layPulls_148 ?_
                  cases h
                  exact tr_iret hO 149 hQ (by decide) dX8_layPulls_149
            · have h := of_f hc h
              refine tr_aload_n hO 92 1 rfl dX8_layPulls_92 ?_
              refine tr_get hO 93 (k := 0) (x_v0 (by decide)) rfl rfl iX8 (by decide) wF_X8_7 rfl rfl dX8_layPulls_93 ?_
              refine tr_sipush hO 96 (v := 300) (by decide) dX8_layPulls_96 ?_
              refine tr_iload_n hO 99 3 rfl dX8_layPulls_99 ?_
              refine tr_iadd hO 100 dX8_layPulls_100 ?_
              obtain ⟨hg, h⟩ := of_gd h
              refine tr_iald hO 101 (x_v0 (by decide)) a_28 hg dX8_layPulls_101 ?_
              refine tr_iload hO 102 0 rfl dX8_layPulls_102 ?_
              refine tr_icmp_eq hO 104 233 (by decide) dX8_layPulls_104 (fun hc => ?_) (fun hc => ?_)
              · have h := of_t hc h
                refine tr_sub [1, 2, 3] rfl ?_
                exact J10_T _ h
              · have h := of_f hc h
                refine tr_iconst hO 107 (v := 0) (by decide) dX8_layPulls_107 ?_
                cases h
                exact tr_iret hO 108 hQ (by decide) dX8_layPulls_108
      refine tr_sub [1, 2, 0] rfl ?_
      exact L57_T _ _ _ h
    · have h := of_f hc h
      refine tr_iconst hO 53 (v := 0) (by decide) dX8_layPulls_53 ?_
      cases h
      exact tr_iret hO 54 hQ (by decide) dX8_layPulls_54
  have L16_T : ∀ (n : Nat) (v3 : Int32) (μ4 : mT), f_X8_layPulls_L16 v1 K5 n v3 μ4 = some (r, μ') → tj X Γ μ4 16 [(0, .ref (X.1 27 0)), (2, .int v1), (3, .int v3)] [] := by
    intro n
    induction n with
    | zero =>
      intro v3 μ4 h
      rw [f_X8_layPulls_L16] at h
      cases h
    | succ n ih =>
      intro v3 μ4 h
      rw [f_X8_layPulls_L16] at h
      refine tr_iload_n hO 16 2 rfl dX8_layPulls_16 ?_
      refine tr_bipush hO 17 (v := 8) (by decide) dX8_layPulls_17 ?_
      refine tr_icmp_ge hO 19 35 (by decide) dX8_layPulls_19 (fun hc => ?_) (fun hc => ?_)
      · have h := of_t hc h
        refine tr_sub [0, 1] rfl ?_
        exact K5_T _ h
      · have h := of_f hc h
        refine tr_aload_n hO 22 0 rfl dX8_layPulls_22 ?_
        refine tr_get hO 23 (k := 11) (x_v0 (by decide)) rfl rfl iX8 (by decide) wF_X8_35 rfl rfl dX8_layPulls_23 ?_
        refine tr_iload_n hO 26 2 rfl dX8_layPulls_26 ?_
        refine tr_iconst hO 27 (v := 0) (by decide) dX8_layPulls_27 ?_
        obtain ⟨hg, h⟩ := of_gd h
        obtain ⟨μ22, e_μ22, h⟩ := of_lt h
        refine tr_iast hO 28 e_μ22 (x_v0 (by decide)) a_36 hg dX8_layPulls_28 ?_
        obtain ⟨v23, e_v23, h⟩ := of_lt h
        refine tr_iinc hO 29 (q := 2) (v := v23) (lv' := [(3, .int v23), (0, .ref (X.1 27 0)), (2, .int v1)]) hn rfl (by rw [e_v23]; rfl) (by decide) rfl dX8_layPulls_29 ?_
        refine tr_goto hO 32 16 (by decide) dX8_layPulls_32 ?_
        refine tr_sub [1, 2, 0] rfl ?_
        exact ih _ _ h
  refine tr_sub [2, 1, 0] rfl ?_
  exact L16_T _ _ _ h
set_option maxHeartbeats 4000000 in
set_option maxRecDepth 100000 in
theorem c_X8_straight {X : xT} (hX : xOK X) {a1 : Int32}  {μ μ' : mT} {r : Int32} (h : f_X8_straight a1 μ = some (r, μ')) : CMi X yX8_straight cX8_straight 2 .int 3 71 [.ref (X.1 27 0), .int a1] μ r μ' := by
  refine CMi_of hX (by decide +kernel) (lv := [(0, .ref (X.1 27 0)), (1, .int a1)]) (Nat.le_of_ble_eq_true rfl) rfl (fun Γ hO hn hQ => ?_)
  have hO : Ok X RX8 cX8_straight 3 71 Γ := hO
  unfold f_X8_straight at h
  refine tr_aload_n hO 0 0 rfl dX8_straight_0 ?_
  refine tr_iload_n hO 1 1 rfl dX8_straight_1 ?_
  obtain ⟨v1, μ2, hcall, h⟩ := of_bd h
  refine tr_callI hO 2 (na := 1) (As := [.int a1]) (st := []) (c_X8_isTrain hX  hcall) rfl (x_v0 (by decide)) rfl rfl wM_X8_133 wI_X8_isTrain wS_X8_isTrain wN_X8 wC_X8_isTrain (by decide +kernel) rfl (by decide) (by decide) (Nat.le_of_ble_eq_true rfl) dX8_straight_2 ?_
  refine tr_if_ne hO 5 12 (by decide) dX8_straight_5 (fun hc => ?_) (fun hc => ?_)
  · have h := of_f hc h
    refine tr_aload_n hO 12 0 rfl dX8_straight_12 ?_
    refine tr_iload_n hO 13 1 rfl dX8_straight_13 ?_
    obtain ⟨v3, μ4, hcall, h⟩ := of_bd h
    refine tr_callI hO 14 (na := 1) (As := [.int a1]) (st := []) (c_X8_layPulls hX  hcall) rfl (x_v0 (by decide)) rfl rfl wM_X8_155 wI_X8_layPulls wS_X8_layPulls wN_X8 wC_X8_layPulls (by decide +kernel) rfl (by decide) (by decide) (Nat.le_of_ble_eq_true rfl) dX8_straight_14 ?_
    refine tr_if_eq hO 17 24 (by decide) dX8_straight_17 (fun hc => ?_) (fun hc => ?_)
    · have h := of_t hc h
      refine tr_iconst hO 24 (v := 0) (by decide) dX8_straight_24 ?_
      cases h
      exact tr_iret hO 25 hQ rfl dX8_straight_25
    · have h := of_f hc h
      refine tr_iconst hO 20 (v := 1) (by decide) dX8_straight_20 ?_
      refine tr_goto hO 21 25 (by decide) dX8_straight_21 ?_
      cases h
      exact tr_iret hO 25 hQ rfl dX8_straight_25
  · have h := of_t hc h
    refine tr_iconst hO 8 (v := (-1)) (by decide) dX8_straight_8 ?_
    refine tr_goto hO 9 25 (by decide) dX8_straight_9 ?_
    cases h
    exact tr_iret hO 25 hQ rfl dX8_straight_25
set_option maxHeartbeats 4000000 in
set_option maxRecDepth 100000 in
theorem c_X8_pulls {X : xT} (hX : xOK X) {a1 : Int32}  {μ μ' : mT} {r : Int32} (h : f_X8_pulls a1 μ = some (r, μ')) : CMi X yX8_pulls cX8_pulls 2 .int 3 71 [.ref (X.1 27 0), .int a1] μ r μ' := by
  refine CMi_of hX (by decide +kernel) (lv := [(0, .ref (X.1 27 0)), (1, .int a1)]) (Nat.le_of_ble_eq_true rfl) rfl (fun Γ hO hn hQ => ?_)
  have hO : Ok X RX8 cX8_pulls 3 71 Γ := hO
  unfold f_X8_pulls at h
  refine tr_aload_n hO 0 0 rfl dX8_pulls_0 ?_
  refine tr_iload_n hO 1 1 rfl dX8_pulls_1 ?_
  obtain ⟨v1, μ2, hcall, h⟩ := of_bd h
  refine tr_callI hO 2 (na := 1) (As := [.int a1]) (st := []) (c_X8_isTrain hX  hcall) rfl (x_v0 (by decide)) rfl rfl wM_X8_133 wI_X8_isTrain wS_X8_isTrain wN_X8 wC_X8_isTrain (by decide +kernel) rfl (by decide) (by decide) (Nat.le_of_ble_eq_true rfl) dX8_pulls_2 ?_
  refine tr_if_ne hO 5 12 (by decide) dX8_pulls_5 (fun hc => ?_) (fun hc => ?_)
  · have h := of_f hc h
    refine tr_aload_n hO 12 0 rfl dX8_pulls_12 ?_
    refine tr_iload_n hO 13 1 rfl dX8_pulls_13 ?_
    obtain ⟨v3, μ4, hcall, h⟩ := of_bd h
    refine tr_callI hO 14 (na := 1) (As := [.int a1]) (st := []) (c_X8_layPulls hX  hcall) rfl (x_v0 (by decide)) rfl rfl wM_X8_155 wI_X8_layPulls wS_X8_layPulls wN_X8 wC_X8_layPulls (by decide +kernel) rfl (by decide) (by decide) (Nat.le_of_ble_eq_true rfl) dX8_pulls_14 ?_
    refine tr_if_eq hO 17 27 (by decide) dX8_pulls_17 (fun hc => ?_) (fun hc => ?_)
    · have h := of_t hc h
      refine tr_bipush hO 27 (v := (-6)) (by decide) dX8_pulls_27 ?_
      cases h
      exact tr_iret hO 29 hQ rfl dX8_pulls_29
    · have h := of_f hc h
      refine tr_aload_n hO 20 0 rfl dX8_pulls_20 ?_
      refine tr_get hO 21 (k := 14) (x_v0 (by decide)) rfl rfl iX8 (by decide) wF_X8_152 rfl rfl dX8_pulls_21 ?_
      refine tr_goto hO 24 29 (by decide) dX8_pulls_24 ?_
      cases h
      exact tr_iret hO 29 hQ rfl dX8_pulls_29
  · have h := of_t hc h
    refine tr_iconst hO 8 (v := (-1)) (by decide) dX8_pulls_8 ?_
    refine tr_goto hO 9 29 (by decide) dX8_pulls_9 ?_
    cases h
    exact tr_iret hO 29 hQ rfl dX8_pulls_29
set_option maxHeartbeats 4000000 in
set_option maxRecDepth 100000 in
theorem c_X8_wouldLeave {X : xT} (hX : xOK X) {a1 : Int32}  {μ μ' : mT} {r : Int32} (h : f_X8_wouldLeave a1 μ = some (r, μ')) : CMi X yX8_wouldLeave cX8_wouldLeave 6 .int 3 71 [.ref (X.1 27 0), .int a1] μ r μ' := by
  refine CMi_of hX (by decide +kernel) (lv := [(0, .ref (X.1 27 0)), (1, .int a1)]) (Nat.le_of_ble_eq_true rfl) rfl (fun Γ hO hn hQ => ?_)
  have hO : Ok X RX8 cX8_wouldLeave 3 71 Γ := hO
  unfold f_X8_wouldLeave at h
  refine tr_aload_n hO 0 0 rfl dX8_wouldLeave_0 ?_
  refine tr_iload_n hO 1 1 rfl dX8_wouldLeave_1 ?_
  obtain ⟨v1, μ2, hcall, h⟩ := of_bd h
  refine tr_callI hO 2 (na := 1) (As := [.int a1]) (st := []) (c_X8_isTrain hX  hcall) rfl (x_v0 (by decide)) rfl rfl wM_X8_133 wI_X8_isTrain wS_X8_isTrain wN_X8 wC_X8_isTrain (by decide +kernel) rfl (by decide) (by decide) (Nat.le_of_ble_eq_true rfl) dX8_wouldLeave_2 ?_
  refine tr_if_ne hO 5 10 (by decide) dX8_wouldLeave_5 (fun hc => ?_) (fun hc => ?_)
  · have h := of_f hc h
    refine tr_aload_n hO 10 0 rfl dX8_wouldLeave_10 ?_
    refine tr_iload_n hO 11 1 rfl dX8_wouldLeave_11 ?_
    obtain ⟨v3, μ4, hcall, h⟩ := of_bd h
    refine tr_callI hO 12 (na := 1) (As := [.int a1]) (st := []) (c_X8_layPulls hX  hcall) rfl (x_v0 (by decide)) rfl rfl wM_X8_155 wI_X8_layPulls wS_X8_layPulls wN_X8 wC_X8_layPulls (by decide +kernel) rfl (by decide) (by decide) (Nat.le_of_ble_eq_true rfl) dX8_wouldLeave_12 ?_
    refine tr_if_ne hO 15 21 (by decide) dX8_wouldLeave_15 (fun hc => ?_) (fun hc => ?_)
    · have h := of_f hc h
      refine tr_iconst hO 21 (v := 0) (by decide) dX8_wouldLeave_21 ?_
      refine tr_istore_n hO 22 (v := 0) rfl (lv' := [(2, .int 0), (0, .ref (X.1 27 0)), (1, .int a1)]) hn rfl (by decide) rfl dX8_wouldLeave_22 ?_
      obtain ⟨K7, e_K7, h⟩ := of_lt h
      have K7_T : ∀ (μ8 : mT), K7 μ8 = some (r, μ') → tj X Γ μ8 42 [(0, .ref (X.1 27 0))] [] := by
        intro μ8 h
        rw [e_K7] at h
        refine tr_aload_n hO 42 0 rfl dX8_wouldLeave_42 ?_
        refine tr_get hO 43 (k := 0) (x_v0 (by decide)) rfl rfl iX8 (by decide) wF_X8_7 rfl rfl dX8_wouldLeave_43 ?_
        refine tr_bipush hO 46 (v := 6) (by decide) dX8_wouldLeave_46 ?_
        refine tr_iald hO 48 (x_v0 (by decide)) a_28 (by decide) dX8_wouldLeave_48 ?_
        obtain ⟨v9, e_v9, h⟩ := of_lt h
        refine tr_istore_n hO 49 (v := v9) e_v9 (lv' := [(2, .int v9), (0, .ref (X.1 27 0))]) hn rfl (by decide) rfl dX8_wouldLeave_49 ?_
        refine tr_iconst hO 50 (v := 0) (by decide) dX8_wouldLeave_50 ?_
        refine tr_istore_n hO 51 (v := 0) rfl (lv' := [(3, .int 0), (2, .int v9), (0, .ref (X.1 27 0))]) hn rfl (by decide) rfl dX8_wouldLeave_51 ?_
        have L52_T : ∀ (n : Nat) (v10 : Int32) (v11 : Int32) (μ12 : mT), f_X8_wouldLeave_L52 n v10 v11 μ12 = some (r, μ') → tj X Γ μ12 52 [(0, .ref (X.1 27 0)), (2, .int v10), (3, .int v11)] [] := by
          intro n
          induction n with
          | zero =>
            intro v10 v11 μ12 h
            rw [f_X8_wouldLeave_L52] at h
            cases h
          | succ n ih =>
            intro v10 v11 μ12 h
            rw [f_X8_wouldLeave_L52] at h
            refine tr_iload_n hO 52 2 rfl dX8_wouldLeave_52 ?_
            refine tr_aload_n hO 53 0 rfl dX8_wouldLeave_53 ?_
            refine tr_get hO 54 (k := 14) (x_v0 (by decide)) rfl rfl iX8 (by decide) wF_X8_152 rfl rfl dX8_wouldLeave_54 ?_
            refine tr_icmp_ge hO 57 138 (by decide) dX8_wouldLeave_57 (fun hc => ?_) (fun hc => ?_)
            · have h := of_t hc h
              refine tr_iload_n hO 138 1 rfl dX8_wouldLeave_138 ?_
              cases h
              exact tr_iret hO 139 hQ rfl dX8_wouldLeave_139
            · have h := of_f hc h
              refine tr_aload_n hO 60 0 rfl dX8_wouldLeave_60 ?_
              refine tr_get hO 61 (k := 12) (x_v0 (by decide)) rfl rfl iX8 (by decide) wF_X8_38 rfl rfl dX8_wouldLeave_61 ?_
              refine tr_iload_n hO 64 2 rfl dX8_wouldLeave_64 ?_
              obtain ⟨hg, h⟩ := of_gd h
              refine tr_iald hO 65 (x_v0 (by decide)) a_37 hg dX8_wouldLeave_65 ?_
              obtain ⟨v13, e_v13, h⟩ := of_lt h
              refine tr_istore hO 66 (v := v13) e_v13 (lv' := [(4, .int v13), (0, .ref (X.1 27 0)), (2, .int v10), (3, .int v11)]) hn (by decide) rfl dX8_wouldLeave_66 ?_
              refine tr_aload_n hO 68 1 rfl dX8_wouldLeave_68 ?_
              refine tr_get hO 69 (k := 11) (x_v0 (by decide)) rfl rfl iX8 (by decide) wF_X8_35 rfl rfl dX8_wouldLeave_69 ?_
              refine tr_iload hO 72 0 rfl dX8_wouldLeave_72 ?_
              refine tr_dup2 hO 74 rfl rfl dX8_wouldLeave_74 ?_
              obtain ⟨hg, h⟩ := of_gd h
              refine tr_iald hO 75 (x_v0 (by decide)) a_36 hg dX8_wouldLeave_75 ?_
              refine tr_aload_n hO 76 1 rfl dX8_wouldLeave_76 ?_
              refine tr_get hO 77 (k := 13) (x_v0 (by decide)) rfl rfl iX8 (by decide) wF_X8_41 rfl rfl dX8_wouldLeave_77 ?_
              refine tr_iload_n hO 80 3 rfl dX8_wouldLeave_80 ?_
              obtain ⟨hg, h⟩ := of_gd h
              refine tr_iald hO 81 (x_v0 (by decide)) a_38 hg dX8_wouldLeave_81 ?_
              refine tr_iadd hO 82 dX8_wouldLeave_82 ?_
              obtain ⟨hg, h⟩ := of_gd h
              obtain ⟨μ14, e_μ14, h⟩ := of_lt h
              refine tr_iast hO 83 e_μ14 (x_v0 (by decide)) a_36 hg dX8_wouldLeave_83 ?_
              refine tr_aload_n hO 84 1 rfl dX8_wouldLeave_84 ?_
              refine tr_get hO 85 (k := 0) (x_v0 (by decide)) rfl rfl iX8 (by decide) wF_X8_7 rfl rfl dX8_wouldLeave_85 ?_
              refine tr_iconst hO 88 (v := 2) (by decide) dX8_wouldLeave_88 ?_
              refine tr_iald hO 89 (x_v0 (by decide)) a_28 (by decide) dX8_wouldLeave_89 ?_
              refine tr_aload_n hO 90 1 rfl dX8_wouldLeave_90 ?_
              refine tr_get hO 91 (k := 0) (x_v0 (by decide)) rfl rfl iX8 (by decide) wF_X8_7 rfl rfl dX8_wouldLeave_91 ?_
              refine tr_iconst hO 94 (v := 3) (by decide) dX8_wouldLeave_94 ?_
              refine tr_iald hO 95 (x_v0 (by decide)) a_28 (by decide) dX8_wouldLeave_95 ?_
              refine tr_aload_n hO 96 1 rfl dX8_wouldLeave_96 ?_
              refine tr_iload hO 97 0 rfl dX8_wouldLeave_97 ?_
              obtain ⟨v15, μ16, hcall, h⟩ := of_bd h
              refine tr_callI hO 99 (na := 1) (As := [.int v13]) (st := [.int (μ14 28 0 (3 : Int32).toNatClampNeg), .int (μ14 28 0 (2 : Int32).toNatClampNeg)]) (c_X8_manyOn hX  hcall) rfl (x_v0 (by decide)) rfl rfl wM_X8_72 wI_X8_manyOn wS_X8_manyOn wN_X8 wC_X8_manyOn (by decide +kernel) rfl (by decide) (by decide) (Nat.le_of_ble_eq_true rfl) dX8_wouldLeave_99 ?_
              refine tr_aload_n hO 102 1 rfl dX8_wouldLeave_102 ?_
              refine tr_get hO 103 (k := 11) (x_v0 (by decide)) rfl rfl iX8 (by decide) wF_X8_35 rfl rfl dX8_wouldLeave_103 ?_
              refine tr_iload hO 106 0 rfl dX8_wouldLeave_106 ?_
              obtain ⟨hg, h⟩ := of_gd h
              refine tr_iald hO 108 (x_v0 (by decide)) a_36 hg dX8_wouldLeave_108 ?_
              obtain ⟨J17, e_J17, h⟩ := of_lt h
              have J17_T : ∀ (v18 : Int32) (μ19 : mT), J17 v18 μ19 = some (r, μ') → tj X Γ μ19 117 [(0, .ref (X.1 27 0)), (2, .int v10), (3, .int v11)] [.int v18, .int (μ14 28 0 (3 : Int32).toNatClampNeg), .int (μ14 28 0 (2 : Int32).toNatClampNeg)] := by
                intro v18 μ19 h
                rw [e_J17] at h
                refine tr_imul hO 117 dX8_wouldLeave_117 ?_
                refine tr_iadd hO 118 dX8_wouldLeave_118 ?_
                obtain ⟨v20, e_v20, h⟩ := of_lt h
                refine tr_istore hO 119 (v := v20) e_v20 (lv' := [(5, .int v20), (0, .ref (X.1 27 0)), (2, .int v10), (3, .int v11)]) hn (by decide) rfl dX8_wouldLeave_119 ?_
                refine tr_aload_n hO 121 1 rfl dX8_wouldLeave_121 ?_
                refine tr_iload_n hO 122 2 rfl dX8_wouldLeave_122 ?_
                refine tr_iload hO 123 0 rfl dX8_wouldLeave_123 ?_
                obtain ⟨v21, μ22, hcall, h⟩ := of_bd h
                refine tr_callI hO 125 (na := 2) (As := [.int v10, .int v20]) (st := []) (c_X8_freeAt hX  hcall) rfl (x_v0 (by decide)) rfl rfl wM_X8_86 wI_X8_freeAt wS_X8_freeAt wN_X8 wC_X8_freeAt (by decide +kernel) rfl (by decide) (by decide) (Nat.le_of_ble_eq_true rfl) dX8_wouldLeave_125 ?_
                refine tr_iload hO 128 0 rfl dX8_wouldLeave_128 ?_
                refine tr_iadd hO 130 dX8_wouldLeave_130 ?_
                obtain ⟨v23, e_v23, h⟩ := of_lt h
                refine tr_istore_n hO 131 (v := v23) e_v23 (lv' := [(2, .int v23), (5, .int v20), (0, .ref (X.1 27 0)), (3, .int v11)]) hn rfl (by decide) rfl dX8_wouldLeave_131 ?_
                obtain ⟨v24, e_v24, h⟩ := of_lt h
                refine tr_iinc hO 132 (q := 3) (v := v24) (lv' := [(3, .int v24), (2, .int v23), (5, .int v20), (0, .ref (X.1 27 0))]) hn rfl (by rw [e_v24]; rfl) (by decide) rfl dX8_wouldLeave_132 ?_
                refine tr_goto hO 135 52 (by decide) dX8_wouldLeave_135 ?_
                refine tr_sub [3, 1, 0] rfl ?_
                exact ih _ _ _ h
              refine tr_icmp_le hO 109 116 (by decide) dX8_wouldLeave_109 (fun hc => ?_) (fun hc => ?_)
              · have h := of_t hc h
                refine tr_iconst hO 116 (v := 1) (by decide) dX8_wouldLeave_116 ?_
                refine tr_sub [1, 2, 3] rfl ?_
                exact J17_T _ _ h
              · have h := of_f hc h
                refine tr_iconst hO 112 (v := 2) (by decide) dX8_wouldLeave_112 ?_
                refine tr_goto hO 113 117 (by decide) dX8_wouldLeave_113 ?_
                refine tr_sub [1, 2, 3] rfl ?_
                exact J17_T _ _ h
        refine tr_sub [2, 1, 0] rfl ?_
        exact L52_T _ _ _ _ h
      have L23_T : ∀ (n : Nat) (v5 : Int32) (μ6 : mT), f_X8_wouldLeave_L23 K7 n v5 μ6 = some (r, μ') → tj X Γ μ6 23 [(0, .ref (X.1 27 0)), (2, .int v5)] [] := by
        intro n
        induction n with
        | zero =>
          intro v5 μ6 h
          rw [f_X8_wouldLeave_L23] at h
          cases h
        | succ n ih =>
          intro v5 μ6 h
          rw [f_X8_wouldLeave_L23] at h
          refine tr_iload_n hO 23 1 rfl dX8_wouldLeave_23 ?_
          refine tr_bipush hO 24 (v := 8) (by decide) dX8_wouldLeave_24 ?_
          refine tr_icmp_ge hO 26 42 (by decide) dX8_wouldLeave_26 (fun hc => ?_) (fun hc => ?_)
          · have h := of_t hc h
            refine tr_sub [0] rfl ?_
            exact K7_T _ h
          · have h := of_f hc h
            refine tr_aload_n hO 29 0 rfl dX8_wouldLeave_29 ?_
            refine tr_get hO 30 (k := 11) (x_v0 (by decide)) rfl rfl iX8 (by decide) wF_X8_35 rfl rfl dX8_wouldLeave_30 ?_
            refine tr_iload_n hO 33 1 rfl dX8_wouldLeave_33 ?_
            refine tr_iconst hO 34 (v := 0) (by decide) dX8_wouldLeave_34 ?_
            obtain ⟨hg, h⟩ := of_gd h
            obtain ⟨μ25, e_μ25, h⟩ := of_lt h
            refine tr_iast hO 35 e_μ25 (x_v0 (by decide)) a_36 hg dX8_wouldLeave_35 ?_
            obtain ⟨v26, e_v26, h⟩ := of_lt h
            refine tr_iinc hO 36 (q := 1) (v := v26) (lv' := [(2, .int v26), (0, .ref (X.1 27 0))]) hn rfl (by rw [e_v26]; rfl) (by decide) rfl dX8_wouldLeave_36 ?_
            refine tr_goto hO 39 23 (by decide) dX8_wouldLeave_39 ?_
            refine tr_sub [1, 0] rfl ?_
            exact ih _ _ h
      refine tr_sub [1, 0] rfl ?_
      exact L23_T _ _ _ h
    · have h := of_t hc h
      refine tr_bipush hO 18 (v := (-6)) (by decide) dX8_wouldLeave_18 ?_
      cases h
      exact tr_iret hO 20 hQ rfl dX8_wouldLeave_20
  · have h := of_t hc h
    refine tr_iconst hO 8 (v := (-1)) (by decide) dX8_wouldLeave_8 ?_
    cases h
    exact tr_iret hO 9 hQ rfl dX8_wouldLeave_9
set_option maxHeartbeats 4000000 in
set_option maxRecDepth 100000 in
theorem c_X8_comeBack2 {X : xT} (hX : xOK X)   {μ μ' : mT} {r : Int32} (h : f_X8_comeBack2 μ = some (r, μ')) : CMv X yX8_comeBack2 cX8_comeBack2 2 0 0 [.ref (X.1 27 0)] μ μ' := by
  refine CMv_of hX (by decide +kernel) (lv := [(0, .ref (X.1 27 0))]) (Nat.le_of_ble_eq_true rfl) rfl (fun Γ hO hn hQ => ?_)
  have hO : Ok X RX8 cX8_comeBack2 0 0 Γ := hO
  unfold f_X8_comeBack2 at h
  refine tr_iconst hO 0 (v := 0) (by decide) dX8_comeBack2_0 ?_
  refine tr_istore_n hO 1 (v := 0) rfl (lv' := [(1, .int 0), (0, .ref (X.1 27 0))]) hn rfl (by decide) rfl dX8_comeBack2_1 ?_
  have L2_T : ∀ (n : Nat) (v1 : Int32) (μ2 : mT), f_X8_comeBack2_L2 n v1 μ2 = some (r, μ') → tj X Γ μ2 2 [(0, .ref (X.1 27 0)), (1, .int v1)] [] := by
    intro n
    induction n with
    | zero =>
      intro v1 μ2 h
      rw [f_X8_comeBack2_L2] at h
      cases h
    | succ n ih =>
      intro v1 μ2 h
      rw [f_X8_comeBack2_L2] at h
      refine tr_iload_n hO 2 1 rfl dX8_comeBack2_2 ?_
      refine tr_sipush hO 3 (v := 560) (by decide) dX8_comeBack2_3 ?_
      refine tr_icmp_ge hO 6 27 (by decide) dX8_comeBack2_6 (fun hc => ?_) (fun hc => ?_)
      · have h := of_t hc h
        cases h
        exact tr_vret hO 27 hQ dX8_comeBack2_27
      · have h := of_f hc h
        refine tr_aload_n hO 9 0 rfl dX8_comeBack2_9 ?_
        refine tr_get hO 10 (k := 0) (x_v0 (by decide)) rfl rfl iX8 (by decide) wF_X8_7 rfl rfl dX8_comeBack2_10 ?_
        refine tr_iload_n hO 13 1 rfl dX8_comeBack2_13 ?_
        refine tr_aload_n hO 14 0 rfl dX8_comeBack2_14 ?_
        refine tr_get hO 15 (k := 2) (x_v0 (by decide)) rfl rfl iX8 (by decide) wF_X8_16 rfl rfl dX8_comeBack2_15 ?_
        refine tr_iload_n hO 18 1 rfl dX8_comeBack2_18 ?_
        obtain ⟨hg, h⟩ := of_gd h
        refine tr_iald hO 19 (x_v0 (by decide)) a_30 hg dX8_comeBack2_19 ?_
        obtain ⟨hg, h⟩ := of_gd h
        obtain ⟨μ3, e_μ3, h⟩ := of_lt h
        refine tr_iast hO 20 e_μ3 (x_v0 (by decide)) a_28 hg dX8_comeBack2_20 ?_
        obtain ⟨v4, e_v4, h⟩ := of_lt h
        refine tr_iinc hO 21 (q := 1) (v := v4) (lv' := [(1, .int v4), (0, .ref (X.1 27 0))]) hn rfl (by rw [e_v4]; rfl) (by decide) rfl dX8_comeBack2_21 ?_
        refine tr_goto hO 24 2 (by decide) dX8_comeBack2_24 ?_
        refine tr_sub [1, 0] rfl ?_
        exact ih _ _ h
  refine tr_sub [1, 0] rfl ?_
  exact L2_T _ _ _ h
set_option maxHeartbeats 4000000 in
set_option maxRecDepth 100000 in
theorem c_X8_oneMore {X : xT} (hX : xOK X) {a1 : Int32}  {μ μ' : mT} {r : Int32} (h : f_X8_oneMore a1 μ = some (r, μ')) : CMi X yX8_oneMore cX8_oneMore 5 .boolean 4 88 [.ref (X.1 27 0), .int a1] μ r μ' := by
  refine CMi_of hX (by decide +kernel) (lv := [(0, .ref (X.1 27 0)), (1, .int a1)]) (Nat.le_of_ble_eq_true rfl) rfl (fun Γ hO hn hQ => ?_)
  have hO : Ok X RX8 cX8_oneMore 4 88 Γ := hO
  unfold f_X8_oneMore at h
  refine tr_iconst hO 0 (v := 0) (by decide) dX8_oneMore_0 ?_
  refine tr_istore_n hO 1 (v := 0) rfl (lv' := [(2, .int 0), (0, .ref (X.1 27 0)), (1, .int a1)]) hn rfl (by decide) rfl dX8_oneMore_1 ?_
  refine tr_iconst hO 2 (v := 0) (by decide) dX8_oneMore_2 ?_
  refine tr_istore_n hO 3 (v := 0) rfl (lv' := [(3, .int 0), (2, .int 0), (0, .ref (X.1 27 0)), (1, .int a1)]) hn rfl (by decide) rfl dX8_oneMore_3 ?_
  obtain ⟨K3, e_K3, h⟩ := of_lt h
  have K3_T : ∀ (μ4 : mT), K3 μ4 = some (r, μ') → tj X Γ μ4 29 [(0, .ref (X.1 27 0)), (1, .int a1), (2, .int 0)] [] := by
    intro μ4 h
    rw [e_K3] at h
    refine tr_iconst hO 29 (v := 0) (by decide) dX8_oneMore_29 ?_
    refine tr_istore_n hO 30 (v := 0) rfl (lv' := [(3, .int 0), (0, .ref (X.1 27 0)), (1, .int a1), (2, .int 0)]) hn rfl (by decide) rfl dX8_oneMore_30 ?_
    obtain ⟨K8, e_K8, h⟩ := of_lt h
    have K8_T : ∀ (v9 : Int32) (μ10 : mT), K8 v9 μ10 = some (r, μ') → tj X Γ μ10 132 [(0, .ref (X.1 27 0)), (1, .int a1), (2, .int v9)] [] := by
      intro v9 μ10 h
      rw [e_K8] at h
      refine tr_iload_n hO 132 2 rfl dX8_oneMore_132 ?_
      refine tr_if_ne hO 133 157 (by decide) dX8_oneMore_133 (fun hc => ?_) (fun hc => ?_)
      · have h := of_f hc h
        refine tr_iload_n hO 157 2 rfl dX8_oneMore_157 ?_
        obtain ⟨hg, h⟩ := of_gd h
        cases h
        exact tr_iret hO 158 hQ (isB_n hg) dX8_oneMore_158
      · have h := of_t hc h
        refine tr_aload_n hO 136 0 rfl dX8_oneMore_136 ?_
        obtain ⟨v11, μ12, hcall, h⟩ := of_bd h
        refine tr_callI hO 137 (na := 0) (As := []) (st := []) (c_X8_canRound hX  hcall) rfl (x_v0 (by decide)) rfl rfl wM_X8_114 wI_X8_canRound wS_X8_canRound wN_X8 wC_X8_canRound (by decide +kernel) rfl (by decide) (by decide) (Nat.le_of_ble_eq_true rfl) dX8_oneMore_137 ?_
        refine tr_if_eq hO 140 157 (by decide) dX8_oneMore_140 (fun hc => ?_) (fun hc => ?_)
        · have h := of_t hc h
          refine tr_iload_n hO 157 2 rfl dX8_oneMore_157 ?_
          obtain ⟨hg, h⟩ := of_gd h
          cases h
          exact tr_iret hO 158 hQ (isB_n hg) dX8_oneMore_158
        · have h := of_f hc h
          refine tr_aload_n hO 143 0 rfl dX8_oneMore_143 ?_
          obtain ⟨v13, μ14, hcall, h⟩ := of_bd h
          refine tr_callV hO 144 (na := 0) (As := []) (st := []) (c_X8_turnRound hX  hcall) rfl (x_v0 (by decide)) rfl rfl wM_X8_118 wI_X8_turnRound wS_X8_turnRound wN_X8 wC_X8_turnRound (by decide +kernel) rfl (by decide) (by decide) (Nat.le_of_ble_eq_true rfl) dX8_oneMore_144 ?_
          refine tr_aload_n hO 147 0 rfl dX8_oneMore_147 ?_
          refine tr_iload_n hO 148 1 rfl dX8_oneMore_148 ?_
          obtain ⟨v15, μ16, hcall, h⟩ := of_bd h
          refine tr_callI hO 149 (na := 1) (As := [.int a1]) (st := []) (c_X8_canLeave hX  hcall) rfl (x_v0 (by decide)) rfl rfl wM_X8_139 wI_X8_canLeave wS_X8_canLeave wN_X8 wC_X8_canLeave (by decide +kernel) rfl (by decide) (by decide) (Nat.le_of_ble_eq_true rfl) dX8_oneMore_149 ?_
          refine tr_istore_n hO 152 (v := v15) rfl (lv' := [(2, .int v15), (0, .ref (X.1 27 0)), (1, .int a1)]) hn rfl (by decide) rfl dX8_oneMore_152 ?_
          refine tr_aload_n hO 153 1 rfl dX8_oneMore_153 ?_
          obtain ⟨v17, μ18, hcall, h⟩ := of_bd h
          refine tr_callV hO 154 (na := 0) (As := []) (st := []) (c_X8_comeBack2 hX  hcall) rfl (x_v0 (by decide)) rfl rfl wM_X8_158 wI_X8_comeBack2 wS_X8_comeBack2 wN_X8 wC_X8_comeBack2 (by decide +kernel) rfl (by decide) (by decide) (Nat.le_of_ble_eq_true rfl) dX8_oneMore_154 ?_
          refine tr_iload_n hO 157 0 rfl dX8_oneMore_157 ?_
          obtain ⟨hg, h⟩ := of_gd h
          cases h
          exact tr_iret hO 158 hQ (isB_n hg) dX8_oneMore_158
    have L31_T : ∀ (n : Nat) (v5 : Int32) (v6 : Int32) (μ7 : mT), f_X8_oneMore_L31 a1 K8 n v5 v6 μ7 = some (r, μ') → tj X Γ μ7 31 [(0, .ref (X.1 27 0)), (1, .int a1), (2, .int v5), (3, .int v6)] [] := by
      intro n
      induction n with
      | zero =>
        intro v5 v6 μ7 h
        rw [f_X8_oneMore_L31] at h
        cases h
      | succ n ih =>
        intro v5 v6 μ7 h
        rw [f_X8_oneMore_L31] at h
        refine tr_iload_n hO 31 3 rfl dX8_oneMore_31 ?_
        refine tr_aload_n hO 32 0 rfl dX8_oneMore_32 ?_
        refine tr_get hO 33 (k := 0) (x_v0 (by decide)) rfl rfl iX8 (by decide) wF_X8_7 rfl rfl dX8_oneMore_33 ?_
        refine tr_bipush hO 36 (v := 7) (by decide) dX8_oneMore_36 ?_
        refine tr_iald hO 38 (x_v0 (by decide)) a_28 (by decide) dX8_oneMore_38 ?_
        refine tr_icmp_ge hO 39 132 (by decide) dX8_oneMore_39 (fun hc => ?_) (fun hc => ?_)
        · have h := of_t hc h
          refine tr_sub [0, 1, 2] rfl ?_
          exact K8_T _ _ h
        · have h := of_f hc h
          refine tr_iload_n hO 42 2 rfl dX8_oneMore_42 ?_
          refine tr_if_ne hO 43 132 (by decide) dX8_oneMore_43 (fun hc => ?_) (fun hc => ?_)
          · have h := of_f hc h
            refine tr_sub [0, 1, 2] rfl ?_
            exact K8_T _ _ h
          · have h := of_t hc h
            refine tr_iconst hO 46 (v := 1) (by decide) dX8_oneMore_46 ?_
            refine tr_istore hO 47 (v := 1) rfl (lv' := [(4, .int 1), (0, .ref (X.1 27 0)), (1, .int a1), (2, .int v5), (3, .int v6)]) hn (by decide) rfl dX8_oneMore_47 ?_
            obtain ⟨K22, e_K22, h⟩ := of_lt h
            have K22_T : ∀ (v23 : Int32) (μ24 : mT), K22 v23 μ24 = some (r, μ') → tj X Γ μ24 126 [(0, .ref (X.1 27 0)), (1, .int a1), (2, .int v23), (3, .int v6)] [] := by
              intro v23 μ24 h
              rw [e_K22] at h
              obtain ⟨v25, e_v25, h⟩ := of_lt h
              refine tr_iinc hO 126 (q := 3) (v := v25) (lv' := [(3, .int v25), (0, .ref (X.1 27 0)), (1, .int a1), (2, .int v23)]) hn rfl (by rw [e_v25]; rfl) (by decide) rfl dX8_oneMore_126 ?_
              refine tr_goto hO 129 31 (by decide) dX8_oneMore_129 ?_
              refine tr_sub [1, 2, 3, 0] rfl ?_
              exact ih _ _ _ h
            have L49_T : ∀ (n : Nat) (v19 : Int32) (v20 : Int32) (μ21 : mT), f_X8_oneMore_L49 a1 v6 K22 n v19 v20 μ21 = some (r, μ') → tj X Γ μ21 49 [(0, .ref (X.1 27 0)), (1, .int a1), (2, .int v19), (3, .int v6), (4, .int v20)] [] := by
              intro n
              induction n with
              | zero =>
                intro v19 v20 μ21 h
                rw [f_X8_oneMore_L49] at h
                cases h
              | succ n ih =>
                intro v19 v20 μ21 h
                rw [f_X8_oneMore_L49] at h
                refine tr_iload hO 49 4 rfl dX8_oneMore_49 ?_
                refine tr_bipush hO 51 (v := 31) (by decide) dX8_oneMore_51 ?_
                refine tr_icmp_ge hO 53 126 (by decide) dX8_oneMore_53 (fun hc => ?_) (fun hc => ?_)
                · have h := of_t hc h
                  refine tr_sub [0, 1, 2, 3] rfl ?_
                  exact K22_T _ _ h
                · have h := of_f hc h
                  refine tr_iload_n hO 56 2 rfl dX8_oneMore_56 ?_
                  refine tr_if_ne hO 57 126 (by decide) dX8_oneMore_57 (fun hc => ?_) (fun hc => ?_)
                  · have h := of_f hc h
                    refine tr_sub [0, 1, 2, 3] rfl ?_
                    exact K22_T _ _ h
                  · have h := of_t hc h
                    refine tr_aload_n hO 60 0 rfl dX8_oneMore_60 ?_
                    refine tr_iload_n hO 61 3 rfl dX8_oneMore_61 ?_
                    refine tr_iload hO 62 4 rfl dX8_oneMore_62 ?_
                    obtain ⟨v26, μ27, hcall, h⟩ := of_bd h
                    refine tr_callI hO 64 (na := 2) (As := [.int v6, .int v20]) (st := []) (c_X8_canPull hX  hcall) rfl (x_v0 (by decide)) rfl rfl wM_X8_97 wI_X8_canPull wS_X8_canPull wN_X8 wC_X8_canPull (by decide +kernel) rfl (by decide) (by decide) (Nat.le_of_ble_eq_true rfl) dX8_oneMore_64 ?_
                    obtain ⟨J28, e_J28, h⟩ := of_lt h
                    have J28_T : ∀ (v29 : Int32) (μ30 : mT), J28 v29 μ30 = some (r, μ') → tj X Γ μ30 88 [(0, .ref (X.1 27 0)), (1, .int a1), (2, .int v29), (3, .int v6), (4, .int v20)] [] := by
                      intro v29 μ30 h
                      rw [e_J28] at h
                      refine tr_iload_n hO 88 2 rfl dX8_oneMore_88 ?_
                      obtain ⟨J31, e_J31, h⟩ := of_lt h
                      have J31_T : ∀ (v32 : Int32) (μ33 : mT), J31 v32 μ33 = some (r, μ') → tj X Γ μ33 120 [(0, .ref (X.1 27 0)), (1, .int a1), (2, .int v32), (3, .int v6), (4, .int v20)] [] := by
                        intro v32 μ33 h
                        rw [e_J31] at h
                        obtain ⟨v34, e_v34, h⟩ := of_lt h
                        refine tr_iinc hO 120 (q := 4) (v := v34) (lv' := [(4, .int v34), (0, .ref (X.1 27 0)), (1, .int a1), (2, .int v32), (3, .int v6)]) hn rfl (by rw [e_v34]; rfl) (by decide) rfl dX8_oneMore_120 ?_
                        refine tr_goto hO 123 49 (by decide) dX8_oneMore_123 ?_
                        refine tr_sub [1, 2, 3, 4, 0] rfl ?_
                        exact ih _ _ _ h
                      refine tr_if_ne hO 89 120 (by decide) dX8_oneMore_89 (fun hc => ?_) (fun hc => ?_)
                      · have h := of_f hc h
                        exact J31_T _ _ h
                      · have h := of_t hc h
                        refine tr_aload_n hO 92 0 rfl dX8_oneMore_92 ?_
                        refine tr_iload_n hO 93 3 rfl dX8_oneMore_93 ?_
                        refine tr_iload hO 94 4 rfl dX8_oneMore_94 ?_
                        obtain ⟨v35, μ36, hcall, h⟩ := of_bd h
                        refine tr_callI hO 96 (na := 2) (As := [.int v6, .int v20]) (st := []) (c_X8_canPush hX  hcall) rfl (x_v0 (by decide)) rfl rfl wM_X8_108 wI_X8_canPush wS_X8_canPush wN_X8 wC_X8_canPush (by decide +kernel) rfl (by decide) (by decide) (Nat.le_of_ble_eq_true rfl) dX8_oneMore_96 ?_
                        refine tr_if_eq hO 99 120 (by decide) dX8_oneMore_99 (fun hc => ?_) (fun hc => ?_)
                        · have h := of_t hc h
                          exact J31_T _ _ h
                        · have h := of_f hc h
                          refine tr_aload_n hO 102 0 rfl dX8_oneMore_102 ?_
                          refine tr_iload_n hO 103 3 rfl dX8_oneMore_103 ?_
                          refine tr_iload hO 104 4 rfl dX8_oneMore_104 ?_
                          obtain ⟨v37, μ38, hcall, h⟩ := of_bd h
                          refine tr_callI hO 106 (na := 2) (As := [.int v6, .int v20]) (st := []) (c_X8_setBack hX  hcall) rfl (x_v0 (by decide)) rfl rfl wM_X8_111 wI_X8_setBack wS_X8_setBack wN_X8 wC_X8_setBack (by decide +kernel) rfl (by decide) (by decide) (Nat.le_of_ble_eq_true rfl) dX8_oneMore_106 ?_
                          refine tr_pop hO 109 rfl dX8_oneMore_109 ?_
                          refine tr_aload_n hO 110 0 rfl dX8_oneMore_110 ?_
                          refine tr_iload_n hO 111 1 rfl dX8_oneMore_111 ?_
                          obtain ⟨v39, μ40, hcall, h⟩ := of_bd h
                          refine tr_callI hO 112 (na := 1) (As := [.int a1]) (st := []) (c_X8_canLeave hX  hcall) rfl (x_v0 (by decide)) rfl rfl wM_X8_139 wI_X8_canLeave wS_X8_canLeave wN_X8 wC_X8_canLeave (by decide +kernel) rfl (by decide) (by decide) (Nat.le_of_ble_eq_true rfl) dX8_oneMore_112 ?_
                          refine tr_istore_n hO 115 (v := v39) rfl (lv' := [(2, .int v39), (0, .ref (X.1 27 0)), (1, .int a1), (3, .int v6), (4, .int v20)]) hn rfl (by decide) rfl dX8_oneMore_115 ?_
                          refine tr_aload_n hO 116 1 rfl dX8_oneMore_116 ?_
                          obtain ⟨v41, μ42, hcall, h⟩ := of_bd h
                          refine tr_callV hO 117 (na := 0) (As := []) (st := []) (c_X8_comeBack2 hX  hcall) rfl (x_v0 (by decide)) rfl rfl wM_X8_158 wI_X8_comeBack2 wS_X8_comeBack2 wN_X8 wC_X8_comeBack2 (by decide +kernel) rfl (by decide) (by decide) (Nat.le_of_ble_eq_true rfl) dX8_oneMore_117 ?_
                          refine tr_sub [1, 2, 0, 3, 4] rfl ?_
                          exact J31_T _ _ h
                    refine tr_if_eq hO 67 88 (by decide) dX8_oneMore_67 (fun hc => ?_) (fun hc => ?_)
                    · have h := of_t hc h
                      exact J28_T _ _ h
                    · have h := of_f hc h
                      refine tr_aload_n hO 70 0 rfl dX8_oneMore_70 ?_
                      refine tr_iload_n hO 71 3 rfl dX8_oneMore_71 ?_
                      refine tr_iload hO 72 4 rfl dX8_oneMore_72 ?_
                      obtain ⟨v43, μ44, hcall, h⟩ := of_bd h
                      refine tr_callI hO 74 (na := 2) (As := [.int v6, .int v20]) (st := []) (c_X8_drawOut hX  hcall) rfl (x_v0 (by decide)) rfl rfl wM_X8_101 wI_X8_drawOut wS_X8_drawOut wN_X8 wC_X8_drawOut (by decide +kernel) rfl (by decide) (by decide) (Nat.le_of_ble_eq_true rfl) dX8_oneMore_74 ?_
                      refine tr_pop hO 77 rfl dX8_oneMore_77 ?_
                      refine tr_aload_n hO 78 0 rfl dX8_oneMore_78 ?_
                      refine tr_iload_n hO 79 1 rfl dX8_oneMore_79 ?_
                      obtain ⟨v45, μ46, hcall, h⟩ := of_bd h
                      refine tr_callI hO 80 (na := 1) (As := [.int a1]) (st := []) (c_X8_canLeave hX  hcall) rfl (x_v0 (by decide)) rfl rfl wM_X8_139 wI_X8_canLeave wS_X8_canLeave wN_X8 wC_X8_canLeave (by decide +kernel) rfl (by decide) (by decide) (Nat.le_of_ble_eq_true rfl) dX8_oneMore_80 ?_
                      refine tr_istore_n hO 83 (v := v45) rfl (lv' := [(2, .int v45), (0, .ref (X.1 27 0)), (1, .int a1), (3, .int v6), (4, .int v20)]) hn rfl (by decide) rfl dX8_oneMore_83 ?_
                      refine tr_aload_n hO 84 1 rfl dX8_oneMore_84 ?_
                      obtain ⟨v47, μ48, hcall, h⟩ := of_bd h
                      refine tr_callV hO 85 (na := 0) (As := []) (st := []) (c_X8_comeBack2 hX  hcall) rfl (x_v0 (by decide)) rfl rfl wM_X8_158 wI_X8_comeBack2 wS_X8_comeBack2 wN_X8 wC_X8_comeBack2 (by decide +kernel) rfl (by decide) (by decide) (Nat.le_of_ble_eq_true rfl) dX8_oneMore_85 ?_
                      refine tr_sub [1, 2, 0, 3, 4] rfl ?_
                      exact J28_T _ _ h
            refine tr_sub [1, 2, 3, 4, 0] rfl ?_
            exact L49_T _ _ _ _ h
    refine tr_sub [1, 2, 3, 0] rfl ?_
    exact L31_T _ _ _ _ h
  have L4_T : ∀ (n : Nat) (v1 : Int32) (μ2 : mT), f_X8_oneMore_L4 a1 K3 n v1 μ2 = some (r, μ') → tj X Γ μ2 4 [(0, .ref (X.1 27 0)), (1, .int a1), (2, .int 0), (3, .int v1)] [] := by
    intro n
    induction n with
    | zero =>
      intro v1 μ2 h
      rw [f_X8_oneMore_L4] at h
      cases h
    | succ n ih =>
      intro v1 μ2 h
      rw [f_X8_oneMore_L4] at h
      refine tr_iload_n hO 4 3 rfl dX8_oneMore_4 ?_
      refine tr_sipush hO 5 (v := 560) (by decide) dX8_oneMore_5 ?_
      refine tr_icmp_ge hO 8 29 (by decide) dX8_oneMore_8 (fun hc => ?_) (fun hc => ?_)
      · have h := of_t hc h
        refine tr_sub [0, 1, 2] rfl ?_
        exact K3_T _ h
      · have h := of_f hc h
        refine tr_aload_n hO 11 0 rfl dX8_oneMore_11 ?_
        refine tr_get hO 12 (k := 2) (x_v0 (by decide)) rfl rfl iX8 (by decide) wF_X8_16 rfl rfl dX8_oneMore_12 ?_
        refine tr_iload_n hO 15 3 rfl dX8_oneMore_15 ?_
        refine tr_aload_n hO 16 0 rfl dX8_oneMore_16 ?_
        refine tr_get hO 17 (k := 0) (x_v0 (by decide)) rfl rfl iX8 (by decide) wF_X8_7 rfl rfl dX8_oneMore_17 ?_
        refine tr_iload_n hO 20 3 rfl dX8_oneMore_20 ?_
        obtain ⟨hg, h⟩ := of_gd h
        refine tr_iald hO 21 (x_v0 (by decide)) a_28 hg dX8_oneMore_21 ?_
        obtain ⟨hg, h⟩ := of_gd h
        obtain ⟨μ49, e_μ49, h⟩ := of_lt h
        refine tr_iast hO 22 e_μ49 (x_v0 (by decide)) a_30 hg dX8_oneMore_22 ?_
        obtain ⟨v50, e_v50, h⟩ := of_lt h
        refine tr_iinc hO 23 (q := 3) (v := v50) (lv' := [(3, .int v50), (0, .ref (X.1 27 0)), (1, .int a1), (2, .int 0)]) hn rfl (by rw [e_v50]; rfl) (by decide) rfl dX8_oneMore_23 ?_
        refine tr_goto hO 26 4 (by decide) dX8_oneMore_26 ?_
        refine tr_sub [1, 2, 3, 0] rfl ?_
        exact ih _ _ h
  refine tr_sub [2, 3, 1, 0] rfl ?_
  exact L4_T _ _ _ h
set_option maxHeartbeats 4000000 in
set_option maxRecDepth 100000 in
theorem c_X8_comeBack {X : xT} (hX : xOK X)   {μ μ' : mT} {r : Int32} (h : f_X8_comeBack μ = some (r, μ')) : CMv X yX8_comeBack cX8_comeBack 2 0 0 [.ref (X.1 27 0)] μ μ' := by
  refine CMv_of hX (by decide +kernel) (lv := [(0, .ref (X.1 27 0))]) (Nat.le_of_ble_eq_true rfl) rfl (fun Γ hO hn hQ => ?_)
  have hO : Ok X RX8 cX8_comeBack 0 0 Γ := hO
  unfold f_X8_comeBack at h
  refine tr_iconst hO 0 (v := 0) (by decide) dX8_comeBack_0 ?_
  refine tr_istore_n hO 1 (v := 0) rfl (lv' := [(1, .int 0), (0, .ref (X.1 27 0))]) hn rfl (by decide) rfl dX8_comeBack_1 ?_
  have L2_T : ∀ (n : Nat) (v1 : Int32) (μ2 : mT), f_X8_comeBack_L2 n v1 μ2 = some (r, μ') → tj X Γ μ2 2 [(0, .ref (X.1 27 0)), (1, .int v1)] [] := by
    intro n
    induction n with
    | zero =>
      intro v1 μ2 h
      rw [f_X8_comeBack_L2] at h
      cases h
    | succ n ih =>
      intro v1 μ2 h
      rw [f_X8_comeBack_L2] at h
      refine tr_iload_n hO 2 1 rfl dX8_comeBack_2 ?_
      refine tr_sipush hO 3 (v := 560) (by decide) dX8_comeBack_3 ?_
      refine tr_icmp_ge hO 6 27 (by decide) dX8_comeBack_6 (fun hc => ?_) (fun hc => ?_)
      · have h := of_t hc h
        cases h
        exact tr_vret hO 27 hQ dX8_comeBack_27
      · have h := of_f hc h
        refine tr_aload_n hO 9 0 rfl dX8_comeBack_9 ?_
        refine tr_get hO 10 (k := 0) (x_v0 (by decide)) rfl rfl iX8 (by decide) wF_X8_7 rfl rfl dX8_comeBack_10 ?_
        refine tr_iload_n hO 13 1 rfl dX8_comeBack_13 ?_
        refine tr_aload_n hO 14 0 rfl dX8_comeBack_14 ?_
        refine tr_get hO 15 (k := 1) (x_v0 (by decide)) rfl rfl iX8 (by decide) wF_X8_13 rfl rfl dX8_comeBack_15 ?_
        refine tr_iload_n hO 18 1 rfl dX8_comeBack_18 ?_
        obtain ⟨hg, h⟩ := of_gd h
        refine tr_iald hO 19 (x_v0 (by decide)) a_29 hg dX8_comeBack_19 ?_
        obtain ⟨hg, h⟩ := of_gd h
        obtain ⟨μ3, e_μ3, h⟩ := of_lt h
        refine tr_iast hO 20 e_μ3 (x_v0 (by decide)) a_28 hg dX8_comeBack_20 ?_
        obtain ⟨v4, e_v4, h⟩ := of_lt h
        refine tr_iinc hO 21 (q := 1) (v := v4) (lv' := [(1, .int v4), (0, .ref (X.1 27 0))]) hn rfl (by rw [e_v4]; rfl) (by decide) rfl dX8_comeBack_21 ?_
        refine tr_goto hO 24 2 (by decide) dX8_comeBack_24 ?_
        refine tr_sub [1, 0] rfl ?_
        exact ih _ _ h
  refine tr_sub [1, 0] rfl ?_
  exact L2_T _ _ _ h
set_option maxHeartbeats 4000000 in
set_option maxRecDepth 100000 in
theorem c_X8_moves {X : xT} (hX : xOK X) {a1 : Int32}  {μ μ' : mT} {r : Int32} (h : f_X8_moves a1 μ = some (r, μ')) : CMi X yX8_moves cX8_moves 5 .int 5 112 [.ref (X.1 27 0), .int a1] μ r μ' := by
  refine CMi_of hX (by decide +kernel) (lv := [(0, .ref (X.1 27 0)), (1, .int a1)]) (Nat.le_of_ble_eq_true rfl) rfl (fun Γ hO hn hQ => ?_)
  have hO : Ok X RX8 cX8_moves 5 112 Γ := hO
  unfold f_X8_moves at h
  refine tr_aload_n hO 0 0 rfl dX8_moves_0 ?_
  refine tr_iload_n hO 1 1 rfl dX8_moves_1 ?_
  obtain ⟨v1, μ2, hcall, h⟩ := of_bd h
  refine tr_callI hO 2 (na := 1) (As := [.int a1]) (st := []) (c_X8_isTrain hX  hcall) rfl (x_v0 (by decide)) rfl rfl wM_X8_133 wI_X8_isTrain wS_X8_isTrain wN_X8 wC_X8_isTrain (by decide +kernel) rfl (by decide) (by decide) (Nat.le_of_ble_eq_true rfl) dX8_moves_2 ?_
  refine tr_if_ne hO 5 10 (by decide) dX8_moves_5 (fun hc => ?_) (fun hc => ?_)
  · have h := of_f hc h
    refine tr_aload_n hO 10 0 rfl dX8_moves_10 ?_
    refine tr_iload_n hO 11 1 rfl dX8_moves_11 ?_
    obtain ⟨v3, μ4, hcall, h⟩ := of_bd h
    refine tr_callI hO 12 (na := 1) (As := [.int a1]) (st := []) (c_X8_canLeave hX  hcall) rfl (x_v0 (by decide)) rfl rfl wM_X8_139 wI_X8_canLeave wS_X8_canLeave wN_X8 wC_X8_canLeave (by decide +kernel) rfl (by decide) (by decide) (Nat.le_of_ble_eq_true rfl) dX8_moves_12 ?_
    refine tr_if_eq hO 15 20 (by decide) dX8_moves_15 (fun hc => ?_) (fun hc => ?_)
    · have h := of_t hc h
      refine tr_aload_n hO 20 0 rfl dX8_moves_20 ?_
      refine tr_iload_n hO 21 1 rfl dX8_moves_21 ?_
      obtain ⟨v5, μ6, hcall, h⟩ := of_bd h
      refine tr_callI hO 22 (na := 1) (As := [.int a1]) (st := []) (c_X8_oneMore hX  hcall) rfl (x_v0 (by decide)) rfl rfl wM_X8_161 wI_X8_oneMore wS_X8_oneMore wN_X8 wC_X8_oneMore (by decide +kernel) rfl (by decide) (by decide) (Nat.le_of_ble_eq_true rfl) dX8_moves_22 ?_
      refine tr_if_eq hO 25 30 (by decide) dX8_moves_25 (fun hc => ?_) (fun hc => ?_)
      · have h := of_t hc h
        refine tr_iconst hO 30 (v := 0) (by decide) dX8_moves_30 ?_
        refine tr_istore_n hO 31 (v := 0) rfl (lv' := [(2, .int 0), (0, .ref (X.1 27 0)), (1, .int a1)]) hn rfl (by decide) rfl dX8_moves_31 ?_
        refine tr_iconst hO 32 (v := 0) (by decide) dX8_moves_32 ?_
        refine tr_istore_n hO 33 (v := 0) rfl (lv' := [(3, .int 0), (2, .int 0), (0, .ref (X.1 27 0)), (1, .int a1)]) hn rfl (by decide) rfl dX8_moves_33 ?_
        obtain ⟨K9, e_K9, h⟩ := of_lt h
        have K9_T : ∀ (μ10 : mT), K9 μ10 = some (r, μ') → tj X Γ μ10 59 [(0, .ref (X.1 27 0)), (1, .int a1), (2, .int 0)] [] := by
          intro μ10 h
          rw [e_K9] at h
          refine tr_iconst hO 59 (v := 0) (by decide) dX8_moves_59 ?_
          refine tr_istore_n hO 60 (v := 0) rfl (lv' := [(3, .int 0), (0, .ref (X.1 27 0)), (1, .int a1), (2, .int 0)]) hn rfl (by decide) rfl dX8_moves_60 ?_
          obtain ⟨K14, e_K14, h⟩ := of_lt h
          have K14_T : ∀ (v15 : Int32) (μ16 : mT), K14 v15 μ16 = some (r, μ') → tj X Γ μ16 162 [(0, .ref (X.1 27 0)), (1, .int a1), (2, .int v15)] [] := by
            intro v15 μ16 h
            rw [e_K14] at h
            refine tr_iload_n hO 162 2 rfl dX8_moves_162 ?_
            obtain ⟨J17, e_J17, h⟩ := of_lt h
            have J17_T : ∀ (v18 : Int32) (μ19 : mT), J17 v18 μ19 = some (r, μ') → tj X Γ μ19 187 [(2, .int v18)] [] := by
              intro v18 μ19 h
              rw [e_J17] at h
              refine tr_iload_n hO 187 0 rfl dX8_moves_187 ?_
              refine tr_if_eq hO 188 195 (by decide) dX8_moves_188 (fun hc => ?_) (fun hc => ?_)
              · have h := of_t hc h
                refine tr_bipush hO 195 (v := (-6)) (by decide) dX8_moves_195 ?_
                cases h
                exact tr_iret hO 197 hQ rfl dX8_moves_197
              · have h := of_f hc h
                refine tr_iconst hO 191 (v := 2) (by decide) dX8_moves_191 ?_
                refine tr_goto hO 192 197 (by decide) dX8_moves_192 ?_
                cases h
                exact tr_iret hO 197 hQ rfl dX8_moves_197
            refine tr_if_ne hO 163 187 (by decide) dX8_moves_163 (fun hc => ?_) (fun hc => ?_)
            · have h := of_f hc h
              refine tr_sub [2] rfl ?_
              exact J17_T _ _ h
            · have h := of_t hc h
              refine tr_aload_n hO 166 0 rfl dX8_moves_166 ?_
              obtain ⟨v20, μ21, hcall, h⟩ := of_bd h
              refine tr_callI hO 167 (na := 0) (As := []) (st := []) (c_X8_canRound hX  hcall) rfl (x_v0 (by decide)) rfl rfl wM_X8_114 wI_X8_canRound wS_X8_canRound wN_X8 wC_X8_canRound (by decide +kernel) rfl (by decide) (by decide) (Nat.le_of_ble_eq_true rfl) dX8_moves_167 ?_
              refine tr_if_eq hO 170 187 (by decide) dX8_moves_170 (fun hc => ?_) (fun hc => ?_)
              · have h := of_t hc h
                refine tr_sub [2] rfl ?_
                exact J17_T _ _ h
              · have h := of_f hc h
                refine tr_aload_n hO 173 0 rfl dX8_moves_173 ?_
                obtain ⟨v22, μ23, hcall, h⟩ := of_bd h
                refine tr_callV hO 174 (na := 0) (As := []) (st := []) (c_X8_turnRound hX  hcall) rfl (x_v0 (by decide)) rfl rfl wM_X8_118 wI_X8_turnRound wS_X8_turnRound wN_X8 wC_X8_turnRound (by decide +kernel) rfl (by decide) (by decide) (Nat.le_of_ble_eq_true rfl) dX8_moves_174 ?_
                refine tr_aload_n hO 177 0 rfl dX8_moves_177 ?_
                refine tr_iload_n hO 178 1 rfl dX8_moves_178 ?_
                obtain ⟨v24, μ25, hcall, h⟩ := of_bd h
                refine tr_callI hO 179 (na := 1) (As := [.int a1]) (st := []) (c_X8_oneMore hX  hcall) rfl (x_v0 (by decide)) rfl rfl wM_X8_161 wI_X8_oneMore wS_X8_oneMore wN_X8 wC_X8_oneMore (by decide +kernel) rfl (by decide) (by decide) (Nat.le_of_ble_eq_true rfl) dX8_moves_179 ?_
                refine tr_istore_n hO 182 (v := v24) rfl (lv' := [(2, .int v24), (0, .ref (X.1 27 0)), (1, .int a1)]) hn rfl (by decide) rfl dX8_moves_182 ?_
                refine tr_aload_n hO 183 1 rfl dX8_moves_183 ?_
                obtain ⟨v26, μ27, hcall, h⟩ := of_bd h
                refine tr_callV hO 184 (na := 0) (As := []) (st := []) (c_X8_comeBack hX  hcall) rfl (x_v0 (by decide)) rfl rfl wM_X8_164 wI_X8_comeBack wS_X8_comeBack wN_X8 wC_X8_comeBack (by decide +kernel) rfl (by decide) (by decide) (Nat.le_of_ble_eq_true rfl) dX8_moves_184 ?_
                refine tr_sub [0] rfl ?_
                exact J17_T _ _ h
          have L61_T : ∀ (n : Nat) (v11 : Int32) (v12 : Int32) (μ13 : mT), f_X8_moves_L61 a1 K14 n v11 v12 μ13 = some (r, μ') → tj X Γ μ13 61 [(0, .ref (X.1 27 0)), (1, .int a1), (2, .int v11), (3, .int v12)] [] := by
            intro n
            induction n with
            | zero =>
              intro v11 v12 μ13 h
              rw [f_X8_moves_L61] at h
              cases h
            | succ n ih =>
              intro v11 v12 μ13 h
              rw [f_X8_moves_L61] at h
              refine tr_iload_n hO 61 3 rfl dX8_moves_61 ?_
              refine tr_aload_n hO 62 0 rfl dX8_moves_62 ?_
              refine tr_get hO 63 (k := 0) (x_v0 (by decide)) rfl rfl iX8 (by decide) wF_X8_7 rfl rfl dX8_moves_63 ?_
              refine tr_bipush hO 66 (v := 7) (by decide) dX8_moves_66 ?_
              refine tr_iald hO 68 (x_v0 (by decide)) a_28 (by decide) dX8_moves_68 ?_
              refine tr_icmp_ge hO 69 162 (by decide) dX8_moves_69 (fun hc => ?_) (fun hc => ?_)
              · have h := of_t hc h
                refine tr_sub [0, 1, 2] rfl ?_
                exact K14_T _ _ h
              · have h := of_f hc h
                refine tr_iload_n hO 72 2 rfl dX8_moves_72 ?_
                refine tr_if_ne hO 73 162 (by decide) dX8_moves_73 (fun hc => ?_) (fun hc => ?_)
                · have h := of_f hc h
                  refine tr_sub [0, 1, 2] rfl ?_
                  exact K14_T _ _ h
                · have h := of_t hc h
                  refine tr_iconst hO 76 (v := 1) (by decide) dX8_moves_76 ?_
                  refine tr_istore hO 77 (v := 1) rfl (lv' := [(4, .int 1), (0, .ref (X.1 27 0)), (1, .int a1), (2, .int v11), (3, .int v12)]) hn (by decide) rfl dX8_moves_77 ?_
                  obtain ⟨K31, e_K31, h⟩ := of_lt h
                  have K31_T : ∀ (v32 : Int32) (μ33 : mT), K31 v32 μ33 = some (r, μ') → tj X Γ μ33 156 [(0, .ref (X.1 27 0)), (1, .int a1), (2, .int v32), (3, .int v12)] [] := by
                    intro v32 μ33 h
                    rw [e_K31] at h
                    obtain ⟨v34, e_v34, h⟩ := of_lt h
                    refine tr_iinc hO 156 (q := 3) (v := v34) (lv' := [(3, .int v34), (0, .ref (X.1 27 0)), (1, .int a1), (2, .int v32)]) hn rfl (by rw [e_v34]; rfl) (by decide) rfl dX8_moves_156 ?_
                    refine tr_goto hO 159 61 (by decide) dX8_moves_159 ?_
                    refine tr_sub [1, 2, 3, 0] rfl ?_
                    exact ih _ _ _ h
                  have L79_T : ∀ (n : Nat) (v28 : Int32) (v29 : Int32) (μ30 : mT), f_X8_moves_L79 a1 v12 K31 n v28 v29 μ30 = some (r, μ') → tj X Γ μ30 79 [(0, .ref (X.1 27 0)), (1, .int a1), (2, .int v28), (3, .int v12), (4, .int v29)] [] := by
                    intro n
                    induction n with
                    | zero =>
                      intro v28 v29 μ30 h
                      rw [f_X8_moves_L79] at h
                      cases h
                    | succ n ih =>
                      intro v28 v29 μ30 h
                      rw [f_X8_moves_L79] at h
                      refine tr_iload hO 79 4 rfl dX8_moves_79 ?_
                      refine tr_bipush hO 81 (v := 31) (by decide) dX8_moves_81 ?_
                      refine tr_icmp_ge hO 83 156 (by decide) dX8_moves_83 (fun hc => ?_) (fun hc => ?_)
                      · have h := of_t hc h
                        refine tr_sub [0, 1, 2, 3] rfl ?_
                        exact K31_T _ _ h
                      · have h := of_f hc h
                        refine tr_iload_n hO 86 2 rfl dX8_moves_86 ?_
                        refine tr_if_ne hO 87 156 (by decide) dX8_moves_87 (fun hc => ?_) (fun hc => ?_)
                        · have h := of_f hc h
                          refine tr_sub [0, 1, 2, 3] rfl ?_
                          exact K31_T _ _ h
                        · have h := of_t hc h
                          refine tr_aload_n hO 90 0 rfl dX8_moves_90 ?_
                          refine tr_iload_n hO 91 3 rfl dX8_moves_91 ?_
                          refine tr_iload hO 92 4 rfl dX8_moves_92 ?_
                          obtain ⟨v35, μ36, hcall, h⟩ := of_bd h
                          refine tr_callI hO 94 (na := 2) (As := [.int v12, .int v29]) (st := []) (c_X8_canPull hX  hcall) rfl (x_v0 (by decide)) rfl rfl wM_X8_97 wI_X8_canPull wS_X8_canPull wN_X8 wC_X8_canPull (by decide +kernel) rfl (by decide) (by decide) (Nat.le_of_ble_eq_true rfl) dX8_moves_94 ?_
                          obtain ⟨J37, e_J37, h⟩ := of_lt h
                          have J37_T : ∀ (v38 : Int32) (μ39 : mT), J37 v38 μ39 = some (r, μ') → tj X Γ μ39 118 [(0, .ref (X.1 27 0)), (1, .int a1), (2, .int v38), (3, .int v12), (4, .int v29)] [] := by
                            intro v38 μ39 h
                            rw [e_J37] at h
                            refine tr_iload_n hO 118 2 rfl dX8_moves_118 ?_
                            obtain ⟨J40, e_J40, h⟩ := of_lt h
                            have J40_T : ∀ (v41 : Int32) (μ42 : mT), J40 v41 μ42 = some (r, μ') → tj X Γ μ42 150 [(0, .ref (X.1 27 0)), (1, .int a1), (2, .int v41), (3, .int v12), (4, .int v29)] [] := by
                              intro v41 μ42 h
                              rw [e_J40] at h
                              obtain ⟨v43, e_v43, h⟩ := of_lt h
                              refine tr_iinc hO 150 (q := 4) (v := v43) (lv' := [(4, .int v43), (0, .ref (X.1 27 0)), (1, .int a1), (2, .int v41), (3, .int v12)]) hn rfl (by rw [e_v43]; rfl) (by decide) rfl dX8_moves_150 ?_
                              refine tr_goto hO 153 79 (by decide) dX8_moves_153 ?_
                              refine tr_sub [1, 2, 3, 4, 0] rfl ?_
                              exact ih _ _ _ h
                            refine tr_if_ne hO 119 150 (by decide) dX8_moves_119 (fun hc => ?_) (fun hc => ?_)
                            · have h := of_f hc h
                              exact J40_T _ _ h
                            · have h := of_t hc h
                              refine tr_aload_n hO 122 0 rfl dX8_moves_122 ?_
                              refine tr_iload_n hO 123 3 rfl dX8_moves_123 ?_
                              refine tr_iload hO 124 4 rfl dX8_moves_124 ?_
                              obtain ⟨v44, μ45, hcall, h⟩ := of_bd h
                              refine tr_callI hO 126 (na := 2) (As := [.int v12, .int v29]) (st := []) (c_X8_canPush hX  hcall) rfl (x_v0 (by decide)) rfl rfl wM_X8_108 wI_X8_canPush wS_X8_canPush wN_X8 wC_X8_canPush (by decide +kernel) rfl (by decide) (by decide) (Nat.le_of_ble_eq_true rfl) dX8_moves_126 ?_
                              refine tr_if_eq hO 129 150 (by decide) dX8_moves_129 (fun hc => ?_) (fun hc => ?_)
                              · have h := of_t hc h
                                exact J40_T _ _ h
                              · have h := of_f hc h
                                refine tr_aload_n hO 132 0 rfl dX8_moves_132 ?_
                                refine tr_iload_n hO 133 3 rfl dX8_moves_133 ?_
                                refine tr_iload hO 134 4 rfl dX8_moves_134 ?_
                                obtain ⟨v46, μ47, hcall, h⟩ := of_bd h
                                refine tr_callI hO 136 (na := 2) (As := [.int v12, .int v29]) (st := []) (c_X8_setBack hX  hcall) rfl (x_v0 (by decide)) rfl rfl wM_X8_111 wI_X8_setBack wS_X8_setBack wN_X8 wC_X8_setBack (by decide +kernel) rfl (by decide) (by decide) (Nat.le_of_ble_eq_true rfl) dX8_moves_136 ?_
                                refine tr_pop hO 139 rfl dX8_moves_139 ?_
                                refine tr_aload_n hO 140 0 rfl dX8_moves_140 ?_
                                refine tr_iload_n hO 141 1 rfl dX8_moves_141 ?_
                                obtain ⟨v48, μ49, hcall, h⟩ := of_bd h
                                refine tr_callI hO 142 (na := 1) (As := [.int a1]) (st := []) (c_X8_oneMore hX  hcall) rfl (x_v0 (by decide)) rfl rfl wM_X8_161 wI_X8_oneMore wS_X8_oneMore wN_X8 wC_X8_oneMore (by decide +kernel) rfl (by decide) (by decide) (Nat.le_of_ble_eq_true rfl) dX8_moves_142 ?_
                                refine tr_istore_n hO 145 (v := v48) rfl (lv' := [(2, .int v48), (0, .ref (X.1 27 0)), (1, .int a1), (3, .int v12), (4, .int v29)]) hn rfl (by decide) rfl dX8_moves_145 ?_
                                refine tr_aload_n hO 146 1 rfl dX8_moves_146 ?_
                                obtain ⟨v50, μ51, hcall, h⟩ := of_bd h
                                refine tr_callV hO 147 (na := 0) (As := []) (st := []) (c_X8_comeBack hX  hcall) rfl (x_v0 (by decide)) rfl rfl wM_X8_164 wI_X8_comeBack wS_X8_comeBack wN_X8 wC_X8_comeBack (by decide +kernel) rfl (by decide) (by decide) (Nat.le_of_ble_eq_true rfl) dX8_moves_147 ?_
                                refine tr_sub [1, 2, 0, 3, 4] rfl ?_
                                exact J40_T _ _ h
                          refine tr_if_eq hO 97 118 (by decide) dX8_moves_97 (fun hc => ?_) (fun hc => ?_)
                          · have h := of_t hc h
                            exact J37_T _ _ h
                          · have h := of_f hc h
                            refine tr_aload_n hO 100 0 rfl dX8_moves_100 ?_
                            refine tr_iload_n hO 101 3 rfl dX8_moves_101 ?_
                            refine tr_iload hO 102 4 rfl dX8_moves_102 ?_
                            obtain ⟨v52, μ53, hcall, h⟩ := of_bd h
                            refine tr_callI hO 104 (na := 2) (As := [.int v12, .int v29]) (st := []) (c_X8_drawOut hX  hcall) rfl (x_v0 (by decide)) rfl rfl wM_X8_101 wI_X8_drawOut wS_X8_drawOut wN_X8 wC_X8_drawOut (by decide +kernel) rfl (by decide) (by decide) (Nat.le_of_ble_eq_true rfl) dX8_moves_104 ?_
                            refine tr_pop hO 107 rfl dX8_moves_107 ?_
                            refine tr_aload_n hO 108 0 rfl dX8_moves_108 ?_
                            refine tr_iload_n hO 109 1 rfl dX8_moves_109 ?_
                            obtain ⟨v54, μ55, hcall, h⟩ := of_bd h
                            refine tr_callI hO 110 (na := 1) (As := [.int a1]) (st := []) (c_X8_oneMore hX  hcall) rfl (x_v0 (by decide)) rfl rfl wM_X8_161 wI_X8_oneMore wS_X8_oneMore wN_X8 wC_X8_oneMore (by decide +kernel) rfl (by decide) (by decide) (Nat.le_of_ble_eq_true rfl) dX8_moves_110 ?_
                            refine tr_istore_n hO 113 (v := v54) rfl (lv' := [(2, .int v54), (0, .ref (X.1 27 0)), (1, .int a1), (3, .int v12), (4, .int v29)]) hn rfl (by decide) rfl dX8_moves_113 ?_
                            refine tr_aload_n hO 114 1 rfl dX8_moves_114 ?_
                            obtain ⟨v56, μ57, hcall, h⟩ := of_bd h
                            refine tr_callV hO 115 (na := 0) (As := []) (st := []) (c_X8_comeBack hX  hcall) rfl (x_v0 (by decide)) rfl rfl wM_X8_164 wI_X8_comeBack wS_X8_comeBack wN_X8 wC_X8_comeBack (by decide +kernel) rfl (by decide) (by decide) (Nat.le_of_ble_eq_true rfl) dX8_moves_115 ?_
                            refine tr_sub [1, 2, 0, 3, 4] rfl ?_
                            exact J37_T _ _ h
                  refine tr_sub [1, 2, 3, 4, 0] rfl ?_
                  exact L79_T _ _ _ _ h
          refine tr_sub [1, 2, 3, 0] rfl ?_
          exact L61_T _ _ _ _ h
        have L34_T : ∀ (n : Nat) (v7 : Int32) (μ8 : mT), f_X8_moves_L34 a1 K9 n v7 μ8 = some (r, μ') → tj X Γ μ8 34 [(0, .ref (X.1 27 0)), (1, .int a1), (2, .int 0), (3, .int v7)] [] := by
          intro n
          induction n with
          | zero =>
            intro v7 μ8 h
            rw [f_X8_moves_L34] at h
            cases h
          | succ n ih =>
            intro v7 μ8 h
            rw [f_X8_moves_L34] at h
            refine tr_iload_n hO 34 3 rfl dX8_moves_34 ?_
            refine tr_sipush hO 35 (v := 560) (by decide) dX8_moves_35 ?_
            refine tr_icmp_ge hO 38 59 (by decide) dX8_moves_38 (fun hc => ?_) (fun hc => ?_)
            · have h := of_t hc h
              refine tr_sub [0, 1, 2] rfl ?_
              exact K9_T _ h
            · have h := of_f hc h
              refine tr_aload_n hO 41 0 rfl dX8_moves_41 ?_
              refine tr_get hO 42 (k := 1) (x_v0 (by decide)) rfl rfl iX8 (by decide) wF_X8_13 rfl rfl dX8_moves_42 ?_
              refine tr_iload_n hO 45 3 rfl dX8_moves_45 ?_
              refine tr_aload_n hO 46 0 rfl dX8_moves_46 ?_
              refine tr_get hO 47 (k := 0) (x_v0 (by decide)) rfl rfl iX8 (by decide) wF_X8_7 rfl rfl dX8_moves_47 ?_
              refine tr_iload_n hO 50 3 rfl dX8_moves_50 ?_
              obtain ⟨hg, h⟩ := of_gd h
              refine tr_iald hO 51 (x_v0 (by decide)) a_28 hg dX8_moves_51 ?_
              obtain ⟨hg, h⟩ := of_gd h
              obtain ⟨μ58, e_μ58, h⟩ := of_lt h
              refine tr_iast hO 52 e_μ58 (x_v0 (by decide)) a_29 hg dX8_moves_52 ?_
              obtain ⟨v59, e_v59, h⟩ := of_lt h
              refine tr_iinc hO 53 (q := 3) (v := v59) (lv' := [(3, .int v59), (0, .ref (X.1 27 0)), (1, .int a1), (2, .int 0)]) hn rfl (by rw [e_v59]; rfl) (by decide) rfl dX8_moves_53 ?_
              refine tr_goto hO 56 34 (by decide) dX8_moves_56 ?_
              refine tr_sub [1, 2, 3, 0] rfl ?_
              exact ih _ _ h
        refine tr_sub [2, 3, 1, 0] rfl ?_
        exact L34_T _ _ _ h
      · have h := of_f hc h
        refine tr_iconst hO 28 (v := 1) (by decide) dX8_moves_28 ?_
        cases h
        exact tr_iret hO 29 hQ rfl dX8_moves_29
    · have h := of_f hc h
      refine tr_iconst hO 18 (v := 0) (by decide) dX8_moves_18 ?_
      cases h
      exact tr_iret hO 19 hQ rfl dX8_moves_19
  · have h := of_t hc h
    refine tr_iconst hO 8 (v := (-1)) (by decide) dX8_moves_8 ?_
    cases h
    exact tr_iret hO 9 hQ rfl dX8_moves_9
set_option maxHeartbeats 4000000 in
set_option maxRecDepth 100000 in
theorem c_X8_roomFor {X : xT} (hX : xOK X)   {μ μ' : mT} {r : Int32} (h : f_X8_roomFor μ = some (r, μ')) : CMi X yX8_roomFor cX8_roomFor 3 .int 4 88 [.ref (X.1 27 0)] μ r μ' := by
  refine CMi_of hX (by decide +kernel) (lv := [(0, .ref (X.1 27 0))]) (Nat.le_of_ble_eq_true rfl) rfl (fun Γ hO hn hQ => ?_)
  have hO : Ok X RX8 cX8_roomFor 4 88 Γ := hO
  unfold f_X8_roomFor at h
  refine tr_iconst hO 0 (v := 0) (by decide) dX8_roomFor_0 ?_
  refine tr_istore_n hO 1 (v := 0) rfl (lv' := [(1, .int 0), (0, .ref (X.1 27 0))]) hn rfl (by decide) rfl dX8_roomFor_1 ?_
  refine tr_iconst hO 2 (v := 0) (by decide) dX8_roomFor_2 ?_
  refine tr_istore_n hO 3 (v := 0) rfl (lv' := [(2, .int 0), (1, .int 0), (0, .ref (X.1 27 0))]) hn rfl (by decide) rfl dX8_roomFor_3 ?_
  have L4_T : ∀ (n : Nat) (v1 : Int32) (v2 : Int32) (μ3 : mT), f_X8_roomFor_L4 n v1 v2 μ3 = some (r, μ') → tj X Γ μ3 4 [(0, .ref (X.1 27 0)), (1, .int v1), (2, .int v2)] [] := by
    intro n
    induction n with
    | zero =>
      intro v1 v2 μ3 h
      rw [f_X8_roomFor_L4] at h
      cases h
    | succ n ih =>
      intro v1 v2 μ3 h
      rw [f_X8_roomFor_L4] at h
      refine tr_iload_n hO 4 2 rfl dX8_roomFor_4 ?_
      refine tr_aload_n hO 5 0 rfl dX8_roomFor_5 ?_
      refine tr_get hO 6 (k := 0) (x_v0 (by decide)) rfl rfl iX8 (by decide) wF_X8_7 rfl rfl dX8_roomFor_6 ?_
      refine tr_bipush hO 9 (v := 7) (by decide) dX8_roomFor_9 ?_
      refine tr_iald hO 11 (x_v0 (by decide)) a_28 (by decide) dX8_roomFor_11 ?_
      refine tr_icmp_ge hO 12 56 (by decide) dX8_roomFor_12 (fun hc => ?_) (fun hc => ?_)
      · have h := of_t hc h
        refine tr_iload_n hO 56 1 rfl dX8_roomFor_56 ?_
        cases h
        exact tr_iret hO 57 hQ rfl dX8_roomFor_57
      · have h := of_f hc h
        refine tr_iload_n hO 15 1 rfl dX8_roomFor_15 ?_
        refine tr_aload_n hO 16 0 rfl dX8_roomFor_16 ?_
        refine tr_get hO 17 (k := 0) (x_v0 (by decide)) rfl rfl iX8 (by decide) wF_X8_7 rfl rfl dX8_roomFor_17 ?_
        refine tr_bipush hO 20 (v := 9) (by decide) dX8_roomFor_20 ?_
        refine tr_iald hO 22 (x_v0 (by decide)) a_28 (by decide) dX8_roomFor_22 ?_
        obtain ⟨J4, e_J4, h⟩ := of_lt h
        have J4_T : ∀ (v5 : Int32) (μ6 : mT), J4 v5 μ6 = some (r, μ') → tj X Γ μ6 48 [(0, .ref (X.1 27 0)), (2, .int v2)] [.int v5, .int v1] := by
          intro v5 μ6 h
          rw [e_J4] at h
          refine tr_ior hO 48 dX8_roomFor_48 ?_
          obtain ⟨v7, e_v7, h⟩ := of_lt h
          refine tr_istore_n hO 49 (v := v7) e_v7 (lv' := [(1, .int v7), (0, .ref (X.1 27 0)), (2, .int v2)]) hn rfl (by decide) rfl dX8_roomFor_49 ?_
          obtain ⟨v8, e_v8, h⟩ := of_lt h
          refine tr_iinc hO 50 (q := 2) (v := v8) (lv' := [(2, .int v8), (1, .int v7), (0, .ref (X.1 27 0))]) hn rfl (by rw [e_v8]; rfl) (by decide) rfl dX8_roomFor_50 ?_
          refine tr_goto hO 53 4 (by decide) dX8_roomFor_53 ?_
          refine tr_sub [2, 1, 0] rfl ?_
          exact ih _ _ _ h
        obtain ⟨J9, e_J9, h⟩ := of_lt h
        have J9_T : ∀ (μ10 : mT), J9 μ10 = some (r, μ') → tj X Γ μ10 47 [(0, .ref (X.1 27 0)), (2, .int v2)] [.int v1] := by
          intro μ10 h
          rw [e_J9] at h
          refine tr_iconst hO 47 (v := 0) (by decide) dX8_roomFor_47 ?_
          exact J4_T _ _ h
        refine tr_if_le hO 23 47 (by decide) dX8_roomFor_23 (fun hc => ?_) (fun hc => ?_)
        · have h := of_t hc h
          refine tr_sub [0, 2] rfl ?_
          exact J9_T _ h
        · have h := of_f hc h
          refine tr_aload_n hO 26 0 rfl dX8_roomFor_26 ?_
          refine tr_iload_n hO 27 2 rfl dX8_roomFor_27 ?_
          refine tr_aload_n hO 28 0 rfl dX8_roomFor_28 ?_
          refine tr_get hO 29 (k := 0) (x_v0 (by decide)) rfl rfl iX8 (by decide) wF_X8_7 rfl rfl dX8_roomFor_29 ?_
          refine tr_bipush hO 32 (v := 9) (by decide) dX8_roomFor_32 ?_
          refine tr_iald hO 34 (x_v0 (by decide)) a_28 (by decide) dX8_roomFor_34 ?_
          obtain ⟨v11, μ12, hcall, h⟩ := of_bd h
          refine tr_callI hO 35 (na := 2) (As := [.int v2, .int (μ3 28 0 (9 : Int32).toNatClampNeg)]) (st := [.int v1]) (c_X8_canPush hX  hcall) rfl (x_v0 (by decide)) rfl rfl wM_X8_108 wI_X8_canPush wS_X8_canPush wN_X8 wC_X8_canPush (by decide +kernel) rfl (by decide) (by decide) (Nat.le_of_ble_eq_true rfl) dX8_roomFor_35 ?_
          refine tr_if_eq hO 38 47 (by decide) dX8_roomFor_38 (fun hc => ?_) (fun hc => ?_)
          · have h := of_t hc h
            refine tr_sub [0, 2] rfl ?_
            exact J9_T _ h
          · have h := of_f hc h
            refine tr_iconst hO 41 (v := 1) (by decide) dX8_roomFor_41 ?_
            refine tr_iload_n hO 42 2 rfl dX8_roomFor_42 ?_
            refine tr_ishl hO 43 dX8_roomFor_43 ?_
            refine tr_goto hO 44 48 (by decide) dX8_roomFor_44 ?_
            refine tr_sub [0, 2] rfl ?_
            exact J4_T _ _ h
  refine tr_sub [2, 1, 0] rfl ?_
  exact L4_T _ _ _ _ h
set_option maxHeartbeats 4000000 in
set_option maxRecDepth 100000 in
theorem c_X8_buried {X : xT} (hX : xOK X)   {μ μ' : mT} {r : Int32} (h : f_X8_buried μ = some (r, μ')) : CMi X yX8_buried cX8_buried 8 .int 1 23 [.ref (X.1 27 0)] μ r μ' := by
  refine CMi_of hX (by decide +kernel) (lv := [(0, .ref (X.1 27 0))]) (Nat.le_of_ble_eq_true rfl) rfl (fun Γ hO hn hQ => ?_)
  have hO : Ok X RX8 cX8_buried 1 23 Γ := hO
  unfold f_X8_buried at h
  refine tr_iconst hO 0 (v := 0) (by decide) dX8_buried_0 ?_
  refine tr_istore_n hO 1 (v := 0) rfl (lv' := [(1, .int 0), (0, .ref (X.1 27 0))]) hn rfl (by decide) rfl dX8_buried_1 ?_
  refine tr_iconst hO 2 (v := 0) (by decide) dX8_buried_2 ?_
  refine tr_istore_n hO 3 (v := 0) rfl (lv' := [(2, .int 0), (1, .int 0), (0, .ref (X.1 27 0))]) hn rfl (by decide) rfl dX8_buried_3 ?_
  have L4_T : ∀ (n : Nat) (v1 : Int32) (v2 : Int32) (μ3 : mT), f_X8_buried_L4 n v1 v2 μ3 = some (r, μ') → tj X Γ μ3 4 [(0, .ref (X.1 27 0)), (1, .int v1), (2, .int v2)] [] := by
    intro n
    induction n with
    | zero =>
      intro v1 v2 μ3 h
      rw [f_X8_buried_L4] at h
      cases h
    | succ n ih =>
      intro v1 v2 μ3 h
      rw [f_X8_buried_L4] at h
      refine tr_iload_n hO 4 2 rfl dX8_buried_4 ?_
      refine tr_aload_n hO 5 0 rfl dX8_buried_5 ?_
      refine tr_get hO 6 (k := 0) (x_v0 (by decide)) rfl rfl iX8 (by decide) wF_X8_7 rfl rfl dX8_buried_6 ?_
      refine tr_bipush hO 9 (v := 7) (by decide) dX8_buried_9 ?_
      refine tr_iald hO 11 (x_v0 (by decide)) a_28 (by decide) dX8_buried_11 ?_
      refine tr_icmp_ge hO 12 130 (by decide) dX8_buried_12 (fun hc => ?_) (fun hc => ?_)
      · have h := of_t hc h
        refine tr_iload_n hO 130 1 rfl dX8_buried_130 ?_
        cases h
        exact tr_iret hO 131 hQ rfl dX8_buried_131
      · have h := of_f hc h
        refine tr_bipush hO 15 (v := 60) (by decide) dX8_buried_15 ?_
        refine tr_bipush hO 17 (v := 30) (by decide) dX8_buried_17 ?_
        refine tr_iload_n hO 19 2 rfl dX8_buried_19 ?_
        refine tr_imul hO 20 dX8_buried_20 ?_
        refine tr_iadd hO 21 dX8_buried_21 ?_
        obtain ⟨v4, e_v4, h⟩ := of_lt h
        refine tr_istore_n hO 22 (v := v4) e_v4 (lv' := [(3, .int v4), (0, .ref (X.1 27 0)), (1, .int v1), (2, .int v2)]) hn rfl (by decide) rfl dX8_buried_22 ?_
        refine tr_iconst hO 23 (v := 0) (by decide) dX8_buried_23 ?_
        refine tr_istore hO 24 (v := 0) rfl (lv' := [(4, .int 0), (3, .int v4), (0, .ref (X.1 27 0)), (1, .int v1), (2, .int v2)]) hn (by decide) rfl dX8_buried_24 ?_
        obtain ⟨K8, e_K8, h⟩ := of_lt h
        have K8_T : ∀ (v9 : Int32) (μ10 : mT), K8 v9 μ10 = some (r, μ') → tj X Γ μ10 124 [(0, .ref (X.1 27 0)), (1, .int v9), (2, .int v2)] [] := by
          intro v9 μ10 h
          rw [e_K8] at h
          obtain ⟨v11, e_v11, h⟩ := of_lt h
          refine tr_iinc hO 124 (q := 2) (v := v11) (lv' := [(2, .int v11), (0, .ref (X.1 27 0)), (1, .int v9)]) hn rfl (by rw [e_v11]; rfl) (by decide) rfl dX8_buried_124 ?_
          refine tr_goto hO 127 4 (by decide) dX8_buried_127 ?_
          refine tr_sub [1, 2, 0] rfl ?_
          exact ih _ _ _ h
        have L26_T : ∀ (n : Nat) (v5 : Int32) (v6 : Int32) (μ7 : mT), f_X8_buried_L26 v2 v4 K8 n v5 v6 μ7 = some (r, μ') → tj X Γ μ7 26 [(0, .ref (X.1 27 0)), (1, .int v5), (2, .int v2), (3, .int v4), (4, .int v6)] [] := by
          intro n
          induction n with
          | zero =>
            intro v5 v6 μ7 h
            rw [f_X8_buried_L26] at h
            cases h
          | succ n ih =>
            intro v5 v6 μ7 h
            rw [f_X8_buried_L26] at h
            refine tr_iload hO 26 4 rfl dX8_buried_26 ?_
            refine tr_aload_n hO 28 0 rfl dX8_buried_28 ?_
            refine tr_iload_n hO 29 2 rfl dX8_buried_29 ?_
            obtain ⟨v12, μ13, hcall, h⟩ := of_bd h
            refine tr_callI hO 30 (na := 1) (As := [.int v2]) (st := [.int v6]) (c_X8_manyOn hX  hcall) rfl (x_v0 (by decide)) rfl rfl wM_X8_72 wI_X8_manyOn wS_X8_manyOn wN_X8 wC_X8_manyOn (by decide +kernel) rfl (by decide) (by decide) (Nat.le_of_ble_eq_true rfl) dX8_buried_30 ?_
            refine tr_icmp_ge hO 33 124 (by decide) dX8_buried_33 (fun hc => ?_) (fun hc => ?_)
            · have h := of_t hc h
              refine tr_sub [0, 1, 2] rfl ?_
              exact K8_T _ _ h
            · have h := of_f hc h
              refine tr_aload_n hO 36 0 rfl dX8_buried_36 ?_
              refine tr_aload_n hO 37 0 rfl dX8_buried_37 ?_
              refine tr_get hO 38 (k := 0) (x_v0 (by decide)) rfl rfl iX8 (by decide) wF_X8_7 rfl rfl dX8_buried_38 ?_
              refine tr_iload_n hO 41 3 rfl dX8_buried_41 ?_
              refine tr_iload hO 42 4 rfl dX8_buried_42 ?_
              refine tr_iadd hO 44 dX8_buried_44 ?_
              obtain ⟨hg, h⟩ := of_gd h
              refine tr_iald hO 45 (x_v0 (by decide)) a_28 hg dX8_buried_45 ?_
              obtain ⟨v14, μ15, hcall, h⟩ := of_bd h
              refine tr_callI hO 46 (na := 1) (As := [.int (μ13 28 0 (v4 + v6).toNatClampNeg)]) (st := []) (c_X8_trainOf hX  hcall) rfl (x_v0 (by decide)) rfl rfl wM_X8_130 wI_X8_trainOf wS_X8_trainOf wN_X8 wC_X8_trainOf (by decide +kernel) rfl (by decide) (by decide) (Nat.le_of_ble_eq_true rfl) dX8_buried_46 ?_
              refine tr_istore hO 49 (v := v14) rfl (lv' := [(5, .int v14), (0, .ref (X.1 27 0)), (1, .int v5), (2, .int v2), (3, .int v4), (4, .int v6)]) hn (by decide) rfl dX8_buried_49 ?_
              refine tr_iconst hO 51 (v := 0) (by decide) dX8_buried_51 ?_
              refine tr_istore hO 52 (v := 0) rfl (lv' := [(6, .int 0), (5, .int v14), (0, .ref (X.1 27 0)), (1, .int v5), (2, .int v2), (3, .int v4), (4, .int v6)]) hn (by decide) rfl dX8_buried_52 ?_
              refine tr_iconst hO 54 (v := 0) (by decide) dX8_buried_54 ?_
              refine tr_istore hO 55 (v := 0) rfl (lv' := [(7, .int 0), (6, .int 0), (5, .int v14), (0, .ref (X.1 27 0)), (1, .int v5), (2, .int v2), (3, .int v4), (4, .int v6)]) hn (by decide) rfl dX8_buried_55 ?_
              obtain ⟨K19, e_K19, h⟩ := of_lt h
              have K19_T : ∀ (v20 : Int32) (μ21 : mT), K19 v20 μ21 = some (r, μ') → tj X Γ μ21 100 [(0, .ref (X.1 27 0)), (1, .int v5), (2, .int v2), (3, .int v4), (4, .int v6), (5, .int v14), (6, .int v20)] [] := by
                intro v20 μ21 h
                rw [e_K19] at h
                refine tr_iload_n hO 100 1 rfl dX8_buried_100 ?_
                refine tr_iload hO 101 5 rfl dX8_buried_101 ?_
                obtain ⟨J22, e_J22, h⟩ := of_lt h
                have J22_T : ∀ (v23 : Int32) (μ24 : mT), J22 v23 μ24 = some (r, μ') → tj X Γ μ24 116 [(0, .ref (X.1 27 0)), (2, .int v2), (3, .int v4), (4, .int v6)] [.int v23, .int v5] := by
                  intro v23 μ24 h
                  rw [e_J22] at h
                  refine tr_iadd hO 116 dX8_buried_116 ?_
                  obtain ⟨v25, e_v25, h⟩ := of_lt h
                  refine tr_istore_n hO 117 (v := v25) e_v25 (lv' := [(1, .int v25), (0, .ref (X.1 27 0)), (2, .int v2), (3, .int v4), (4, .int v6)]) hn rfl (by decide) rfl dX8_buried_117 ?_
                  obtain ⟨v26, e_v26, h⟩ := of_lt h
                  refine tr_iinc hO 118 (q := 4) (v := v26) (lv' := [(4, .int v26), (1, .int v25), (0, .ref (X.1 27 0)), (2, .int v2), (3, .int v4)]) hn rfl (by rw [e_v26]; rfl) (by decide) rfl dX8_buried_118 ?_
                  refine tr_goto hO 121 26 (by decide) dX8_buried_121 ?_
                  refine tr_sub [2, 1, 3, 4, 0] rfl ?_
                  exact ih _ _ _ h
                obtain ⟨J27, e_J27, h⟩ := of_lt h
                have J27_T : ∀ (μ28 : mT), J27 μ28 = some (r, μ') → tj X Γ μ28 115 [(0, .ref (X.1 27 0)), (2, .int v2), (3, .int v4), (4, .int v6)] [.int v5] := by
                  intro μ28 h
                  rw [e_J27] at h
                  refine tr_iconst hO 115 (v := 0) (by decide) dX8_buried_115 ?_
                  exact J22_T _ _ h
                refine tr_if_lt hO 103 115 (by decide) dX8_buried_103 (fun hc => ?_) (fun hc => ?_)
                · have h := of_t hc h
                  refine tr_sub [0, 2, 3, 4] rfl ?_
                  exact J27_T _ h
                · have h := of_f hc h
                  refine tr_iload hO 106 6 rfl dX8_buried_106 ?_
                  refine tr_if_eq hO 108 115 (by decide) dX8_buried_108 (fun hc => ?_) (fun hc => ?_)
                  · have h := of_t hc h
                    refine tr_sub [0, 2, 3, 4] rfl ?_
                    exact J27_T _ h
                  · have h := of_f hc h
                    refine tr_iconst hO 111 (v := 1) (by decide) dX8_buried_111 ?_
                    refine tr_goto hO 112 116 (by decide) dX8_buried_112 ?_
                    refine tr_sub [0, 2, 3, 4] rfl ?_
                    exact J22_T _ _ h
              have L57_T : ∀ (n : Nat) (v16 : Int32) (v17 : Int32) (μ18 : mT), f_X8_buried_L57 v5 v2 v4 v6 v14 K19 n v16 v17 μ18 = some (r, μ') → tj X Γ μ18 57 [(0, .ref (X.1 27 0)), (1, .int v5), (2, .int v2), (3, .int v4), (4, .int v6), (5, .int v14), (6, .int v16), (7, .int v17)] [] := by
                intro n
                induction n with
                | zero =>
                  intro v16 v17 μ18 h
                  rw [f_X8_buried_L57] at h
                  cases h
                | succ n ih =>
                  intro v16 v17 μ18 h
                  rw [f_X8_buried_L57] at h
                  refine tr_iload hO 57 7 rfl dX8_buried_57 ?_
                  refine tr_iload hO 59 4 rfl dX8_buried_59 ?_
                  refine tr_icmp_ge hO 61 100 (by decide) dX8_buried_61 (fun hc => ?_) (fun hc => ?_)
                  · have h := of_t hc h
                    refine tr_sub [0, 1, 2, 3, 4, 5, 6] rfl ?_
                    exact K19_T _ _ h
                  · have h := of_f hc h
                    refine tr_iload hO 64 6 rfl dX8_buried_64 ?_
                    obtain ⟨J29, e_J29, h⟩ := of_lt h
                    have J29_T : ∀ (v30 : Int32) (μ31 : mT), J29 v30 μ31 = some (r, μ') → tj X Γ μ31 92 [(0, .ref (X.1 27 0)), (1, .int v5), (2, .int v2), (3, .int v4), (4, .int v6), (5, .int v14), (7, .int v17)] [.int v30] := by
                      intro v30 μ31 h
                      rw [e_J29] at h
                      refine tr_istore hO 92 (v := v30) rfl (lv' := [(6, .int v30), (0, .ref (X.1 27 0)), (1, .int v5), (2, .int v2), (3, .int v4), (4, .int v6), (5, .int v14), (7, .int v17)]) hn (by decide) rfl dX8_buried_92 ?_
                      obtain ⟨v32, e_v32, h⟩ := of_lt h
                      refine tr_iinc hO 94 (q := 7) (v := v32) (lv' := [(7, .int v32), (6, .int v30), (0, .ref (X.1 27 0)), (1, .int v5), (2, .int v2), (3, .int v4), (4, .int v6), (5, .int v14)]) hn rfl (by rw [e_v32]; rfl) (by decide) rfl dX8_buried_94 ?_
                      refine tr_goto hO 97 57 (by decide) dX8_buried_97 ?_
                      refine tr_sub [2, 3, 4, 5, 6, 7, 1, 0] rfl ?_
                      exact ih _ _ _ h
                    obtain ⟨J33, e_J33, h⟩ := of_lt h
                    have J33_T : ∀ (μ34 : mT), J33 μ34 = some (r, μ') → tj X Γ μ34 87 [(0, .ref (X.1 27 0)), (1, .int v5), (2, .int v2), (3, .int v4), (4, .int v6), (5, .int v14), (7, .int v17)] [] := by
                      intro μ34 h
                      rw [e_J33] at h
                      refine tr_iconst hO 87 (v := 1) (by decide) dX8_buried_87 ?_
                      refine tr_goto hO 88 92 (by decide) dX8_buried_88 ?_
                      exact J29_T _ _ h
                    refine tr_if_ne hO 66 87 (by decide) dX8_buried_66 (fun hc => ?_) (fun hc => ?_)
                    · have h := of_f hc h
                      refine tr_sub [0, 1, 2, 3, 4, 5, 7] rfl ?_
                      exact J33_T _ h
                    · have h := of_t hc h
                      refine tr_aload_n hO 69 0 rfl dX8_buried_69 ?_
                      refine tr_aload_n hO 70 0 rfl dX8_buried_70 ?_
                      refine tr_get hO 71 (k := 0) (x_v0 (by decide)) rfl rfl iX8 (by decide) wF_X8_7 rfl rfl dX8_buried_71 ?_
                      refine tr_iload_n hO 74 3 rfl dX8_buried_74 ?_
                      refine tr_iload hO 75 7 rfl dX8_buried_75 ?_
                      refine tr_iadd hO 77 dX8_buried_77 ?_
                      obtain ⟨hg, h⟩ := of_gd h
                      refine tr_iald hO 78 (x_v0 (by decide)) a_28 hg dX8_buried_78 ?_
                      obtain ⟨v35, μ36, hcall, h⟩ := of_bd h
                      refine tr_callI hO 79 (na := 1) (As := [.int (μ18 28 0 (v4 + v17).toNatClampNeg)]) (st := []) (c_X8_trainOf hX  hcall) rfl (x_v0 (by decide)) rfl rfl wM_X8_130 wI_X8_trainOf wS_X8_trainOf wN_X8 wC_X8_trainOf (by decide +kernel) rfl (by decide) (by decide) (Nat.le_of_ble_eq_true rfl) dX8_buried_79 ?_
                      refine tr_iload hO 82 5 rfl dX8_buried_82 ?_
                      refine tr_icmp_eq hO 84 91 (by decide) dX8_buried_84 (fun hc => ?_) (fun hc => ?_)
                      · have h := of_t hc h
                        refine tr_iconst hO 91 (v := 0) (by decide) dX8_buried_91 ?_
                        refine tr_sub [0, 1, 2, 3, 4, 5, 7] rfl ?_
                        exact J29_T _ _ h
                      · have h := of_f hc h
                        refine tr_sub [0, 1, 2, 3, 4, 5, 7] rfl ?_
                        exact J33_T _ h
              refine tr_sub [3, 4, 5, 6, 7, 2, 1, 0] rfl ?_
              exact L57_T _ _ _ _ h
        refine tr_sub [2, 3, 4, 1, 0] rfl ?_
        exact L26_T _ _ _ _ h
  refine tr_sub [2, 1, 0] rfl ?_
  exact L4_T _ _ _ _ h
set_option maxHeartbeats 4000000 in
set_option maxRecDepth 100000 in
theorem c_X8_sign {X : xT} (hX : xOK X)   {μ μ' : mT} {r : Int32} (h : f_X8_sign μ = some (r, μ')) : CMi X yX8_sign cX8_sign 1 .int 0 0 [.ref (X.1 27 0)] μ r μ' := by
  refine CMi_of hX (by decide +kernel) (lv := [(0, .ref (X.1 27 0))]) (Nat.le_of_ble_eq_true rfl) rfl (fun Γ hO hn hQ => ?_)
  have hO : Ok X RX8 cX8_sign 0 0 Γ := hO
  unfold f_X8_sign at h
  refine tr_aload_n hO 0 0 rfl dX8_sign_0 ?_
  refine tr_get hO 1 (k := 17) (x_v0 (by decide)) rfl rfl iX8 (by decide) wF_X8_167 rfl rfl dX8_sign_1 ?_
  refine tr_aload_n hO 4 0 rfl dX8_sign_4 ?_
  refine tr_get hO 5 (k := 8) (x_v0 (by decide)) rfl rfl iX8 (by decide) wF_X8_149 rfl rfl dX8_sign_5 ?_
  refine tr_icmp_ge hO 8 23 (by decide) dX8_sign_8 (fun hc => ?_) (fun hc => ?_)
  · have h := of_t hc h
    refine tr_iconst hO 23 (v := 0) (by decide) dX8_sign_23 ?_
    cases h
    exact tr_iret hO 24 hQ rfl dX8_sign_24
  · have h := of_f hc h
    refine tr_aload_n hO 11 0 rfl dX8_sign_11 ?_
    refine tr_get hO 12 (k := 7) (x_v0 (by decide)) rfl rfl iX8 (by decide) wF_X8_29 rfl rfl dX8_sign_12 ?_
    refine tr_aload_n hO 15 0 rfl dX8_sign_15 ?_
    refine tr_get hO 16 (k := 17) (x_v0 (by decide)) rfl rfl iX8 (by decide) wF_X8_167 rfl rfl dX8_sign_16 ?_
    obtain ⟨hg, h⟩ := of_gd h
    refine tr_iald hO 19 (x_v0 (by decide)) a_34 hg dX8_sign_19 ?_
    refine tr_goto hO 20 24 (by decide) dX8_sign_20 ?_
    cases h
    exact tr_iret hO 24 hQ rfl dX8_sign_24
set_option maxHeartbeats 4000000 in
set_option maxRecDepth 100000 in
theorem c_X8_one {X : xT} (hX : xOK X) {a1 : Int32} {a2 : Int32}  {μ μ' : mT} {r : Int32} (h : f_X8_one a1 a2 μ = some (r, μ')) : CMi X yX8_one cX8_one 4 .int 1 22 [.ref (X.1 27 0), .int a1, .int a2] μ r μ' := by
  refine CMi_of hX (by decide +kernel) (lv := [(0, .ref (X.1 27 0)), (1, .int a1), (2, .int a2)]) (Nat.le_of_ble_eq_true rfl) rfl (fun Γ hO hn hQ => ?_)
  have hO : Ok X RX8 cX8_one 1 22 Γ := hO
  unfold f_X8_one at h
  refine tr_aload_n hO 0 0 rfl dX8_one_0 ?_
  obtain ⟨v1, μ2, hcall, h⟩ := of_bd h
  refine tr_callI hO 1 (na := 0) (As := []) (st := []) (c_X8_sign hX  hcall) rfl (x_v0 (by decide)) rfl rfl wM_X8_170 wI_X8_sign wS_X8_sign wN_X8 wC_X8_sign (by decide +kernel) rfl (by decide) (by decide) (Nat.le_of_ble_eq_true rfl) dX8_one_1 ?_
  refine tr_iload_n hO 4 1 rfl dX8_one_4 ?_
  refine tr_isub hO 5 dX8_one_5 ?_
  obtain ⟨v3, e_v3, h⟩ := of_lt h
  refine tr_istore_n hO 6 (v := v3) e_v3 (lv' := [(3, .int v3), (0, .ref (X.1 27 0)), (1, .int a1), (2, .int a2)]) hn rfl (by decide) rfl dX8_one_6 ?_
  refine tr_aload_n hO 7 1 rfl dX8_one_7 ?_
  refine tr_aload_n hO 8 1 rfl dX8_one_8 ?_
  refine tr_get hO 9 (k := 18) (x_v0 (by decide)) rfl rfl iX8 (by decide) wF_X8_173 rfl rfl dX8_one_9 ?_
  obtain ⟨J4, e_J4, h⟩ := of_lt h
  have J4_T : ∀ (v5 : Int32) (μ6 : mT), J4 v5 μ6 = some (r, μ') → tj X Γ μ6 29 [(0, .ref (X.1 27 0)), (3, .int v3)] [.int v5, .ref (X.1 27 0)] := by
    intro v5 μ6 h
    rw [e_J4] at h
    obtain ⟨hg, h⟩ := of_gd h
    obtain ⟨μ7, e_μ7, h⟩ := of_lt h
    refine tr_put hO 29 (k := 18) (ty := .boolean) e_μ7 (x_v0 (by decide)) rfl rfl rfl iX8 tyX8 tyX8_ok nmX8 (by decide) wF_X8_173 rfl rfl (by decide +kernel) (isB_n hg) (isB_f hg) (Nat.le_of_ble_eq_true rfl) dX8_one_29 ?_
    refine tr_aload_n hO 32 0 rfl dX8_one_32 ?_
    refine tr_dup hO 33 rfl dX8_one_33 ?_
    refine tr_get hO 34 (k := 17) (x_v0 (by decide)) rfl rfl iX8 (by decide) wF_X8_167 rfl rfl dX8_one_34 ?_
    refine tr_aload_n hO 37 0 rfl dX8_one_37 ?_
    refine tr_get hO 38 (k := 18) (x_v0 (by decide)) rfl rfl iX8 (by decide) wF_X8_173 rfl rfl dX8_one_38 ?_
    refine tr_if_eq hO 41 48 (by decide) dX8_one_41 (fun hc => ?_) (fun hc => ?_)
    · have h := of_t hc h
      refine tr_iconst hO 48 (v := 1) (by decide) dX8_one_48 ?_
      refine tr_iadd hO 49 dX8_one_49 ?_
      obtain ⟨μ8, e_μ8, h⟩ := of_lt h
      refine tr_put hO 50 (k := 17) (ty := .int) e_μ8 (x_v0 (by decide)) rfl rfl rfl iX8 tyX8 tyX8_ok nmX8 (by decide) wF_X8_167 rfl rfl (by decide +kernel) rfl rfl (Nat.le_of_ble_eq_true rfl) dX8_one_50 ?_
      refine tr_iload_n hO 53 1 rfl dX8_one_53 ?_
      cases h
      exact tr_iret hO 54 hQ rfl dX8_one_54
    · have h := of_f hc h
      refine tr_iconst hO 44 (v := 0) (by decide) dX8_one_44 ?_
      refine tr_goto hO 45 49 (by decide) dX8_one_45 ?_
      refine tr_iadd hO 49 dX8_one_49 ?_
      obtain ⟨μ9, e_μ9, h⟩ := of_lt h
      refine tr_put hO 50 (k := 17) (ty := .int) e_μ9 (x_v0 (by decide)) rfl rfl rfl iX8 tyX8 tyX8_ok nmX8 (by decide) wF_X8_167 rfl rfl (by decide +kernel) rfl rfl (Nat.le_of_ble_eq_true rfl) dX8_one_50 ?_
      refine tr_iload_n hO 53 1 rfl dX8_one_53 ?_
      cases h
      exact tr_iret hO 54 hQ rfl dX8_one_54
  obtain ⟨J10, e_J10, h⟩ := of_lt h
  have J10_T : ∀ (μ11 : mT), J10 μ11 = some (r, μ') → tj X Γ μ11 24 [(0, .ref (X.1 27 0)), (3, .int v3)] [.ref (X.1 27 0)] := by
    intro μ11 h
    rw [e_J10] at h
    refine tr_iconst hO 24 (v := 1) (by decide) dX8_one_24 ?_
    refine tr_goto hO 25 29 (by decide) dX8_one_25 ?_
    exact J4_T _ _ h
  refine tr_if_ne hO 12 24 (by decide) dX8_one_12 (fun hc => ?_) (fun hc => ?_)
  · have h := of_f hc h
    refine tr_sub [1, 0] rfl ?_
    exact J10_T _ h
  · have h := of_t hc h
    refine tr_iload_n hO 15 0 rfl dX8_one_15 ?_
    refine tr_iconst hO 16 (v := 0) (by decide) dX8_one_16 ?_
    refine tr_iload_n hO 17 3 rfl dX8_one_17 ?_
    obtain ⟨v12, μ13, hcall, h⟩ := of_bd h
    refine tr_callS hO 18 (na := 3) (As := [.int v3, .int 0, .int a2]) (st := [.ref (X.1 27 0)]) (c_X8_in hX  hcall) rfl wM_X8_55 wT_X8_in wN_X8 wC_X8_in (by decide +kernel) rfl (by decide) (by decide) (Nat.le_of_ble_eq_true rfl) dX8_one_18 ?_
    refine tr_if_ne hO 21 28 (by decide) dX8_one_21 (fun hc => ?_) (fun hc => ?_)
    · have h := of_f hc h
      refine tr_iconst hO 28 (v := 0) (by decide) dX8_one_28 ?_
      refine tr_sub [1, 0] rfl ?_
      exact J4_T _ _ h
    · have h := of_t hc h
      refine tr_sub [1, 0] rfl ?_
      exact J10_T _ h
set_option maxHeartbeats 4000000 in
set_option maxRecDepth 100000 in
theorem c_X8_number {X : xT} (hX : xOK X)   {μ μ' : mT} {r : Int32} (h : f_X8_number μ = some (r, μ')) : CMi X yX8_number cX8_number 2 .int 2 45 [.ref (X.1 27 0)] μ r μ' := by
  refine CMi_of hX (by decide +kernel) (lv := [(0, .ref (X.1 27 0))]) (Nat.le_of_ble_eq_true rfl) rfl (fun Γ hO hn hQ => ?_)
  have hO : Ok X RX8 cX8_number 2 45 Γ := hO
  unfold f_X8_number at h
  refine tr_aload_n hO 0 0 rfl dX8_number_0 ?_
  refine tr_bipush hO 1 (v := 48) (by decide) dX8_number_1 ?_
  refine tr_bipush hO 3 (v := 9) (by decide) dX8_number_3 ?_
  obtain ⟨v1, μ2, hcall, h⟩ := of_bd h
  refine tr_callI hO 5 (na := 2) (As := [.int 48, .int 9]) (st := []) (c_X8_one hX  hcall) rfl (x_v0 (by decide)) rfl rfl wM_X8_176 wI_X8_one wS_X8_one wN_X8 wC_X8_one (by decide +kernel) rfl (by decide) (by decide) (Nat.le_of_ble_eq_true rfl) dX8_number_5 ?_
  refine tr_istore_n hO 8 (v := v1) rfl (lv' := [(1, .int v1), (0, .ref (X.1 27 0))]) hn rfl (by decide) rfl dX8_number_8 ?_
  have L9_T : ∀ (n : Nat) (v3 : Int32) (μ4 : mT), f_X8_number_L9 n v3 μ4 = some (r, μ') → tj X Γ μ4 9 [(0, .ref (X.1 27 0)), (1, .int v3)] [] := by
    intro n
    induction n with
    | zero =>
      intro v3 μ4 h
      rw [f_X8_number_L9] at h
      cases h
    | succ n ih =>
      intro v3 μ4 h
      rw [f_X8_number_L9] at h
      refine tr_aload_n hO 9 0 rfl dX8_number_9 ?_
      refine tr_get hO 10 (k := 18) (x_v0 (by decide)) rfl rfl iX8 (by decide) wF_X8_173 rfl rfl dX8_number_10 ?_
      refine tr_if_ne hO 13 77 (by decide) dX8_number_13 (fun hc => ?_) (fun hc => ?_)
      · have h := of_f hc h
        refine tr_iload_n hO 77 1 rfl dX8_number_77 ?_
        cases h
        exact tr_iret hO 78 hQ rfl dX8_number_78
      · have h := of_t hc h
        refine tr_iload_n hO 16 1 rfl dX8_number_16 ?_
        refine tr_if_le hO 17 77 (by decide) dX8_number_17 (fun hc => ?_) (fun hc => ?_)
        · have h := of_t hc h
          refine tr_iload_n hO 77 1 rfl dX8_number_77 ?_
          cases h
          exact tr_iret hO 78 hQ rfl dX8_number_78
        · have h := of_f hc h
          refine tr_aload_n hO 20 0 rfl dX8_number_20 ?_
          obtain ⟨v5, μ6, hcall, h⟩ := of_bd h
          refine tr_callI hO 21 (na := 0) (As := []) (st := []) (c_X8_sign hX  hcall) rfl (x_v0 (by decide)) rfl rfl wM_X8_170 wI_X8_sign wS_X8_sign wN_X8 wC_X8_sign (by decide +kernel) rfl (by decide) (by decide) (Nat.le_of_ble_eq_true rfl) dX8_number_21 ?_
          refine tr_bipush hO 24 (v := 48) (by decide) dX8_number_24 ?_
          refine tr_bipush hO 26 (v := 57) (by decide) dX8_number_26 ?_
          obtain ⟨v7, μ8, hcall, h⟩ := of_bd h
          refine tr_callS hO 28 (na := 3) (As := [.int v5, .int 48, .int 57]) (st := []) (c_X8_in hX  hcall) rfl wM_X8_55 wT_X8_in wN_X8 wC_X8_in (by decide +kernel) rfl (by decide) (by decide) (Nat.le_of_ble_eq_true rfl) dX8_number_28 ?_
          refine tr_if_eq hO 31 77 (by decide) dX8_number_31 (fun hc => ?_) (fun hc => ?_)
          · have h := of_t hc h
            refine tr_iload_n hO 77 1 rfl dX8_number_77 ?_
            cases h
            exact tr_iret hO 78 hQ rfl dX8_number_78
          · have h := of_f hc h
            refine tr_bipush hO 34 (v := 10) (by decide) dX8_number_34 ?_
            refine tr_iload_n hO 36 1 rfl dX8_number_36 ?_
            refine tr_imul hO 37 dX8_number_37 ?_
            refine tr_aload_n hO 38 0 rfl dX8_number_38 ?_
            obtain ⟨v9, μ10, hcall, h⟩ := of_bd h
            refine tr_callI hO 39 (na := 0) (As := []) (st := [.int (10 * v3)]) (c_X8_sign hX  hcall) rfl (x_v0 (by decide)) rfl rfl wM_X8_170 wI_X8_sign wS_X8_sign wN_X8 wC_X8_sign (by decide +kernel) rfl (by decide) (by decide) (Nat.le_of_ble_eq_true rfl) dX8_number_39 ?_
            refine tr_iadd hO 42 dX8_number_42 ?_
            refine tr_bipush hO 43 (v := 48) (by decide) dX8_number_43 ?_
            refine tr_isub hO 45 dX8_number_45 ?_
            refine tr_bipush hO 46 (v := 99) (by decide) dX8_number_46 ?_
            refine tr_icmp_gt hO 48 77 (by decide) dX8_number_48 (fun hc => ?_) (fun hc => ?_)
            · have h := of_t hc h
              refine tr_iload_n hO 77 1 rfl dX8_number_77 ?_
              cases h
              exact tr_iret hO 78 hQ rfl dX8_number_78
            · have h := of_f hc h
              refine tr_bipush hO 51 (v := 10) (by decide) dX8_number_51 ?_
              refine tr_iload_n hO 53 1 rfl dX8_number_53 ?_
              refine tr_imul hO 54 dX8_number_54 ?_
              refine tr_aload_n hO 55 0 rfl dX8_number_55 ?_
              obtain ⟨v11, μ12, hcall, h⟩ := of_bd h
              refine tr_callI hO 56 (na := 0) (As := []) (st := [.int (10 * v3)]) (c_X8_sign hX  hcall) rfl (x_v0 (by decide)) rfl rfl wM_X8_170 wI_X8_sign wS_X8_sign wN_X8 wC_X8_sign (by decide +kernel) rfl (by decide) (by decide) (Nat.le_of_ble_eq_true rfl) dX8_number_56 ?_
              refine tr_iadd hO 59 dX8_number_59 ?_
              refine tr_bipush hO 60 (v := 48) (by decide) dX8_number_60 ?_
              refine tr_isub hO 62 dX8_number_62 ?_
              obtain ⟨v13, e_v13, h⟩ := of_lt h
              refine tr_istore_n hO 63 (v := v13) e_v13 (lv' := [(1, .int v13), (0, .ref (X.1 27 0))]) hn rfl (by decide) rfl dX8_number_63 ?_
              refine tr_aload_n hO 64 1 rfl dX8_number_64 ?_
              refine tr_dup hO 65 rfl dX8_number_65 ?_
              refine tr_get hO 66 (k := 17) (x_v0 (by decide)) rfl rfl iX8 (by decide) wF_X8_167 rfl rfl dX8_number_66 ?_
              refine tr_iconst hO 69 (v := 1) (by decide) dX8_number_69 ?_
              refine tr_iadd hO 70 dX8_number_70 ?_
              obtain ⟨μ14, e_μ14, h⟩ := of_lt h
              refine tr_put hO 71 (k := 17) (ty := .int) e_μ14 (x_v0 (by decide)) rfl rfl rfl iX8 tyX8 tyX8_ok nmX8 (by decide) wF_X8_167 rfl rfl (by decide +kernel) rfl rfl (Nat.le_of_ble_eq_true rfl) dX8_number_71 ?_
              refine tr_goto hO 74 9 (by decide) dX8_number_74 ?_
              refine tr_sub [1, 0] rfl ?_
              exact ih _ _ h
  refine tr_sub [1, 0] rfl ?_
  exact L9_T _ _ _ h
