def RtL (X : xT) (b : Nat) : gT → Prop
  | (_, _, _, R, s, _, args, below, meth, _, kc, ks, Q, _) => R = room_1 ∧ args = #[Value.ref b] ∧ meth.sig.returnType = ret ∧ Q = lw_Z below #[Value.ref b] s ∧ X.2.2.2 = s.heap.size ∧ kc + 12010 ≤ 600000 ∧ ks + 32 * 12010 ≤ 7302250
theorem lr_lret {X : xT} {Z : scT} {F L : Nat} {Γ : gT} {pc : Nat} {μ : mT} {lv : List (Nat × Value)} (hO : OkY X Z RL cL_law F L 12010 Γ) (hQ : RtL X Z.1 Γ) (d : decode cL_law pc = .ok (.ireturn, 1)) : lj X [] 12010 Γ μ pc lv [.int 1] := by
  obtain ⟨p, l, e, R, s, m, args, below, meth, c, kc, ks, Q, nL⟩ := Γ
  obtain ⟨hx, hb, hml, hown, hts, hK, hN, hR, hX, hZ, hroom, hlk⟩ := hO
  obtain ⟨rfl, rfl, hr, rfl, hA, h1, h2⟩ := hQ
  intro H locs la hD hP hS hl
  refine va_forget (fun q hq => ?_) ?_
  · have := hS.2.2 q hq
    unfold y_A at this
    rw [hA] at this
    exact this
  · exact W.widen h1 h2 (lw_ret hx hb hr hlk d)
set_option maxHeartbeats 4000000 in
set_option maxRecDepth 100000 in
theorem c_L_law {X : xT} {Z : scT} (hX : xOK X) {Γ : gT} (hO : OkY X Z RL cL_law 9 218 12010 Γ) (hn : gL Γ = 3) (hQ : RtL X Z.1 Γ) {μ μ' : mT} (h : f_L_law Z.2.2 Z.2.1 μ = some (1, μ')) : lj X [] 0 Γ μ 8 [(1, .ref (X.1 18 0)), (0, .ref Z.1)] [] := by
  obtain ⟨r, hr1⟩ : ∃ r : Int32, r = 1 := ⟨_, rfl⟩
  rw [← hr1] at h
  have hZx : Z.2.2 = Z.2.2 := rfl
  have hZl : Z.2.1 = Z.2.1 := rfl
  unfold f_L_law at h
  refine lr_aload_n hO 8 0 rfl dL_law_8 ?_
  refine lr_iconst hO 9 (v := 0) (by decide) dL_law_9 ?_
  refine lr_iconst hO 10 (v := 4) (by decide) dL_law_10 ?_
  refine lr_aload_n hO 11 1 rfl dL_law_11 ?_
  refine lr_iconst hO 12 (v := 0) (by decide) dL_law_12 ?_
  refine lr_bipush hO 13 (v := 40) (by decide) dL_law_13 ?_
  obtain ⟨v1, μ2, hcall, h⟩ := of_bd h
  refine lr_callS hO 15 (na := 3) (mc := 0) (As := [.ref Z.1, .int 0, .int 40]) (st := [.int 4, .int 0, .ref (X.1 18 0)]) (c_L_cell hX hZx hZl hcall) rfl wM_L_81 wT_L_cell wN_L wC_L_cell (by decide +kernel) rfl (by decide) (by decide) (Nat.le_of_ble_eq_true rfl) (by omega) dL_law_15 ?_
  refine lr_iadd hO 18 dL_law_18 ?_
  obtain ⟨v3, μa_μ4, μ4, hcall, e_μ4, h⟩ := of_bm h
  refine lr_callI hO 19 (na := 2) (As := [.int 0, .int (4 + v1)]) (st := []) (c_X7_set hX hcall) e_μ4 rfl wM_L_117 wI_X7_set wS_X7_set wN_X7 wC_X7_set (by decide +kernel) rfl (by decide) (by decide) (Nat.le_of_ble_eq_true rfl) (by omega) dL_law_19 ?_
  refine lr_pop hO 22 rfl dL_law_22 ?_
  refine lr_aload_n hO 23 0 rfl dL_law_23 ?_
  refine lr_iconst hO 24 (v := 1) (by decide) dL_law_24 ?_
  refine lr_iconst hO 25 (v := 2) (by decide) dL_law_25 ?_
  refine lr_aload_n hO 26 1 rfl dL_law_26 ?_
  refine lr_iconst hO 27 (v := 1) (by decide) dL_law_27 ?_
  refine lr_bipush hO 28 (v := 40) (by decide) dL_law_28 ?_
  obtain ⟨v5, μ6, hcall, h⟩ := of_bd h
  refine lr_callS hO 30 (na := 3) (mc := 0) (As := [.ref Z.1, .int 1, .int 40]) (st := [.int 2, .int 1, .ref (X.1 18 0)]) (c_L_cell hX hZx hZl hcall) rfl wM_L_81 wT_L_cell wN_L wC_L_cell (by decide +kernel) rfl (by decide) (by decide) (Nat.le_of_ble_eq_true rfl) (by omega) dL_law_30 ?_
  refine lr_iadd hO 33 dL_law_33 ?_
  obtain ⟨v7, μa_μ8, μ8, hcall, e_μ8, h⟩ := of_bm h
  refine lr_callI hO 34 (na := 2) (As := [.int 1, .int (2 + v5)]) (st := []) (c_X7_set hX hcall) e_μ8 rfl wM_L_117 wI_X7_set wS_X7_set wN_X7 wC_X7_set (by decide +kernel) rfl (by decide) (by decide) (Nat.le_of_ble_eq_true rfl) (by omega) dL_law_34 ?_
  refine lr_pop hO 37 rfl dL_law_37 ?_
  refine lr_aload_n hO 38 0 rfl dL_law_38 ?_
  refine lr_iconst hO 39 (v := 3) (by decide) dL_law_39 ?_
  refine lr_aload_n hO 40 1 rfl dL_law_40 ?_
  refine lr_iconst hO 41 (v := 2) (by decide) dL_law_41 ?_
  refine lr_iconst hO 42 (v := 4) (by decide) dL_law_42 ?_
  obtain ⟨v9, μ10, hcall, h⟩ := of_bd h
  refine lr_callS hO 43 (na := 3) (mc := 0) (As := [.ref Z.1, .int 2, .int 4]) (st := [.int 3, .ref (X.1 18 0)]) (c_L_cell hX hZx hZl hcall) rfl wM_L_81 wT_L_cell wN_L wC_L_cell (by decide +kernel) rfl (by decide) (by decide) (Nat.le_of_ble_eq_true rfl) (by omega) dL_law_43 ?_
  obtain ⟨v11, μa_μ12, μ12, hcall, e_μ12, h⟩ := of_bm h
  refine lr_callI hO 46 (na := 2) (As := [.int 3, .int v9]) (st := []) (c_X7_set hX hcall) e_μ12 rfl wM_L_117 wI_X7_set wS_X7_set wN_X7 wC_X7_set (by decide +kernel) rfl (by decide) (by decide) (Nat.le_of_ble_eq_true rfl) (by omega) dL_law_46 ?_
  refine lr_pop hO 49 rfl dL_law_49 ?_
  refine lr_iconst hO 50 (v := 0) (by decide) dL_law_50 ?_
  refine lr_istore_n hO 51 (v := 0) rfl (lv' := [(2, .int 0), (1, .ref (X.1 18 0)), (0, .ref Z.1)]) hn rfl (by decide) rfl dL_law_51 ?_
  obtain ⟨K15, e_K15, h⟩ := of_lt h
  have K15_T : ∀ (μ16 : mT), K15 μ16 = some (r, μ') → lj X [] 0 Γ μ16 85 [(0, .ref Z.1), (1, .ref (X.1 18 0))] [] := by
    intro μ16 h
    rw [e_K15] at h
    refine lr_iconst hO 85 (v := 0) (by decide) dL_law_85 ?_
    refine lr_istore_n hO 86 (v := 0) rfl (lv' := [(2, .int 0), (0, .ref Z.1), (1, .ref (X.1 18 0))]) hn rfl (by decide) rfl dL_law_86 ?_
    obtain ⟨K19, e_K19, h⟩ := of_lt h
    have K19_T : ∀ (μ20 : mT), K19 μ20 = some (r, μ') → lj X [] 0 Γ μ20 128 [(0, .ref Z.1), (1, .ref (X.1 18 0))] [] := by
      intro μ20 h
      rw [e_K19] at h
      refine lr_iconst hO 128 (v := 0) (by decide) dL_law_128 ?_
      refine lr_istore_n hO 129 (v := 0) rfl (lv' := [(2, .int 0), (0, .ref Z.1), (1, .ref (X.1 18 0))]) hn rfl (by decide) rfl dL_law_129 ?_
      have L130_T : ∀ (n : Nat) (q : Nat) (v21 : Int32) (μ22 : mT), q + 3 * n = 12000 → f_L_law_L130 Z.2.2 Z.2.1 n v21 μ22 = some (r, μ') → lj X [] q Γ μ22 130 [(0, .ref Z.1), (1, .ref (X.1 18 0)), (2, .int v21)] [] := by
        intro n
        induction n with
        | zero =>
          intro q v21 μ22 hq h
          rw [f_L_law_L130] at h
          cases h
        | succ n ih =>
          intro q v21 μ22 hq h
          rw [f_L_law_L130] at h
          refine lr_iload_n hO 130 2 rfl dL_law_130 ?_
          refine lr_bipush hO 131 (v := 48) (by decide) dL_law_131 ?_
          refine lr_icmp_ge hO 133 182 (by decide) dL_law_133 (fun hc => ?_) (fun hc => ?_)
          · have h := of_t hc h
            refine lr_aload_n hO 182 1 rfl dL_law_182 ?_
            obtain ⟨v23, μ24, hcall, h⟩ := of_bd h
            refine lr_callS hO 183 (na := 1) (mc := 1) (As := [.ref (X.1 18 0)]) (st := []) (c_L_agree hX hcall) rfl wM_L_127 wT_L_agree wN_L wC_L_agree (by decide +kernel) rfl (by decide) (by decide) (Nat.le_of_ble_eq_true rfl) (by omega) dL_law_183 ?_
            cases h
            rw [hr1]
            refine lr_wide (q2 := 12010) (by omega) ?_
            exact lr_lret hO hQ dL_law_186
          · have h := of_f hc h
            refine lr_aload_n hO 136 1 rfl dL_law_136 ?_
            refine lr_aload_n hO 137 0 rfl dL_law_137 ?_
            refine lr_bipush hO 138 (v := 30) (by decide) dL_law_138 ?_
            refine lr_bipush hO 140 (v := 6) (by decide) dL_law_140 ?_
            refine lr_iload_n hO 142 2 rfl dL_law_142 ?_
            refine lr_imul hO 143 dL_law_143 ?_
            refine lr_iadd hO 144 dL_law_144 ?_
            obtain ⟨v25, μ26, hcall, h⟩ := of_bd h
            refine lr_callS hO 145 (na := 3) (mc := 2) (As := [.ref (X.1 18 0), .ref Z.1, .int (30 + (6 * v21))]) (st := []) (c_L_isAct hX hZx hZl hcall) rfl wM_L_123 wT_L_isAct wN_L wC_L_isAct (by decide +kernel) rfl (by decide) (by decide) (Nat.le_of_ble_eq_true rfl) (by omega) dL_law_145 ?_
            refine lr_if_eq hO 148 174 (by decide) dL_law_148 (fun hc => ?_) (fun hc => ?_)
            · have h := of_t hc h
              refine lr_iconst hO 174 (v := 0) (by decide) dL_law_174 ?_
              cases h
              exact absurd hr1 (by decide)
            · have h := of_f hc h
              refine lr_aload_n hO 151 1 rfl dL_law_151 ?_
              obtain ⟨v27, μ28, hcall, h⟩ := of_bd h
              refine lr_callS hO 152 (na := 1) (mc := 1) (As := [.ref (X.1 18 0)]) (st := []) (c_L_agree hX hcall) rfl wM_L_127 wT_L_agree wN_L wC_L_agree (by decide +kernel) rfl (by decide) (by decide) (Nat.le_of_ble_eq_true rfl) (by omega) dL_law_152 ?_
              refine lr_if_eq hO 155 174 (by decide) dL_law_155 (fun hc => ?_) (fun hc => ?_)
              · have h := of_t hc h
                refine lr_iconst hO 174 (v := 0) (by decide) dL_law_174 ?_
                cases h
                exact absurd hr1 (by decide)
              · have h := of_f hc h
                refine lr_iload_n hO 158 2 rfl dL_law_158 ?_
                refine lr_bipush hO 159 (v := 16) (by decide) dL_law_159 ?_
                refine lr_irem hO 161 (by decide) dL_law_161 ?_
                refine lr_bipush hO 162 (v := 15) (by decide) dL_law_162 ?_
                obtain ⟨J29, e_J29, h⟩ := of_lt h
                have J29_T : ∀ (μ30 : mT), J29 μ30 = some (r, μ') → lj X [] (q + 3) Γ μ30 176 [(0, .ref Z.1), (1, .ref (X.1 18 0)), (2, .int v21)] [] := by
                  intro μ30 h
                  rw [e_J29] at h
                  obtain ⟨v31, e_v31, h⟩ := of_lt h
                  refine lr_iinc hO 176 (q := 2) (v := v31) (lv' := [(2, .int v31), (0, .ref Z.1), (1, .ref (X.1 18 0))]) hn rfl (by rw [e_v31]; rfl) (by decide) rfl dL_law_176 ?_
                  refine lr_goto hO 179 130 (by decide) dL_law_179 ?_
                  refine lr_sub [1, 2, 0] rfl ?_
                  exact ih (q + 3) _ _ (by omega) h
                refine lr_icmp_ne hO 164 176 (by decide) dL_law_164 (fun hc => ?_) (fun hc => ?_)
                · have h := of_f hc h
                  exact J29_T _ h
                · have h := of_t hc h
                  refine lr_aload_n hO 167 1 rfl dL_law_167 ?_
                  obtain ⟨v32, μ33, hcall, h⟩ := of_bd h
                  refine lr_callS hO 168 (na := 1) (mc := 0) (As := [.ref (X.1 18 0)]) (st := []) (c_L_isServed hX hcall) rfl wM_L_130 wT_L_isServed wN_L wC_L_isServed (by decide +kernel) rfl (by decide) (by decide) (Nat.le_of_ble_eq_true rfl) (by omega) dL_law_168 ?_
                  refine lr_if_ne hO 171 176 (by decide) dL_law_171 (fun hc => ?_) (fun hc => ?_)
                  · have h := of_f hc h
                    exact J29_T _ h
                  · have h := of_t hc h
                    refine lr_iconst hO 174 (v := 0) (by decide) dL_law_174 ?_
                    cases h
                    exact absurd hr1 (by decide)
      refine lr_sub [1, 2, 0] rfl ?_
      exact L130_T fu 0 _ _ rfl h
    have L87_T : ∀ (n : Nat) (v17 : Int32) (μ18 : mT), f_L_law_L87 Z.2.2 Z.2.1 K19 n v17 μ18 = some (r, μ') → lj X [] 0 Γ μ18 87 [(0, .ref Z.1), (1, .ref (X.1 18 0)), (2, .int v17)] [] := by
      intro n
      induction n with
      | zero =>
        intro v17 μ18 h
        rw [f_L_law_L87] at h
        cases h
      | succ n ih =>
        intro v17 μ18 h
        rw [f_L_law_L87] at h
        refine lr_iload_n hO 87 2 rfl dL_law_87 ?_
        refine lr_bipush hO 88 (v := 12) (by decide) dL_law_88 ?_
        refine lr_icmp_ge hO 90 128 (by decide) dL_law_90 (fun hc => ?_) (fun hc => ?_)
        · have h := of_t hc h
          refine lr_sub [0, 1] rfl ?_
          exact K19_T _ h
        · have h := of_f hc h
          refine lr_aload_n hO 93 1 rfl dL_law_93 ?_
          refine lr_aload_n hO 94 0 rfl dL_law_94 ?_
          refine lr_bipush hO 95 (v := 6) (by decide) dL_law_95 ?_
          refine lr_iload_n hO 97 2 rfl dL_law_97 ?_
          refine lr_iadd hO 98 dL_law_98 ?_
          refine lr_iconst hO 99 (v := 3) (by decide) dL_law_99 ?_
          obtain ⟨v34, μ35, hcall, h⟩ := of_bd h
          refine lr_callS hO 100 (na := 3) (mc := 0) (As := [.ref Z.1, .int (6 + v17), .int 3]) (st := [.ref (X.1 18 0)]) (c_L_cell hX hZx hZl hcall) rfl wM_L_81 wT_L_cell wN_L wC_L_cell (by decide +kernel) rfl (by decide) (by decide) (Nat.le_of_ble_eq_true rfl) (by omega) dL_law_100 ?_
          refine lr_iconst hO 103 (v := 1) (by decide) dL_law_103 ?_
          refine lr_aload_n hO 104 0 rfl dL_law_104 ?_
          refine lr_bipush hO 105 (v := 18) (by decide) dL_law_105 ?_
          refine lr_iload_n hO 107 2 rfl dL_law_107 ?_
          refine lr_iadd hO 108 dL_law_108 ?_
          refine lr_iconst hO 109 (v := 3) (by decide) dL_law_109 ?_
          obtain ⟨v36, μ37, hcall, h⟩ := of_bd h
          refine lr_callS hO 110 (na := 3) (mc := 0) (As := [.ref Z.1, .int (18 + v17), .int 3]) (st := [.int 1, .int v34, .ref (X.1 18 0)]) (c_L_cell hX hZx hZl hcall) rfl wM_L_81 wT_L_cell wN_L wC_L_cell (by decide +kernel) rfl (by decide) (by decide) (Nat.le_of_ble_eq_true rfl) (by omega) dL_law_110 ?_
          refine lr_iadd hO 113 dL_law_113 ?_
          obtain ⟨v38, μ39, hcall, h⟩ := of_bd h
          refine lr_callS hO 114 (na := 3) (mc := 0) (As := [.ref (X.1 18 0), .int v34, .int (1 + v36)]) (st := []) (c_L_isWagon hX hcall) rfl wM_L_96 wT_L_isWagon wN_L wC_L_isWagon (by decide +kernel) rfl (by decide) (by decide) (Nat.le_of_ble_eq_true rfl) (by omega) dL_law_114 ?_
          refine lr_if_ne hO 117 122 (by decide) dL_law_117 (fun hc => ?_) (fun hc => ?_)
          · have h := of_f hc h
            obtain ⟨v40, e_v40, h⟩ := of_lt h
            refine lr_iinc hO 122 (q := 2) (v := v40) (lv' := [(2, .int v40), (0, .ref Z.1), (1, .ref (X.1 18 0))]) hn rfl (by rw [e_v40]; rfl) (by decide) rfl dL_law_122 ?_
            refine lr_goto hO 125 87 (by decide) dL_law_125 ?_
            refine lr_sub [1, 2, 0] rfl ?_
            exact ih _ _ h
          · have h := of_t hc h
            refine lr_iconst hO 120 (v := 0) (by decide) dL_law_120 ?_
            cases h
            exact absurd hr1 (by decide)
    refine lr_sub [1, 2, 0] rfl ?_
    exact L87_T _ _ _ h
  have L52_T : ∀ (n : Nat) (v13 : Int32) (μ14 : mT), f_L_law_L52 Z.2.2 Z.2.1 K15 n v13 μ14 = some (r, μ') → lj X [] 0 Γ μ14 52 [(0, .ref Z.1), (1, .ref (X.1 18 0)), (2, .int v13)] [] := by
    intro n
    induction n with
    | zero =>
      intro v13 μ14 h
      rw [f_L_law_L52] at h
      cases h
    | succ n ih =>
      intro v13 μ14 h
      rw [f_L_law_L52] at h
      refine lr_iload_n hO 52 2 rfl dL_law_52 ?_
      refine lr_iconst hO 53 (v := 3) (by decide) dL_law_53 ?_
      refine lr_icmp_ge hO 54 85 (by decide) dL_law_54 (fun hc => ?_) (fun hc => ?_)
      · have h := of_t hc h
        refine lr_sub [0, 1] rfl ?_
        exact K15_T _ h
      · have h := of_f hc h
        refine lr_aload_n hO 57 1 rfl dL_law_57 ?_
        refine lr_bipush hO 58 (v := 8) (by decide) dL_law_58 ?_
        refine lr_aload_n hO 60 0 rfl dL_law_60 ?_
        refine lr_iconst hO 61 (v := 3) (by decide) dL_law_61 ?_
        refine lr_iload_n hO 62 2 rfl dL_law_62 ?_
        refine lr_iadd hO 63 dL_law_63 ?_
        refine lr_bipush hO 64 (v := 50) (by decide) dL_law_64 ?_
        obtain ⟨v41, μ42, hcall, h⟩ := of_bd h
        refine lr_callS hO 66 (na := 3) (mc := 0) (As := [.ref Z.1, .int (3 + v13), .int 50]) (st := [.int 8, .ref (X.1 18 0)]) (c_L_cell hX hZx hZl hcall) rfl wM_L_81 wT_L_cell wN_L wC_L_cell (by decide +kernel) rfl (by decide) (by decide) (Nat.le_of_ble_eq_true rfl) (by omega) dL_law_66 ?_
        refine lr_iadd hO 69 dL_law_69 ?_
        obtain ⟨v43, μa_μ44, μ44, hcall, e_μ44, h⟩ := of_bm h
        refine lr_callI hO 70 (na := 1) (As := [.int (8 + v41)]) (st := []) (c_X7_track hX hcall) e_μ44 rfl wM_L_120 wI_X7_track wS_X7_track wN_X7 wC_X7_track (by decide +kernel) rfl (by decide) (by decide) (Nat.le_of_ble_eq_true rfl) (by omega) dL_law_70 ?_
        refine lr_iload_n hO 73 2 rfl dL_law_73 ?_
        refine lr_icmp_eq hO 74 79 (by decide) dL_law_74 (fun hc => ?_) (fun hc => ?_)
        · have h := of_t hc h
          obtain ⟨v45, e_v45, h⟩ := of_lt h
          refine lr_iinc hO 79 (q := 2) (v := v45) (lv' := [(2, .int v45), (0, .ref Z.1), (1, .ref (X.1 18 0))]) hn rfl (by rw [e_v45]; rfl) (by decide) rfl dL_law_79 ?_
          refine lr_goto hO 82 52 (by decide) dL_law_82 ?_
          refine lr_sub [1, 2, 0] rfl ?_
          exact ih _ _ h
        · have h := of_f hc h
          refine lr_iconst hO 77 (v := 0) (by decide) dL_law_77 ?_
          cases h
          exact absurd hr1 (by decide)
  refine lr_sub [2, 1, 0] rfl ?_
  exact L52_T _ _ _ h
