def OkL (X : xT) (b Ls : Nat) (xs : Nat → Int32) : gT → Prop
  | (_, _, _, _, s, _, _, _, _, _, _, _, _, _) => va_X b Ls xs s s.heap ∧ b < s.heap.size ∧ ¬ x_A X b
def RtL (X : xT) (b : Nat) : gT → Prop
  | (_, _, _, R, s, _, args, below, meth, _, kc, ks, Q, _) => R = room_1 ∧ args = #[Value.ref b] ∧ meth.sig.returnType = ret ∧ Q = lw_Z below #[Value.ref b] s ∧ X.2.2.2 = s.heap.size ∧ kc ≤ 600000 ∧ ks ≤ 7302250
theorem tr_slen {X : xT} {own : String} {cc : ByteArray} {F L : Nat} {Γ : gT} {b Ls : Nat} {xs : Nat → Int32} (hO : Ok X own cc F L Γ) (hSc : OkL X b Ls xs Γ) (pc : Nat) {μ : mT} {lv : List (Nat × Value)} {st : List Value} (d : decode cc pc = .ok (.arraylength, 1)) (k : tj X Γ μ (pc + 1) lv (.int (Int32.ofNat Ls) :: st)) : tj X Γ μ pc lv (.ref b :: st) := by
  obtain ⟨p, l, e, R, s, m, args, below, meth, c, kc, ks, Q, nL⟩ := Γ
  obtain ⟨hx, hb, hml, hown, hts, hK, hN, hR, hX, hroom, hlk⟩ := hO
  intro H locs la hP hS hl
  exact va_slen hx hb hSc.1 hSc.2.1 hSc.2.2 hS d (k H locs la hP hS hl)
theorem tr_sld {X : xT} {own : String} {cc : ByteArray} {F L : Nat} {Γ : gT} {b Ls : Nat} {xs : Nat → Int32} (hO : Ok X own cc F L Γ) (hSc : OkL X b Ls xs Γ) (pc : Nat) {μ : mT} {lv : List (Nat × Value)} {st : List Value} {i : Int32} (hi : inb i Ls = true) (d : decode cc pc = .ok (.iaload, 1)) (k : tj X Γ μ (pc + 1) lv (.int (xs i.toNatClampNeg) :: st)) : tj X Γ μ pc lv (.int i :: .ref b :: st) := by
  obtain ⟨p, l, e, R, s, m, args, below, meth, c, kc, ks, Q, nL⟩ := Γ
  obtain ⟨hx, hb, hml, hown, hts, hK, hN, hR, hX, hroom, hlk⟩ := hO
  intro H locs la hP hS hl
  exact va_sld hx hb hSc.1 hSc.2.1 hSc.2.2 hS (inb_in hi) d (k H locs la hP hS hl)
theorem tr_lret {X : xT} {F L : Nat} {Γ : gT} {b : Nat} {pc : Nat} {μ : mT} {lv : List (Nat × Value)} (hO : Ok X RL cL_law F L Γ) (hQ : RtL X b Γ) (d : decode cL_law pc = .ok (.ireturn, 1)) : tj X Γ μ pc lv [.int 1] := by
  obtain ⟨p, l, e, R, s, m, args, below, meth, c, kc, ks, Q, nL⟩ := Γ
  obtain ⟨hx, hb, hml, hown, hts, hK, hN, hR, hX, hroom, hlk⟩ := hO
  obtain ⟨rfl, rfl, hr, rfl, hA, h1, h2⟩ := hQ
  intro H locs la hP hS hl
  refine va_forget (fun q hq => ?_) ?_
  · have := hS.2.2 q hq
    unfold x_A at this
    rw [hA] at this
    exact this
  · exact W.widen h1 h2 (lw_ret hx hb hr hlk d)
set_option maxHeartbeats 4000000 in
set_option maxRecDepth 100000 in
theorem c_L_law {X : xT} (hX : xOK X) {Γ : gT} {b Ls : Nat} {xs : Nat → Int32} (hO : Ok X RL cL_law 7 164 Γ) (hn : gL Γ = 4) (hSc : OkL X b Ls xs Γ) (hQ : RtL X b Γ) {μ μ' : mT} (h : f_L_law xs Ls μ = some (1, μ')) : tj X Γ μ 16 [(2, .ref (X.1 27 0)), (1, .ref (X.1 18 0)), (0, .ref b)] [] := by
  obtain ⟨r, hr1⟩ : ∃ r : Int32, r = 1 := ⟨_, rfl⟩
  rw [← hr1] at h
  unfold f_L_law at h
  refine tr_iconst hO 16 (v := 0) (by decide) dL_law_16 ?_
  refine tr_istore_n hO 17 (v := 0) rfl (lv' := [(3, .int 0), (2, .ref (X.1 27 0)), (1, .ref (X.1 18 0)), (0, .ref b)]) hn rfl (by decide) rfl dL_law_17 ?_
  have L18_T : ∀ (n : Nat) (v1 : Int32) (μ2 : mT), f_L_law_L18 xs Ls n v1 μ2 = some (r, μ') → tj X Γ μ2 18 [(0, .ref b), (1, .ref (X.1 18 0)), (2, .ref (X.1 27 0)), (3, .int v1)] [] := by
    intro n
    induction n with
    | zero =>
      intro v1 μ2 h
      rw [f_L_law_L18] at h
      cases h
    | succ n ih =>
      intro v1 μ2 h
      rw [f_L_law_L18] at h
      refine tr_iload_n hO 18 3 rfl dL_law_18 ?_
      refine tr_aload_n hO 19 0 rfl dL_law_19 ?_
      refine tr_slen hO hSc 20 dL_law_20 ?_
      refine tr_iconst hO 21 (v := 4) (by decide) dL_law_21 ?_
      refine tr_isub hO 22 dL_law_22 ?_
      refine tr_icmp_gt hO 23 954 (by decide) dL_law_23 (fun hc => ?_) (fun hc => ?_)
      · have h := of_t hc h
        refine tr_iconst hO 954 (v := 1) (by decide) dL_law_954 ?_
        cases h
        exact tr_lret hO hQ dL_law_955
      · have h := of_f hc h
        refine tr_aload_n hO 26 0 rfl dL_law_26 ?_
        refine tr_iload_n hO 27 3 rfl dL_law_27 ?_
        obtain ⟨hg, h⟩ := of_gd h
        refine tr_sld hO hSc 28 hg dL_law_28 ?_
        refine tr_bipush hO 29 (v := 31) (by decide) dL_law_29 ?_
        refine tr_iand hO 31 dL_law_31 ?_
        obtain ⟨J3, e_J3, h⟩ := of_lt h
        have J3_T : ∀ (μ4 : mT), J3 μ4 = some (r, μ') → tj X Γ μ4 948 [(0, .ref b), (1, .ref (X.1 18 0)), (2, .ref (X.1 27 0)), (3, .int v1)] [] := by
          intro μ4 h
          rw [e_J3] at h
          obtain ⟨v5, e_v5, h⟩ := of_lt h
          refine tr_iinc hO 948 (q := 3) (v := v5) (lv' := [(3, .int v5), (0, .ref b), (1, .ref (X.1 18 0)), (2, .ref (X.1 27 0))]) hn rfl (by rw [e_v5]; rfl) (by decide) rfl dL_law_948 ?_
          refine tr_goto hO 951 18 (by decide) dL_law_951 ?_
          refine tr_sub [1, 2, 3, 0] rfl ?_
          exact ih _ _ h
        obtain ⟨v6, e_v6, h⟩ := of_lt h
        rw [← e_v6]
        by_cases hs0 : v6 = 0
        · have h := of_t hs0 h
          refine tr_tabIn hO 32 168 (by rw [hs0]; decide) (by rw [hs0]; decide) (by rw [hs0]; rfl) (by decide) dL_law_32 ?_
          refine tr_aload_n hO 168 1 rfl dL_law_168 ?_
          refine tr_aload_n hO 169 0 rfl dL_law_169 ?_
          refine tr_iload_n hO 170 3 rfl dL_law_170 ?_
          refine tr_iconst hO 171 (v := 1) (by decide) dL_law_171 ?_
          refine tr_iadd hO 172 dL_law_172 ?_
          obtain ⟨hg, h⟩ := of_gd h
          refine tr_sld hO hSc 173 hg dL_law_173 ?_
          refine tr_aload_n hO 174 0 rfl dL_law_174 ?_
          refine tr_iload_n hO 175 3 rfl dL_law_175 ?_
          refine tr_iconst hO 176 (v := 2) (by decide) dL_law_176 ?_
          refine tr_iadd hO 177 dL_law_177 ?_
          obtain ⟨hg, h⟩ := of_gd h
          refine tr_sld hO hSc 178 hg dL_law_178 ?_
          obtain ⟨v7, μ8, hcall, h⟩ := of_bd h
          refine tr_callI hO 179 (na := 2) (As := [.int (xs (v1 + 1).toNatClampNeg), .int (xs (v1 + 2).toNatClampNeg)]) (st := []) (c_X7_set hX  hcall) rfl (x_v0 (by decide)) rfl rfl wM_L_13 wI_X7_set wS_X7_set wN_X7 wC_X7_set (by decide +kernel) rfl (by decide) (by decide) (Nat.le_of_ble_eq_true rfl) dL_law_179 ?_
          refine tr_aload_n hO 182 2 rfl dL_law_182 ?_
          refine tr_aload_n hO 183 0 rfl dL_law_183 ?_
          refine tr_iload_n hO 184 3 rfl dL_law_184 ?_
          refine tr_iconst hO 185 (v := 1) (by decide) dL_law_185 ?_
          refine tr_iadd hO 186 dL_law_186 ?_
          obtain ⟨hg, h⟩ := of_gd h
          refine tr_sld hO hSc 187 hg dL_law_187 ?_
          refine tr_aload_n hO 188 0 rfl dL_law_188 ?_
          refine tr_iload_n hO 189 3 rfl dL_law_189 ?_
          refine tr_iconst hO 190 (v := 2) (by decide) dL_law_190 ?_
          refine tr_iadd hO 191 dL_law_191 ?_
          obtain ⟨hg, h⟩ := of_gd h
          refine tr_sld hO hSc 192 hg dL_law_192 ?_
          obtain ⟨v9, μ10, hcall, h⟩ := of_bd h
          refine tr_callI hO 193 (na := 2) (As := [.int (xs (v1 + 1).toNatClampNeg), .int (xs (v1 + 2).toNatClampNeg)]) (st := [.int v7]) (c_X8_set hX  hcall) rfl (x_v0 (by decide)) rfl rfl wM_L_17 wI_X8_set wS_X8_set wN_X8 wC_X8_set (by decide +kernel) rfl (by decide) (by decide) (Nat.le_of_ble_eq_true rfl) dL_law_193 ?_
          refine tr_icmp_eq hO 196 948 (by decide) dL_law_196 (fun hc => ?_) (fun hc => ?_)
          · have h := of_t hc h
            exact J3_T _ h
          · have h := of_f hc h
            refine tr_iconst hO 199 (v := 0) (by decide) dL_law_199 ?_
            cases h
            exact absurd hr1 (by decide)
        have h := of_f hs0 h
        by_cases hs1 : v6 = 1
        · have h := of_t hs1 h
          refine tr_tabIn hO 32 201 (by rw [hs1]; decide) (by rw [hs1]; decide) (by rw [hs1]; rfl) (by decide) dL_law_32 ?_
          refine tr_aload_n hO 201 1 rfl dL_law_201 ?_
          refine tr_aload_n hO 202 0 rfl dL_law_202 ?_
          refine tr_iload_n hO 203 3 rfl dL_law_203 ?_
          refine tr_iconst hO 204 (v := 1) (by decide) dL_law_204 ?_
          refine tr_iadd hO 205 dL_law_205 ?_
          obtain ⟨hg, h⟩ := of_gd h
          refine tr_sld hO hSc 206 hg dL_law_206 ?_
          obtain ⟨v11, μ12, hcall, h⟩ := of_bd h
          refine tr_callI hO 207 (na := 1) (As := [.int (xs (v1 + 1).toNatClampNeg)]) (st := []) (c_X7_track hX  hcall) rfl (x_v0 (by decide)) rfl rfl wM_L_18 wI_X7_track wS_X7_track wN_X7 wC_X7_track (by decide +kernel) rfl (by decide) (by decide) (Nat.le_of_ble_eq_true rfl) dL_law_207 ?_
          refine tr_aload_n hO 210 2 rfl dL_law_210 ?_
          refine tr_aload_n hO 211 0 rfl dL_law_211 ?_
          refine tr_iload_n hO 212 3 rfl dL_law_212 ?_
          refine tr_iconst hO 213 (v := 1) (by decide) dL_law_213 ?_
          refine tr_iadd hO 214 dL_law_214 ?_
          obtain ⟨hg, h⟩ := of_gd h
          refine tr_sld hO hSc 215 hg dL_law_215 ?_
          obtain ⟨v13, μ14, hcall, h⟩ := of_bd h
          refine tr_callI hO 216 (na := 1) (As := [.int (xs (v1 + 1).toNatClampNeg)]) (st := [.int v11]) (c_X8_track hX  hcall) rfl (x_v0 (by decide)) rfl rfl wM_L_22 wI_X8_track wS_X8_track wN_X8 wC_X8_track (by decide +kernel) rfl (by decide) (by decide) (Nat.le_of_ble_eq_true rfl) dL_law_216 ?_
          refine tr_icmp_eq hO 219 948 (by decide) dL_law_219 (fun hc => ?_) (fun hc => ?_)
          · have h := of_t hc h
            exact J3_T _ h
          · have h := of_f hc h
            refine tr_iconst hO 222 (v := 0) (by decide) dL_law_222 ?_
            cases h
            exact absurd hr1 (by decide)
        have h := of_f hs1 h
        by_cases hs2 : v6 = 2
        · have h := of_t hs2 h
          refine tr_tabIn hO 32 224 (by rw [hs2]; decide) (by rw [hs2]; decide) (by rw [hs2]; rfl) (by decide) dL_law_32 ?_
          refine tr_aload_n hO 224 1 rfl dL_law_224 ?_
          refine tr_aload_n hO 225 0 rfl dL_law_225 ?_
          refine tr_iload_n hO 226 3 rfl dL_law_226 ?_
          refine tr_iconst hO 227 (v := 1) (by decide) dL_law_227 ?_
          refine tr_iadd hO 228 dL_law_228 ?_
          obtain ⟨hg, h⟩ := of_gd h
          refine tr_sld hO hSc 229 hg dL_law_229 ?_
          refine tr_aload_n hO 230 0 rfl dL_law_230 ?_
          refine tr_iload_n hO 231 3 rfl dL_law_231 ?_
          refine tr_iconst hO 232 (v := 2) (by decide) dL_law_232 ?_
          refine tr_iadd hO 233 dL_law_233 ?_
          obtain ⟨hg, h⟩ := of_gd h
          refine tr_sld hO hSc 234 hg dL_law_234 ?_
          obtain ⟨v15, μ16, hcall, h⟩ := of_bd h
          refine tr_callI hO 235 (na := 2) (As := [.int (xs (v1 + 1).toNatClampNeg), .int (xs (v1 + 2).toNatClampNeg)]) (st := []) (c_X7_wagon hX  hcall) rfl (x_v0 (by decide)) rfl rfl wM_L_23 wI_X7_wagon wS_X7_wagon wN_X7 wC_X7_wagon (by decide +kernel) rfl (by decide) (by decide) (Nat.le_of_ble_eq_true rfl) dL_law_235 ?_
          refine tr_aload_n hO 238 2 rfl dL_law_238 ?_
          refine tr_aload_n hO 239 0 rfl dL_law_239 ?_
          refine tr_iload_n hO 240 3 rfl dL_law_240 ?_
          refine tr_iconst hO 241 (v := 1) (by decide) dL_law_241 ?_
          refine tr_iadd hO 242 dL_law_242 ?_
          obtain ⟨hg, h⟩ := of_gd h
          refine tr_sld hO hSc 243 hg dL_law_243 ?_
          refine tr_aload_n hO 244 0 rfl dL_law_244 ?_
          refine tr_iload_n hO 245 3 rfl dL_law_245 ?_
          refine tr_iconst hO 246 (v := 2) (by decide) dL_law_246 ?_
          refine tr_iadd hO 247 dL_law_247 ?_
          obtain ⟨hg, h⟩ := of_gd h
          refine tr_sld hO hSc 248 hg dL_law_248 ?_
          obtain ⟨v17, μ18, hcall, h⟩ := of_bd h
          refine tr_callI hO 249 (na := 2) (As := [.int (xs (v1 + 1).toNatClampNeg), .int (xs (v1 + 2).toNatClampNeg)]) (st := [.int v15]) (c_X8_wagon hX  hcall) rfl (x_v0 (by decide)) rfl rfl wM_L_26 wI_X8_wagon wS_X8_wagon wN_X8 wC_X8_wagon (by decide +kernel) rfl (by decide) (by decide) (Nat.le_of_ble_eq_true rfl) dL_law_249 ?_
          refine tr_icmp_eq hO 252 948 (by decide) dL_law_252 (fun hc => ?_) (fun hc => ?_)
          · have h := of_t hc h
            exact J3_T _ h
          · have h := of_f hc h
            refine tr_iconst hO 255 (v := 0) (by decide) dL_law_255 ?_
            cases h
            exact absurd hr1 (by decide)
        have h := of_f hs2 h
        by_cases hs3 : v6 = 3
        · have h := of_t hs3 h
          refine tr_tabIn hO 32 257 (by rw [hs3]; decide) (by rw [hs3]; decide) (by rw [hs3]; rfl) (by decide) dL_law_32 ?_
          refine tr_aload_n hO 257 1 rfl dL_law_257 ?_
          refine tr_aload_n hO 258 0 rfl dL_law_258 ?_
          refine tr_iload_n hO 259 3 rfl dL_law_259 ?_
          refine tr_iconst hO 260 (v := 1) (by decide) dL_law_260 ?_
          refine tr_iadd hO 261 dL_law_261 ?_
          obtain ⟨hg, h⟩ := of_gd h
          refine tr_sld hO hSc 262 hg dL_law_262 ?_
          refine tr_aload_n hO 263 0 rfl dL_law_263 ?_
          refine tr_iload_n hO 264 3 rfl dL_law_264 ?_
          refine tr_iconst hO 265 (v := 2) (by decide) dL_law_265 ?_
          refine tr_iadd hO 266 dL_law_266 ?_
          obtain ⟨hg, h⟩ := of_gd h
          refine tr_sld hO hSc 267 hg dL_law_267 ?_
          obtain ⟨v19, μ20, hcall, h⟩ := of_bd h
          refine tr_callI hO 268 (na := 2) (As := [.int (xs (v1 + 1).toNatClampNeg), .int (xs (v1 + 2).toNatClampNeg)]) (st := []) (c_X7_block hX  hcall) rfl (x_v0 (by decide)) rfl rfl wM_L_27 wI_X7_block wS_X7_block wN_X7 wC_X7_block (by decide +kernel) rfl (by decide) (by decide) (Nat.le_of_ble_eq_true rfl) dL_law_268 ?_
          refine tr_aload_n hO 271 2 rfl dL_law_271 ?_
          refine tr_aload_n hO 272 0 rfl dL_law_272 ?_
          refine tr_iload_n hO 273 3 rfl dL_law_273 ?_
          refine tr_iconst hO 274 (v := 1) (by decide) dL_law_274 ?_
          refine tr_iadd hO 275 dL_law_275 ?_
          obtain ⟨hg, h⟩ := of_gd h
          refine tr_sld hO hSc 276 hg dL_law_276 ?_
          refine tr_aload_n hO 277 0 rfl dL_law_277 ?_
          refine tr_iload_n hO 278 3 rfl dL_law_278 ?_
          refine tr_iconst hO 279 (v := 2) (by decide) dL_law_279 ?_
          refine tr_iadd hO 280 dL_law_280 ?_
          obtain ⟨hg, h⟩ := of_gd h
          refine tr_sld hO hSc 281 hg dL_law_281 ?_
          obtain ⟨v21, μ22, hcall, h⟩ := of_bd h
          refine tr_callI hO 282 (na := 2) (As := [.int (xs (v1 + 1).toNatClampNeg), .int (xs (v1 + 2).toNatClampNeg)]) (st := [.int v19]) (c_X8_block hX  hcall) rfl (x_v0 (by decide)) rfl rfl wM_L_30 wI_X8_block wS_X8_block wN_X8 wC_X8_block (by decide +kernel) rfl (by decide) (by decide) (Nat.le_of_ble_eq_true rfl) dL_law_282 ?_
          refine tr_icmp_eq hO 285 948 (by decide) dL_law_285 (fun hc => ?_) (fun hc => ?_)
          · have h := of_t hc h
            exact J3_T _ h
          · have h := of_f hc h
            refine tr_iconst hO 288 (v := 0) (by decide) dL_law_288 ?_
            cases h
            exact absurd hr1 (by decide)
        have h := of_f hs3 h
        by_cases hs4 : v6 = 4
        · have h := of_t hs4 h
          refine tr_tabIn hO 32 290 (by rw [hs4]; decide) (by rw [hs4]; decide) (by rw [hs4]; rfl) (by decide) dL_law_32 ?_
          refine tr_aload_n hO 290 1 rfl dL_law_290 ?_
          refine tr_aload_n hO 291 0 rfl dL_law_291 ?_
          refine tr_iload_n hO 292 3 rfl dL_law_292 ?_
          refine tr_iconst hO 293 (v := 1) (by decide) dL_law_293 ?_
          refine tr_iadd hO 294 dL_law_294 ?_
          obtain ⟨hg, h⟩ := of_gd h
          refine tr_sld hO hSc 295 hg dL_law_295 ?_
          refine tr_aload_n hO 296 0 rfl dL_law_296 ?_
          refine tr_iload_n hO 297 3 rfl dL_law_297 ?_
          refine tr_iconst hO 298 (v := 2) (by decide) dL_law_298 ?_
          refine tr_iadd hO 299 dL_law_299 ?_
          obtain ⟨hg, h⟩ := of_gd h
          refine tr_sld hO hSc 300 hg dL_law_300 ?_
          obtain ⟨v23, μ24, hcall, h⟩ := of_bd h
          refine tr_callI hO 301 (na := 2) (As := [.int (xs (v1 + 1).toNatClampNeg), .int (xs (v1 + 2).toNatClampNeg)]) (st := []) (c_X7_pull hX  hcall) rfl (x_v0 (by decide)) rfl rfl wM_L_31 wI_X7_pull wS_X7_pull wN_X7 wC_X7_pull (by decide +kernel) rfl (by decide) (by decide) (Nat.le_of_ble_eq_true rfl) dL_law_301 ?_
          refine tr_aload_n hO 304 2 rfl dL_law_304 ?_
          refine tr_aload_n hO 305 0 rfl dL_law_305 ?_
          refine tr_iload_n hO 306 3 rfl dL_law_306 ?_
          refine tr_iconst hO 307 (v := 1) (by decide) dL_law_307 ?_
          refine tr_iadd hO 308 dL_law_308 ?_
          obtain ⟨hg, h⟩ := of_gd h
          refine tr_sld hO hSc 309 hg dL_law_309 ?_
          refine tr_aload_n hO 310 0 rfl dL_law_310 ?_
          refine tr_iload_n hO 311 3 rfl dL_law_311 ?_
          refine tr_iconst hO 312 (v := 2) (by decide) dL_law_312 ?_
          refine tr_iadd hO 313 dL_law_313 ?_
          obtain ⟨hg, h⟩ := of_gd h
          refine tr_sld hO hSc 314 hg dL_law_314 ?_
          obtain ⟨v25, μ26, hcall, h⟩ := of_bd h
          refine tr_callI hO 315 (na := 2) (As := [.int (xs (v1 + 1).toNatClampNeg), .int (xs (v1 + 2).toNatClampNeg)]) (st := [.int v23]) (c_X8_pull hX  hcall) rfl (x_v0 (by decide)) rfl rfl wM_L_34 wI_X8_pull wS_X8_pull wN_X8 wC_X8_pull (by decide +kernel) rfl (by decide) (by decide) (Nat.le_of_ble_eq_true rfl) dL_law_315 ?_
          refine tr_icmp_eq hO 318 948 (by decide) dL_law_318 (fun hc => ?_) (fun hc => ?_)
          · have h := of_t hc h
            exact J3_T _ h
          · have h := of_f hc h
            refine tr_iconst hO 321 (v := 0) (by decide) dL_law_321 ?_
            cases h
            exact absurd hr1 (by decide)
        have h := of_f hs4 h
        by_cases hs5 : v6 = 5
        · have h := of_t hs5 h
          refine tr_tabIn hO 32 323 (by rw [hs5]; decide) (by rw [hs5]; decide) (by rw [hs5]; rfl) (by decide) dL_law_32 ?_
          refine tr_aload_n hO 323 1 rfl dL_law_323 ?_
          refine tr_aload_n hO 324 0 rfl dL_law_324 ?_
          refine tr_iload_n hO 325 3 rfl dL_law_325 ?_
          refine tr_iconst hO 326 (v := 1) (by decide) dL_law_326 ?_
          refine tr_iadd hO 327 dL_law_327 ?_
          obtain ⟨hg, h⟩ := of_gd h
          refine tr_sld hO hSc 328 hg dL_law_328 ?_
          refine tr_aload_n hO 329 0 rfl dL_law_329 ?_
          refine tr_iload_n hO 330 3 rfl dL_law_330 ?_
          refine tr_iconst hO 331 (v := 2) (by decide) dL_law_331 ?_
          refine tr_iadd hO 332 dL_law_332 ?_
          obtain ⟨hg, h⟩ := of_gd h
          refine tr_sld hO hSc 333 hg dL_law_333 ?_
          obtain ⟨v27, μ28, hcall, h⟩ := of_bd h
          refine tr_callI hO 334 (na := 2) (As := [.int (xs (v1 + 1).toNatClampNeg), .int (xs (v1 + 2).toNatClampNeg)]) (st := []) (c_X7_push hX  hcall) rfl (x_v0 (by decide)) rfl rfl wM_L_35 wI_X7_push wS_X7_push wN_X7 wC_X7_push (by decide +kernel) rfl (by decide) (by decide) (Nat.le_of_ble_eq_true rfl) dL_law_334 ?_
          refine tr_aload_n hO 337 2 rfl dL_law_337 ?_
          refine tr_aload_n hO 338 0 rfl dL_law_338 ?_
          refine tr_iload_n hO 339 3 rfl dL_law_339 ?_
          refine tr_iconst hO 340 (v := 1) (by decide) dL_law_340 ?_
          refine tr_iadd hO 341 dL_law_341 ?_
          obtain ⟨hg, h⟩ := of_gd h
          refine tr_sld hO hSc 342 hg dL_law_342 ?_
          refine tr_aload_n hO 343 0 rfl dL_law_343 ?_
          refine tr_iload_n hO 344 3 rfl dL_law_344 ?_
          refine tr_iconst hO 345 (v := 2) (by decide) dL_law_345 ?_
          refine tr_iadd hO 346 dL_law_346 ?_
          obtain ⟨hg, h⟩ := of_gd h
          refine tr_sld hO hSc 347 hg dL_law_347 ?_
          obtain ⟨v29, μ30, hcall, h⟩ := of_bd h
          refine tr_callI hO 348 (na := 2) (As := [.int (xs (v1 + 1).toNatClampNeg), .int (xs (v1 + 2).toNatClampNeg)]) (st := [.int v27]) (c_X8_push hX  hcall) rfl (x_v0 (by decide)) rfl rfl wM_L_38 wI_X8_push wS_X8_push wN_X8 wC_X8_push (by decide +kernel) rfl (by decide) (by decide) (Nat.le_of_ble_eq_true rfl) dL_law_348 ?_
          refine tr_icmp_eq hO 351 948 (by decide) dL_law_351 (fun hc => ?_) (fun hc => ?_)
          · have h := of_t hc h
            exact J3_T _ h
          · have h := of_f hc h
            refine tr_iconst hO 354 (v := 0) (by decide) dL_law_354 ?_
            cases h
            exact absurd hr1 (by decide)
        have h := of_f hs5 h
        by_cases hs6 : v6 = 6
        · have h := of_t hs6 h
          refine tr_tabIn hO 32 356 (by rw [hs6]; decide) (by rw [hs6]; decide) (by rw [hs6]; rfl) (by decide) dL_law_32 ?_
          refine tr_aload_n hO 356 1 rfl dL_law_356 ?_
          obtain ⟨v31, μ32, hcall, h⟩ := of_bd h
          refine tr_callI hO 357 (na := 0) (As := []) (st := []) (c_X7_round hX  hcall) rfl (x_v0 (by decide)) rfl rfl wM_L_39 wI_X7_round wS_X7_round wN_X7 wC_X7_round (by decide +kernel) rfl (by decide) (by decide) (Nat.le_of_ble_eq_true rfl) dL_law_357 ?_
          refine tr_aload_n hO 360 2 rfl dL_law_360 ?_
          obtain ⟨v33, μ34, hcall, h⟩ := of_bd h
          refine tr_callI hO 361 (na := 0) (As := []) (st := [.int v31]) (c_X8_round hX  hcall) rfl (x_v0 (by decide)) rfl rfl wM_L_43 wI_X8_round wS_X8_round wN_X8 wC_X8_round (by decide +kernel) rfl (by decide) (by decide) (Nat.le_of_ble_eq_true rfl) dL_law_361 ?_
          refine tr_icmp_eq hO 364 948 (by decide) dL_law_364 (fun hc => ?_) (fun hc => ?_)
          · have h := of_t hc h
            exact J3_T _ h
          · have h := of_f hc h
            refine tr_iconst hO 367 (v := 0) (by decide) dL_law_367 ?_
            cases h
            exact absurd hr1 (by decide)
        have h := of_f hs6 h
        by_cases hs7 : v6 = 7
        · have h := of_t hs7 h
          refine tr_tabIn hO 32 369 (by rw [hs7]; decide) (by rw [hs7]; decide) (by rw [hs7]; rfl) (by decide) dL_law_32 ?_
          refine tr_aload_n hO 369 1 rfl dL_law_369 ?_
          refine tr_aload_n hO 370 0 rfl dL_law_370 ?_
          refine tr_iload_n hO 371 3 rfl dL_law_371 ?_
          refine tr_iconst hO 372 (v := 1) (by decide) dL_law_372 ?_
          refine tr_iadd hO 373 dL_law_373 ?_
          obtain ⟨hg, h⟩ := of_gd h
          refine tr_sld hO hSc 374 hg dL_law_374 ?_
          obtain ⟨v35, μ36, hcall, h⟩ := of_bd h
          refine tr_callI hO 375 (na := 1) (As := [.int (xs (v1 + 1).toNatClampNeg)]) (st := []) (c_X7_pass hX  hcall) rfl (x_v0 (by decide)) rfl rfl wM_L_44 wI_X7_pass wS_X7_pass wN_X7 wC_X7_pass (by decide +kernel) rfl (by decide) (by decide) (Nat.le_of_ble_eq_true rfl) dL_law_375 ?_
          refine tr_aload_n hO 378 2 rfl dL_law_378 ?_
          refine tr_aload_n hO 379 0 rfl dL_law_379 ?_
          refine tr_iload_n hO 380 3 rfl dL_law_380 ?_
          refine tr_iconst hO 381 (v := 1) (by decide) dL_law_381 ?_
          refine tr_iadd hO 382 dL_law_382 ?_
          obtain ⟨hg, h⟩ := of_gd h
          refine tr_sld hO hSc 383 hg dL_law_383 ?_
          obtain ⟨v37, μ38, hcall, h⟩ := of_bd h
          refine tr_callI hO 384 (na := 1) (As := [.int (xs (v1 + 1).toNatClampNeg)]) (st := [.int v35]) (c_X8_pass hX  hcall) rfl (x_v0 (by decide)) rfl rfl wM_L_47 wI_X8_pass wS_X8_pass wN_X8 wC_X8_pass (by decide +kernel) rfl (by decide) (by decide) (Nat.le_of_ble_eq_true rfl) dL_law_384 ?_
          refine tr_icmp_eq hO 387 948 (by decide) dL_law_387 (fun hc => ?_) (fun hc => ?_)
          · have h := of_t hc h
            exact J3_T _ h
          · have h := of_f hc h
            refine tr_iconst hO 390 (v := 0) (by decide) dL_law_390 ?_
            cases h
            exact absurd hr1 (by decide)
        have h := of_f hs7 h
        by_cases hs8 : v6 = 8
        · have h := of_t hs8 h
          refine tr_tabIn hO 32 392 (by rw [hs8]; decide) (by rw [hs8]; decide) (by rw [hs8]; rfl) (by decide) dL_law_32 ?_
          refine tr_aload_n hO 392 1 rfl dL_law_392 ?_
          refine tr_aload_n hO 393 0 rfl dL_law_393 ?_
          refine tr_iload_n hO 394 3 rfl dL_law_394 ?_
          refine tr_iconst hO 395 (v := 1) (by decide) dL_law_395 ?_
          refine tr_iadd hO 396 dL_law_396 ?_
          obtain ⟨hg, h⟩ := of_gd h
          refine tr_sld hO hSc 397 hg dL_law_397 ?_
          refine tr_i2l hO 398 dL_law_398 ?_
          refine tr_bipush hO 399 (v := 32) (by decide) dL_law_399 ?_
          refine tr_lshl hO 401 dL_law_401 ?_
          refine tr_aload_n hO 402 0 rfl dL_law_402 ?_
          refine tr_iload_n hO 403 3 rfl dL_law_403 ?_
          refine tr_iconst hO 404 (v := 2) (by decide) dL_law_404 ?_
          refine tr_iadd hO 405 dL_law_405 ?_
          obtain ⟨hg, h⟩ := of_gd h
          refine tr_sld hO hSc 406 hg dL_law_406 ?_
          refine tr_i2l hO 407 dL_law_407 ?_
          refine tr_ldc2 hO 408 (v := 4294967295) wK_L_48 dL_law_408 ?_
          refine tr_land hO 411 dL_law_411 ?_
          refine tr_lor hO 412 dL_law_412 ?_
          refine tr_aload_n hO 413 0 rfl dL_law_413 ?_
          refine tr_iload_n hO 414 3 rfl dL_law_414 ?_
          refine tr_iconst hO 415 (v := 3) (by decide) dL_law_415 ?_
          refine tr_iadd hO 416 dL_law_416 ?_
          obtain ⟨hg, h⟩ := of_gd h
          refine tr_sld hO hSc 417 hg dL_law_417 ?_
          obtain ⟨v39, μ40, hcall, h⟩ := of_bd h
          refine tr_callI hO 418 (na := 2) (As := [.long ((shlL ((xs (v1 + 1).toNatClampNeg).toInt64) 32) ||| (((xs (v1 + 2).toNatClampNeg).toInt64) &&& 4294967295)), .int (xs (v1 + 3).toNatClampNeg)]) (st := []) (c_X7_train hX  hcall) rfl (x_v0 (by decide)) rfl rfl wM_L_50 wI_X7_train wS_X7_train wN_X7 wC_X7_train (by decide +kernel) rfl (by decide) (by decide) (Nat.le_of_ble_eq_true rfl) dL_law_418 ?_
          refine tr_aload_n hO 421 2 rfl dL_law_421 ?_
          refine tr_aload_n hO 422 0 rfl dL_law_422 ?_
          refine tr_iload_n hO 423 3 rfl dL_law_423 ?_
          refine tr_iconst hO 424 (v := 1) (by decide) dL_law_424 ?_
          refine tr_iadd hO 425 dL_law_425 ?_
          obtain ⟨hg, h⟩ := of_gd h
          refine tr_sld hO hSc 426 hg dL_law_426 ?_
          refine tr_i2l hO 427 dL_law_427 ?_
          refine tr_bipush hO 428 (v := 32) (by decide) dL_law_428 ?_
          refine tr_lshl hO 430 dL_law_430 ?_
          refine tr_aload_n hO 431 0 rfl dL_law_431 ?_
          refine tr_iload_n hO 432 3 rfl dL_law_432 ?_
          refine tr_iconst hO 433 (v := 2) (by decide) dL_law_433 ?_
          refine tr_iadd hO 434 dL_law_434 ?_
          obtain ⟨hg, h⟩ := of_gd h
          refine tr_sld hO hSc 435 hg dL_law_435 ?_
          refine tr_i2l hO 436 dL_law_436 ?_
          refine tr_ldc2 hO 437 (v := 4294967295) wK_L_48 dL_law_437 ?_
          refine tr_land hO 440 dL_law_440 ?_
          refine tr_lor hO 441 dL_law_441 ?_
          refine tr_aload_n hO 442 0 rfl dL_law_442 ?_
          refine tr_iload_n hO 443 3 rfl dL_law_443 ?_
          refine tr_iconst hO 444 (v := 3) (by decide) dL_law_444 ?_
          refine tr_iadd hO 445 dL_law_445 ?_
          obtain ⟨hg, h⟩ := of_gd h
          refine tr_sld hO hSc 446 hg dL_law_446 ?_
          obtain ⟨v41, μ42, hcall, h⟩ := of_bd h
          refine tr_callI hO 447 (na := 2) (As := [.long ((shlL ((xs (v1 + 1).toNatClampNeg).toInt64) 32) ||| (((xs (v1 + 2).toNatClampNeg).toInt64) &&& 4294967295)), .int (xs (v1 + 3).toNatClampNeg)]) (st := [.int v39]) (c_X8_train hX  hcall) rfl (x_v0 (by decide)) rfl rfl wM_L_54 wI_X8_train wS_X8_train wN_X8 wC_X8_train (by decide +kernel) rfl (by decide) (by decide) (Nat.le_of_ble_eq_true rfl) dL_law_447 ?_
          refine tr_icmp_eq hO 450 948 (by decide) dL_law_450 (fun hc => ?_) (fun hc => ?_)
          · have h := of_t hc h
            exact J3_T _ h
          · have h := of_f hc h
            refine tr_iconst hO 453 (v := 0) (by decide) dL_law_453 ?_
            cases h
            exact absurd hr1 (by decide)
        have h := of_f hs8 h
        by_cases hs9 : v6 = 9
        · have h := of_t hs9 h
          refine tr_tabIn hO 32 455 (by rw [hs9]; decide) (by rw [hs9]; decide) (by rw [hs9]; rfl) (by decide) dL_law_32 ?_
          refine tr_aload_n hO 455 1 rfl dL_law_455 ?_
          refine tr_aload_n hO 456 0 rfl dL_law_456 ?_
          refine tr_iload_n hO 457 3 rfl dL_law_457 ?_
          refine tr_iconst hO 458 (v := 1) (by decide) dL_law_458 ?_
          refine tr_iadd hO 459 dL_law_459 ?_
          obtain ⟨hg, h⟩ := of_gd h
          refine tr_sld hO hSc 460 hg dL_law_460 ?_
          obtain ⟨v43, μ44, hcall, h⟩ := of_bd h
          refine tr_callI hO 461 (na := 1) (As := [.int (xs (v1 + 1).toNatClampNeg)]) (st := []) (c_X7_strike hX  hcall) rfl (x_v0 (by decide)) rfl rfl wM_L_55 wI_X7_strike wS_X7_strike wN_X7 wC_X7_strike (by decide +kernel) rfl (by decide) (by decide) (Nat.le_of_ble_eq_true rfl) dL_law_461 ?_
          refine tr_aload_n hO 464 2 rfl dL_law_464 ?_
          refine tr_aload_n hO 465 0 rfl dL_law_465 ?_
          refine tr_iload_n hO 466 3 rfl dL_law_466 ?_
          refine tr_iconst hO 467 (v := 1) (by decide) dL_law_467 ?_
          refine tr_iadd hO 468 dL_law_468 ?_
          obtain ⟨hg, h⟩ := of_gd h
          refine tr_sld hO hSc 469 hg dL_law_469 ?_
          obtain ⟨v45, μ46, hcall, h⟩ := of_bd h
          refine tr_callI hO 470 (na := 1) (As := [.int (xs (v1 + 1).toNatClampNeg)]) (st := [.int v43]) (c_X8_strike hX  hcall) rfl (x_v0 (by decide)) rfl rfl wM_L_58 wI_X8_strike wS_X8_strike wN_X8 wC_X8_strike (by decide +kernel) rfl (by decide) (by decide) (Nat.le_of_ble_eq_true rfl) dL_law_470 ?_
          refine tr_icmp_eq hO 473 948 (by decide) dL_law_473 (fun hc => ?_) (fun hc => ?_)
          · have h := of_t hc h
            exact J3_T _ h
          · have h := of_f hc h
            refine tr_iconst hO 476 (v := 0) (by decide) dL_law_476 ?_
            cases h
            exact absurd hr1 (by decide)
        have h := of_f hs9 h
        by_cases hs10 : v6 = 10
        · have h := of_t hs10 h
          refine tr_tabIn hO 32 478 (by rw [hs10]; decide) (by rw [hs10]; decide) (by rw [hs10]; rfl) (by decide) dL_law_32 ?_
          refine tr_aload_n hO 478 1 rfl dL_law_478 ?_
          refine tr_aload_n hO 479 0 rfl dL_law_479 ?_
          refine tr_iload_n hO 480 3 rfl dL_law_480 ?_
          refine tr_iconst hO 481 (v := 1) (by decide) dL_law_481 ?_
          refine tr_iadd hO 482 dL_law_482 ?_
          obtain ⟨hg, h⟩ := of_gd h
          refine tr_sld hO hSc 483 hg dL_law_483 ?_
          obtain ⟨v47, μ48, hcall, h⟩ := of_bd h
          refine tr_callI hO 484 (na := 1) (As := [.int (xs (v1 + 1).toNatClampNeg)]) (st := []) (c_X7_leave hX  hcall) rfl (x_v0 (by decide)) rfl rfl wM_L_59 wI_X7_leave wS_X7_leave wN_X7 wC_X7_leave (by decide +kernel) rfl (by decide) (by decide) (Nat.le_of_ble_eq_true rfl) dL_law_484 ?_
          refine tr_aload_n hO 487 2 rfl dL_law_487 ?_
          refine tr_aload_n hO 488 0 rfl dL_law_488 ?_
          refine tr_iload_n hO 489 3 rfl dL_law_489 ?_
          refine tr_iconst hO 490 (v := 1) (by decide) dL_law_490 ?_
          refine tr_iadd hO 491 dL_law_491 ?_
          obtain ⟨hg, h⟩ := of_gd h
          refine tr_sld hO hSc 492 hg dL_law_492 ?_
          obtain ⟨v49, μ50, hcall, h⟩ := of_bd h
          refine tr_callI hO 493 (na := 1) (As := [.int (xs (v1 + 1).toNatClampNeg)]) (st := [.int v47]) (c_X8_leave hX  hcall) rfl (x_v0 (by decide)) rfl rfl wM_L_62 wI_X8_leave wS_X8_leave wN_X8 wC_X8_leave (by decide +kernel) rfl (by decide) (by decide) (Nat.le_of_ble_eq_true rfl) dL_law_493 ?_
          refine tr_icmp_eq hO 496 948 (by decide) dL_law_496 (fun hc => ?_) (fun hc => ?_)
          · have h := of_t hc h
            exact J3_T _ h
          · have h := of_f hc h
            refine tr_iconst hO 499 (v := 0) (by decide) dL_law_499 ?_
            cases h
            exact absurd hr1 (by decide)
        have h := of_f hs10 h
        by_cases hs11 : v6 = 11
        · have h := of_t hs11 h
          refine tr_tabIn hO 32 501 (by rw [hs11]; decide) (by rw [hs11]; decide) (by rw [hs11]; rfl) (by decide) dL_law_32 ?_
          refine tr_aload_n hO 501 1 rfl dL_law_501 ?_
          refine tr_aload_n hO 502 0 rfl dL_law_502 ?_
          refine tr_iload_n hO 503 3 rfl dL_law_503 ?_
          refine tr_iconst hO 504 (v := 1) (by decide) dL_law_504 ?_
          refine tr_iadd hO 505 dL_law_505 ?_
          obtain ⟨hg, h⟩ := of_gd h
          refine tr_sld hO hSc 506 hg dL_law_506 ?_
          refine tr_aload_n hO 507 0 rfl dL_law_507 ?_
          refine tr_iload_n hO 508 3 rfl dL_law_508 ?_
          refine tr_iconst hO 509 (v := 2) (by decide) dL_law_509 ?_
          refine tr_iadd hO 510 dL_law_510 ?_
          obtain ⟨hg, h⟩ := of_gd h
          refine tr_sld hO hSc 511 hg dL_law_511 ?_
          obtain ⟨v51, μ52, hcall, h⟩ := of_bd h
          refine tr_callI hO 512 (na := 2) (As := [.int (xs (v1 + 1).toNatClampNeg), .int (xs (v1 + 2).toNatClampNeg)]) (st := []) (c_X7_ofTrack hX  hcall) rfl (x_v0 (by decide)) rfl rfl wM_L_63 wI_X7_ofTrack wS_X7_ofTrack wN_X7 wC_X7_ofTrack (by decide +kernel) rfl (by decide) (by decide) (Nat.le_of_ble_eq_true rfl) dL_law_512 ?_
          refine tr_aload_n hO 515 2 rfl dL_law_515 ?_
          refine tr_aload_n hO 516 0 rfl dL_law_516 ?_
          refine tr_iload_n hO 517 3 rfl dL_law_517 ?_
          refine tr_iconst hO 518 (v := 1) (by decide) dL_law_518 ?_
          refine tr_iadd hO 519 dL_law_519 ?_
          obtain ⟨hg, h⟩ := of_gd h
          refine tr_sld hO hSc 520 hg dL_law_520 ?_
          refine tr_aload_n hO 521 0 rfl dL_law_521 ?_
          refine tr_iload_n hO 522 3 rfl dL_law_522 ?_
          refine tr_iconst hO 523 (v := 2) (by decide) dL_law_523 ?_
          refine tr_iadd hO 524 dL_law_524 ?_
          obtain ⟨hg, h⟩ := of_gd h
          refine tr_sld hO hSc 525 hg dL_law_525 ?_
          obtain ⟨v53, μ54, hcall, h⟩ := of_bd h
          refine tr_callI hO 526 (na := 2) (As := [.int (xs (v1 + 1).toNatClampNeg), .int (xs (v1 + 2).toNatClampNeg)]) (st := [.int v51]) (c_X8_ofTrack hX  hcall) rfl (x_v0 (by decide)) rfl rfl wM_L_66 wI_X8_ofTrack wS_X8_ofTrack wN_X8 wC_X8_ofTrack (by decide +kernel) rfl (by decide) (by decide) (Nat.le_of_ble_eq_true rfl) dL_law_526 ?_
          refine tr_icmp_eq hO 529 948 (by decide) dL_law_529 (fun hc => ?_) (fun hc => ?_)
          · have h := of_t hc h
            exact J3_T _ h
          · have h := of_f hc h
            refine tr_iconst hO 532 (v := 0) (by decide) dL_law_532 ?_
            cases h
            exact absurd hr1 (by decide)
        have h := of_f hs11 h
        by_cases hs12 : v6 = 12
        · have h := of_t hs12 h
          refine tr_tabIn hO 32 534 (by rw [hs12]; decide) (by rw [hs12]; decide) (by rw [hs12]; rfl) (by decide) dL_law_32 ?_
          refine tr_aload_n hO 534 1 rfl dL_law_534 ?_
          refine tr_aload_n hO 535 0 rfl dL_law_535 ?_
          refine tr_iload_n hO 536 3 rfl dL_law_536 ?_
          refine tr_iconst hO 537 (v := 1) (by decide) dL_law_537 ?_
          refine tr_iadd hO 538 dL_law_538 ?_
          obtain ⟨hg, h⟩ := of_gd h
          refine tr_sld hO hSc 539 hg dL_law_539 ?_
          refine tr_aload_n hO 540 0 rfl dL_law_540 ?_
          refine tr_iload_n hO 541 3 rfl dL_law_541 ?_
          refine tr_iconst hO 542 (v := 2) (by decide) dL_law_542 ?_
          refine tr_iadd hO 543 dL_law_543 ?_
          obtain ⟨hg, h⟩ := of_gd h
          refine tr_sld hO hSc 544 hg dL_law_544 ?_
          obtain ⟨v55, μ56, hcall, h⟩ := of_bd h
          refine tr_callI hO 545 (na := 2) (As := [.int (xs (v1 + 1).toNatClampNeg), .int (xs (v1 + 2).toNatClampNeg)]) (st := []) (c_X7_at hX  hcall) rfl (x_v0 (by decide)) rfl rfl wM_L_67 wI_X7_at wS_X7_at wN_X7 wC_X7_at (by decide +kernel) rfl (by decide) (by decide) (Nat.le_of_ble_eq_true rfl) dL_law_545 ?_
          refine tr_aload_n hO 548 2 rfl dL_law_548 ?_
          refine tr_aload_n hO 549 0 rfl dL_law_549 ?_
          refine tr_iload_n hO 550 3 rfl dL_law_550 ?_
          refine tr_iconst hO 551 (v := 1) (by decide) dL_law_551 ?_
          refine tr_iadd hO 552 dL_law_552 ?_
          obtain ⟨hg, h⟩ := of_gd h
          refine tr_sld hO hSc 553 hg dL_law_553 ?_
          refine tr_aload_n hO 554 0 rfl dL_law_554 ?_
          refine tr_iload_n hO 555 3 rfl dL_law_555 ?_
          refine tr_iconst hO 556 (v := 2) (by decide) dL_law_556 ?_
          refine tr_iadd hO 557 dL_law_557 ?_
          obtain ⟨hg, h⟩ := of_gd h
          refine tr_sld hO hSc 558 hg dL_law_558 ?_
          obtain ⟨v57, μ58, hcall, h⟩ := of_bd h
          refine tr_callI hO 559 (na := 2) (As := [.int (xs (v1 + 1).toNatClampNeg), .int (xs (v1 + 2).toNatClampNeg)]) (st := [.int v55]) (c_X8_at hX  hcall) rfl (x_v0 (by decide)) rfl rfl wM_L_70 wI_X8_at wS_X8_at wN_X8 wC_X8_at (by decide +kernel) rfl (by decide) (by decide) (Nat.le_of_ble_eq_true rfl) dL_law_559 ?_
          refine tr_icmp_eq hO 562 948 (by decide) dL_law_562 (fun hc => ?_) (fun hc => ?_)
          · have h := of_t hc h
            exact J3_T _ h
          · have h := of_f hc h
            refine tr_iconst hO 565 (v := 0) (by decide) dL_law_565 ?_
            cases h
            exact absurd hr1 (by decide)
        have h := of_f hs12 h
        by_cases hs13 : v6 = 13
        · have h := of_t hs13 h
          refine tr_tabIn hO 32 567 (by rw [hs13]; decide) (by rw [hs13]; decide) (by rw [hs13]; rfl) (by decide) dL_law_32 ?_
          refine tr_aload_n hO 567 1 rfl dL_law_567 ?_
          refine tr_aload_n hO 568 0 rfl dL_law_568 ?_
          refine tr_iload_n hO 569 3 rfl dL_law_569 ?_
          refine tr_iconst hO 570 (v := 1) (by decide) dL_law_570 ?_
          refine tr_iadd hO 571 dL_law_571 ?_
          obtain ⟨hg, h⟩ := of_gd h
          refine tr_sld hO hSc 572 hg dL_law_572 ?_
          refine tr_aload_n hO 573 0 rfl dL_law_573 ?_
          refine tr_iload_n hO 574 3 rfl dL_law_574 ?_
          refine tr_iconst hO 575 (v := 2) (by decide) dL_law_575 ?_
          refine tr_iadd hO 576 dL_law_576 ?_
          obtain ⟨hg, h⟩ := of_gd h
          refine tr_sld hO hSc 577 hg dL_law_577 ?_
          obtain ⟨v59, μ60, hcall, h⟩ := of_bd h
          refine tr_callI hO 578 (na := 2) (As := [.int (xs (v1 + 1).toNatClampNeg), .int (xs (v1 + 2).toNatClampNeg)]) (st := []) (c_X7_ofWagon hX  hcall) rfl (x_v0 (by decide)) rfl rfl wM_L_71 wI_X7_ofWagon wS_X7_ofWagon wN_X7 wC_X7_ofWagon (by decide +kernel) rfl (by decide) (by decide) (Nat.le_of_ble_eq_true rfl) dL_law_578 ?_
          refine tr_aload_n hO 581 2 rfl dL_law_581 ?_
          refine tr_aload_n hO 582 0 rfl dL_law_582 ?_
          refine tr_iload_n hO 583 3 rfl dL_law_583 ?_
          refine tr_iconst hO 584 (v := 1) (by decide) dL_law_584 ?_
          refine tr_iadd hO 585 dL_law_585 ?_
          obtain ⟨hg, h⟩ := of_gd h
          refine tr_sld hO hSc 586 hg dL_law_586 ?_
          refine tr_aload_n hO 587 0 rfl dL_law_587 ?_
          refine tr_iload_n hO 588 3 rfl dL_law_588 ?_
          refine tr_iconst hO 589 (v := 2) (by decide) dL_law_589 ?_
          refine tr_iadd hO 590 dL_law_590 ?_
          obtain ⟨hg, h⟩ := of_gd h
          refine tr_sld hO hSc 591 hg dL_law_591 ?_
          obtain ⟨v61, μ62, hcall, h⟩ := of_bd h
          refine tr_callI hO 592 (na := 2) (As := [.int (xs (v1 + 1).toNatClampNeg), .int (xs (v1 + 2).toNatClampNeg)]) (st := [.int v59]) (c_X8_ofWagon hX  hcall) rfl (x_v0 (by decide)) rfl rfl wM_L_74 wI_X8_ofWagon wS_X8_ofWagon wN_X8 wC_X8_ofWagon (by decide +kernel) rfl (by decide) (by decide) (Nat.le_of_ble_eq_true rfl) dL_law_592 ?_
          refine tr_icmp_eq hO 595 948 (by decide) dL_law_595 (fun hc => ?_) (fun hc => ?_)
          · have h := of_t hc h
            exact J3_T _ h
          · have h := of_f hc h
            refine tr_iconst hO 598 (v := 0) (by decide) dL_law_598 ?_
            cases h
            exact absurd hr1 (by decide)
        have h := of_f hs13 h
        by_cases hs14 : v6 = 14
        · have h := of_t hs14 h
          refine tr_tabIn hO 32 600 (by rw [hs14]; decide) (by rw [hs14]; decide) (by rw [hs14]; rfl) (by decide) dL_law_32 ?_
          refine tr_aload_n hO 600 1 rfl dL_law_600 ?_
          refine tr_aload_n hO 601 0 rfl dL_law_601 ?_
          refine tr_iload_n hO 602 3 rfl dL_law_602 ?_
          refine tr_iconst hO 603 (v := 1) (by decide) dL_law_603 ?_
          refine tr_iadd hO 604 dL_law_604 ?_
          obtain ⟨hg, h⟩ := of_gd h
          refine tr_sld hO hSc 605 hg dL_law_605 ?_
          refine tr_aload_n hO 606 0 rfl dL_law_606 ?_
          refine tr_iload_n hO 607 3 rfl dL_law_607 ?_
          refine tr_iconst hO 608 (v := 2) (by decide) dL_law_608 ?_
          refine tr_iadd hO 609 dL_law_609 ?_
          obtain ⟨hg, h⟩ := of_gd h
          refine tr_sld hO hSc 610 hg dL_law_610 ?_
          obtain ⟨v63, μ64, hcall, h⟩ := of_bd h
          refine tr_callI hO 611 (na := 2) (As := [.int (xs (v1 + 1).toNatClampNeg), .int (xs (v1 + 2).toNatClampNeg)]) (st := []) (c_X7_ofTrain hX  hcall) rfl (x_v0 (by decide)) rfl rfl wM_L_75 wI_X7_ofTrain wS_X7_ofTrain wN_X7 wC_X7_ofTrain (by decide +kernel) rfl (by decide) (by decide) (Nat.le_of_ble_eq_true rfl) dL_law_611 ?_
          refine tr_aload_n hO 614 2 rfl dL_law_614 ?_
          refine tr_aload_n hO 615 0 rfl dL_law_615 ?_
          refine tr_iload_n hO 616 3 rfl dL_law_616 ?_
          refine tr_iconst hO 617 (v := 1) (by decide) dL_law_617 ?_
          refine tr_iadd hO 618 dL_law_618 ?_
          obtain ⟨hg, h⟩ := of_gd h
          refine tr_sld hO hSc 619 hg dL_law_619 ?_
          refine tr_aload_n hO 620 0 rfl dL_law_620 ?_
          refine tr_iload_n hO 621 3 rfl dL_law_621 ?_
          refine tr_iconst hO 622 (v := 2) (by decide) dL_law_622 ?_
          refine tr_iadd hO 623 dL_law_623 ?_
          obtain ⟨hg, h⟩ := of_gd h
          refine tr_sld hO hSc 624 hg dL_law_624 ?_
          obtain ⟨v65, μ66, hcall, h⟩ := of_bd h
          refine tr_callI hO 625 (na := 2) (As := [.int (xs (v1 + 1).toNatClampNeg), .int (xs (v1 + 2).toNatClampNeg)]) (st := [.int v63]) (c_X8_ofTrain hX  hcall) rfl (x_v0 (by decide)) rfl rfl wM_L_78 wI_X8_ofTrain wS_X8_ofTrain wN_X8 wC_X8_ofTrain (by decide +kernel) rfl (by decide) (by decide) (Nat.le_of_ble_eq_true rfl) dL_law_625 ?_
          refine tr_icmp_eq hO 628 948 (by decide) dL_law_628 (fun hc => ?_) (fun hc => ?_)
          · have h := of_t hc h
            exact J3_T _ h
          · have h := of_f hc h
            refine tr_iconst hO 631 (v := 0) (by decide) dL_law_631 ?_
            cases h
            exact absurd hr1 (by decide)
        have h := of_f hs14 h
        by_cases hs15 : v6 = 15
        · have h := of_t hs15 h
          refine tr_tabIn hO 32 633 (by rw [hs15]; decide) (by rw [hs15]; decide) (by rw [hs15]; rfl) (by decide) dL_law_32 ?_
          refine tr_aload_n hO 633 1 rfl dL_law_633 ?_
          refine tr_aload_n hO 634 0 rfl dL_law_634 ?_
          refine tr_iload_n hO 635 3 rfl dL_law_635 ?_
          refine tr_iconst hO 636 (v := 1) (by decide) dL_law_636 ?_
          refine tr_iadd hO 637 dL_law_637 ?_
          obtain ⟨hg, h⟩ := of_gd h
          refine tr_sld hO hSc 638 hg dL_law_638 ?_
          obtain ⟨v67, μ68, hcall, h⟩ := of_bd h
          refine tr_callI hO 639 (na := 1) (As := [.int (xs (v1 + 1).toNatClampNeg)]) (st := []) (c_X7_count hX  hcall) rfl (x_v0 (by decide)) rfl rfl wM_L_79 wI_X7_count wS_X7_count wN_X7 wC_X7_count (by decide +kernel) rfl (by decide) (by decide) (Nat.le_of_ble_eq_true rfl) dL_law_639 ?_
          refine tr_aload_n hO 642 2 rfl dL_law_642 ?_
          refine tr_aload_n hO 643 0 rfl dL_law_643 ?_
          refine tr_iload_n hO 644 3 rfl dL_law_644 ?_
          refine tr_iconst hO 645 (v := 1) (by decide) dL_law_645 ?_
          refine tr_iadd hO 646 dL_law_646 ?_
          obtain ⟨hg, h⟩ := of_gd h
          refine tr_sld hO hSc 647 hg dL_law_647 ?_
          obtain ⟨v69, μ70, hcall, h⟩ := of_bd h
          refine tr_callI hO 648 (na := 1) (As := [.int (xs (v1 + 1).toNatClampNeg)]) (st := [.int v67]) (c_X8_count hX  hcall) rfl (x_v0 (by decide)) rfl rfl wM_L_82 wI_X8_count wS_X8_count wN_X8 wC_X8_count (by decide +kernel) rfl (by decide) (by decide) (Nat.le_of_ble_eq_true rfl) dL_law_648 ?_
          refine tr_icmp_eq hO 651 948 (by decide) dL_law_651 (fun hc => ?_) (fun hc => ?_)
          · have h := of_t hc h
            exact J3_T _ h
          · have h := of_f hc h
            refine tr_iconst hO 654 (v := 0) (by decide) dL_law_654 ?_
            cases h
            exact absurd hr1 (by decide)
        have h := of_f hs15 h
        by_cases hs16 : v6 = 16
        · have h := of_t hs16 h
          refine tr_tabIn hO 32 656 (by rw [hs16]; decide) (by rw [hs16]; decide) (by rw [hs16]; rfl) (by decide) dL_law_32 ?_
          refine tr_aload_n hO 656 1 rfl dL_law_656 ?_
          refine tr_aload_n hO 657 0 rfl dL_law_657 ?_
          refine tr_iload_n hO 658 3 rfl dL_law_658 ?_
          refine tr_iconst hO 659 (v := 1) (by decide) dL_law_659 ?_
          refine tr_iadd hO 660 dL_law_660 ?_
          obtain ⟨hg, h⟩ := of_gd h
          refine tr_sld hO hSc 661 hg dL_law_661 ?_
          obtain ⟨v71, μ72, hcall, h⟩ := of_bd h
          refine tr_callI hO 662 (na := 1) (As := [.int (xs (v1 + 1).toNatClampNeg)]) (st := []) (c_X7_freeFrom hX  hcall) rfl (x_v0 (by decide)) rfl rfl wM_L_83 wI_X7_freeFrom wS_X7_freeFrom wN_X7 wC_X7_freeFrom (by decide +kernel) rfl (by decide) (by decide) (Nat.le_of_ble_eq_true rfl) dL_law_662 ?_
          refine tr_aload_n hO 665 2 rfl dL_law_665 ?_
          refine tr_aload_n hO 666 0 rfl dL_law_666 ?_
          refine tr_iload_n hO 667 3 rfl dL_law_667 ?_
          refine tr_iconst hO 668 (v := 1) (by decide) dL_law_668 ?_
          refine tr_iadd hO 669 dL_law_669 ?_
          obtain ⟨hg, h⟩ := of_gd h
          refine tr_sld hO hSc 670 hg dL_law_670 ?_
          obtain ⟨v73, μ74, hcall, h⟩ := of_bd h
          refine tr_callI hO 671 (na := 1) (As := [.int (xs (v1 + 1).toNatClampNeg)]) (st := [.int v71]) (c_X8_freeFrom hX  hcall) rfl (x_v0 (by decide)) rfl rfl wM_L_86 wI_X8_freeFrom wS_X8_freeFrom wN_X8 wC_X8_freeFrom (by decide +kernel) rfl (by decide) (by decide) (Nat.le_of_ble_eq_true rfl) dL_law_671 ?_
          refine tr_icmp_eq hO 674 948 (by decide) dL_law_674 (fun hc => ?_) (fun hc => ?_)
          · have h := of_t hc h
            exact J3_T _ h
          · have h := of_f hc h
            refine tr_iconst hO 677 (v := 0) (by decide) dL_law_677 ?_
            cases h
            exact absurd hr1 (by decide)
        have h := of_f hs16 h
        by_cases hs17 : v6 = 17
        · have h := of_t hs17 h
          refine tr_tabIn hO 32 679 (by rw [hs17]; decide) (by rw [hs17]; decide) (by rw [hs17]; rfl) (by decide) dL_law_32 ?_
          refine tr_aload_n hO 679 1 rfl dL_law_679 ?_
          refine tr_aload_n hO 680 0 rfl dL_law_680 ?_
          refine tr_iload_n hO 681 3 rfl dL_law_681 ?_
          refine tr_iconst hO 682 (v := 1) (by decide) dL_law_682 ?_
          refine tr_iadd hO 683 dL_law_683 ?_
          obtain ⟨hg, h⟩ := of_gd h
          refine tr_sld hO hSc 684 hg dL_law_684 ?_
          obtain ⟨v75, μ76, hcall, h⟩ := of_bd h
          refine tr_callI hO 685 (na := 1) (As := [.int (xs (v1 + 1).toNatClampNeg)]) (st := []) (c_X7_straight hX  hcall) rfl (x_v0 (by decide)) rfl rfl wM_L_87 wI_X7_straight wS_X7_straight wN_X7 wC_X7_straight (by decide +kernel) rfl (by decide) (by decide) (Nat.le_of_ble_eq_true rfl) dL_law_685 ?_
          refine tr_aload_n hO 688 2 rfl dL_law_688 ?_
          refine tr_aload_n hO 689 0 rfl dL_law_689 ?_
          refine tr_iload_n hO 690 3 rfl dL_law_690 ?_
          refine tr_iconst hO 691 (v := 1) (by decide) dL_law_691 ?_
          refine tr_iadd hO 692 dL_law_692 ?_
          obtain ⟨hg, h⟩ := of_gd h
          refine tr_sld hO hSc 693 hg dL_law_693 ?_
          obtain ⟨v77, μ78, hcall, h⟩ := of_bd h
          refine tr_callI hO 694 (na := 1) (As := [.int (xs (v1 + 1).toNatClampNeg)]) (st := [.int v75]) (c_X8_straight hX  hcall) rfl (x_v0 (by decide)) rfl rfl wM_L_90 wI_X8_straight wS_X8_straight wN_X8 wC_X8_straight (by decide +kernel) rfl (by decide) (by decide) (Nat.le_of_ble_eq_true rfl) dL_law_694 ?_
          refine tr_icmp_eq hO 697 948 (by decide) dL_law_697 (fun hc => ?_) (fun hc => ?_)
          · have h := of_t hc h
            exact J3_T _ h
          · have h := of_f hc h
            refine tr_iconst hO 700 (v := 0) (by decide) dL_law_700 ?_
            cases h
            exact absurd hr1 (by decide)
        have h := of_f hs17 h
        by_cases hs18 : v6 = 18
        · have h := of_t hs18 h
          refine tr_tabIn hO 32 702 (by rw [hs18]; decide) (by rw [hs18]; decide) (by rw [hs18]; rfl) (by decide) dL_law_32 ?_
          refine tr_aload_n hO 702 1 rfl dL_law_702 ?_
          refine tr_aload_n hO 703 0 rfl dL_law_703 ?_
          refine tr_iload_n hO 704 3 rfl dL_law_704 ?_
          refine tr_iconst hO 705 (v := 1) (by decide) dL_law_705 ?_
          refine tr_iadd hO 706 dL_law_706 ?_
          obtain ⟨hg, h⟩ := of_gd h
          refine tr_sld hO hSc 707 hg dL_law_707 ?_
          obtain ⟨v79, μ80, hcall, h⟩ := of_bd h
          refine tr_callI hO 708 (na := 1) (As := [.int (xs (v1 + 1).toNatClampNeg)]) (st := []) (c_X7_pulls hX  hcall) rfl (x_v0 (by decide)) rfl rfl wM_L_91 wI_X7_pulls wS_X7_pulls wN_X7 wC_X7_pulls (by decide +kernel) rfl (by decide) (by decide) (Nat.le_of_ble_eq_true rfl) dL_law_708 ?_
          refine tr_aload_n hO 711 2 rfl dL_law_711 ?_
          refine tr_aload_n hO 712 0 rfl dL_law_712 ?_
          refine tr_iload_n hO 713 3 rfl dL_law_713 ?_
          refine tr_iconst hO 714 (v := 1) (by decide) dL_law_714 ?_
          refine tr_iadd hO 715 dL_law_715 ?_
          obtain ⟨hg, h⟩ := of_gd h
          refine tr_sld hO hSc 716 hg dL_law_716 ?_
          obtain ⟨v81, μ82, hcall, h⟩ := of_bd h
          refine tr_callI hO 717 (na := 1) (As := [.int (xs (v1 + 1).toNatClampNeg)]) (st := [.int v79]) (c_X8_pulls hX  hcall) rfl (x_v0 (by decide)) rfl rfl wM_L_94 wI_X8_pulls wS_X8_pulls wN_X8 wC_X8_pulls (by decide +kernel) rfl (by decide) (by decide) (Nat.le_of_ble_eq_true rfl) dL_law_717 ?_
          refine tr_icmp_eq hO 720 948 (by decide) dL_law_720 (fun hc => ?_) (fun hc => ?_)
          · have h := of_t hc h
            exact J3_T _ h
          · have h := of_f hc h
            refine tr_iconst hO 723 (v := 0) (by decide) dL_law_723 ?_
            cases h
            exact absurd hr1 (by decide)
        have h := of_f hs18 h
        by_cases hs19 : v6 = 19
        · have h := of_t hs19 h
          refine tr_tabIn hO 32 725 (by rw [hs19]; decide) (by rw [hs19]; decide) (by rw [hs19]; rfl) (by decide) dL_law_32 ?_
          refine tr_aload_n hO 725 1 rfl dL_law_725 ?_
          refine tr_aload_n hO 726 0 rfl dL_law_726 ?_
          refine tr_iload_n hO 727 3 rfl dL_law_727 ?_
          refine tr_iconst hO 728 (v := 1) (by decide) dL_law_728 ?_
          refine tr_iadd hO 729 dL_law_729 ?_
          obtain ⟨hg, h⟩ := of_gd h
          refine tr_sld hO hSc 730 hg dL_law_730 ?_
          obtain ⟨v83, μ84, hcall, h⟩ := of_bd h
          refine tr_callI hO 731 (na := 1) (As := [.int (xs (v1 + 1).toNatClampNeg)]) (st := []) (c_X7_wouldLeave hX  hcall) rfl (x_v0 (by decide)) rfl rfl wM_L_95 wI_X7_wouldLeave wS_X7_wouldLeave wN_X7 wC_X7_wouldLeave (by decide +kernel) rfl (by decide) (by decide) (Nat.le_of_ble_eq_true rfl) dL_law_731 ?_
          refine tr_aload_n hO 734 2 rfl dL_law_734 ?_
          refine tr_aload_n hO 735 0 rfl dL_law_735 ?_
          refine tr_iload_n hO 736 3 rfl dL_law_736 ?_
          refine tr_iconst hO 737 (v := 1) (by decide) dL_law_737 ?_
          refine tr_iadd hO 738 dL_law_738 ?_
          obtain ⟨hg, h⟩ := of_gd h
          refine tr_sld hO hSc 739 hg dL_law_739 ?_
          obtain ⟨v85, μ86, hcall, h⟩ := of_bd h
          refine tr_callI hO 740 (na := 1) (As := [.int (xs (v1 + 1).toNatClampNeg)]) (st := [.int v83]) (c_X8_wouldLeave hX  hcall) rfl (x_v0 (by decide)) rfl rfl wM_L_98 wI_X8_wouldLeave wS_X8_wouldLeave wN_X8 wC_X8_wouldLeave (by decide +kernel) rfl (by decide) (by decide) (Nat.le_of_ble_eq_true rfl) dL_law_740 ?_
          refine tr_icmp_eq hO 743 948 (by decide) dL_law_743 (fun hc => ?_) (fun hc => ?_)
          · have h := of_t hc h
            exact J3_T _ h
          · have h := of_f hc h
            refine tr_iconst hO 746 (v := 0) (by decide) dL_law_746 ?_
            cases h
            exact absurd hr1 (by decide)
        have h := of_f hs19 h
        by_cases hs20 : v6 = 20
        · have h := of_t hs20 h
          refine tr_tabIn hO 32 748 (by rw [hs20]; decide) (by rw [hs20]; decide) (by rw [hs20]; rfl) (by decide) dL_law_32 ?_
          refine tr_aload_n hO 748 1 rfl dL_law_748 ?_
          refine tr_aload_n hO 749 0 rfl dL_law_749 ?_
          refine tr_iload_n hO 750 3 rfl dL_law_750 ?_
          refine tr_iconst hO 751 (v := 1) (by decide) dL_law_751 ?_
          refine tr_iadd hO 752 dL_law_752 ?_
          obtain ⟨hg, h⟩ := of_gd h
          refine tr_sld hO hSc 753 hg dL_law_753 ?_
          obtain ⟨v87, μ88, hcall, h⟩ := of_bd h
          refine tr_callI hO 754 (na := 1) (As := [.int (xs (v1 + 1).toNatClampNeg)]) (st := []) (c_X7_moves hX  hcall) rfl (x_v0 (by decide)) rfl rfl wM_L_99 wI_X7_moves wS_X7_moves wN_X7 wC_X7_moves (by decide +kernel) rfl (by decide) (by decide) (Nat.le_of_ble_eq_true rfl) dL_law_754 ?_
          refine tr_aload_n hO 757 2 rfl dL_law_757 ?_
          refine tr_aload_n hO 758 0 rfl dL_law_758 ?_
          refine tr_iload_n hO 759 3 rfl dL_law_759 ?_
          refine tr_iconst hO 760 (v := 1) (by decide) dL_law_760 ?_
          refine tr_iadd hO 761 dL_law_761 ?_
          obtain ⟨hg, h⟩ := of_gd h
          refine tr_sld hO hSc 762 hg dL_law_762 ?_
          obtain ⟨v89, μ90, hcall, h⟩ := of_bd h
          refine tr_callI hO 763 (na := 1) (As := [.int (xs (v1 + 1).toNatClampNeg)]) (st := [.int v87]) (c_X8_moves hX  hcall) rfl (x_v0 (by decide)) rfl rfl wM_L_102 wI_X8_moves wS_X8_moves wN_X8 wC_X8_moves (by decide +kernel) rfl (by decide) (by decide) (Nat.le_of_ble_eq_true rfl) dL_law_763 ?_
          refine tr_icmp_eq hO 766 948 (by decide) dL_law_766 (fun hc => ?_) (fun hc => ?_)
          · have h := of_t hc h
            exact J3_T _ h
          · have h := of_f hc h
            refine tr_iconst hO 769 (v := 0) (by decide) dL_law_769 ?_
            cases h
            exact absurd hr1 (by decide)
        have h := of_f hs20 h
        by_cases hs21 : v6 = 21
        · have h := of_t hs21 h
          refine tr_tabIn hO 32 771 (by rw [hs21]; decide) (by rw [hs21]; decide) (by rw [hs21]; rfl) (by decide) dL_law_32 ?_
          refine tr_aload_n hO 771 1 rfl dL_law_771 ?_
          obtain ⟨v91, μ92, hcall, h⟩ := of_bd h
          refine tr_callI hO 772 (na := 0) (As := []) (st := []) (c_X7_roomFor hX  hcall) rfl (x_v0 (by decide)) rfl rfl wM_L_103 wI_X7_roomFor wS_X7_roomFor wN_X7 wC_X7_roomFor (by decide +kernel) rfl (by decide) (by decide) (Nat.le_of_ble_eq_true rfl) dL_law_772 ?_
          refine tr_aload_n hO 775 2 rfl dL_law_775 ?_
          obtain ⟨v93, μ94, hcall, h⟩ := of_bd h
          refine tr_callI hO 776 (na := 0) (As := []) (st := [.int v91]) (c_X8_roomFor hX  hcall) rfl (x_v0 (by decide)) rfl rfl wM_L_106 wI_X8_roomFor wS_X8_roomFor wN_X8 wC_X8_roomFor (by decide +kernel) rfl (by decide) (by decide) (Nat.le_of_ble_eq_true rfl) dL_law_776 ?_
          refine tr_icmp_eq hO 779 948 (by decide) dL_law_779 (fun hc => ?_) (fun hc => ?_)
          · have h := of_t hc h
            exact J3_T _ h
          · have h := of_f hc h
            refine tr_iconst hO 782 (v := 0) (by decide) dL_law_782 ?_
            cases h
            exact absurd hr1 (by decide)
        have h := of_f hs21 h
        by_cases hs22 : v6 = 22
        · have h := of_t hs22 h
          refine tr_tabIn hO 32 784 (by rw [hs22]; decide) (by rw [hs22]; decide) (by rw [hs22]; rfl) (by decide) dL_law_32 ?_
          refine tr_aload_n hO 784 1 rfl dL_law_784 ?_
          obtain ⟨v95, μ96, hcall, h⟩ := of_bd h
          refine tr_callI hO 785 (na := 0) (As := []) (st := []) (c_X7_buried hX  hcall) rfl (x_v0 (by decide)) rfl rfl wM_L_107 wI_X7_buried wS_X7_buried wN_X7 wC_X7_buried (by decide +kernel) rfl (by decide) (by decide) (Nat.le_of_ble_eq_true rfl) dL_law_785 ?_
          refine tr_aload_n hO 788 2 rfl dL_law_788 ?_
          obtain ⟨v97, μ98, hcall, h⟩ := of_bd h
          refine tr_callI hO 789 (na := 0) (As := []) (st := [.int v95]) (c_X8_buried hX  hcall) rfl (x_v0 (by decide)) rfl rfl wM_L_110 wI_X8_buried wS_X8_buried wN_X8 wC_X8_buried (by decide +kernel) rfl (by decide) (by decide) (Nat.le_of_ble_eq_true rfl) dL_law_789 ?_
          refine tr_icmp_eq hO 792 948 (by decide) dL_law_792 (fun hc => ?_) (fun hc => ?_)
          · have h := of_t hc h
            exact J3_T _ h
          · have h := of_f hc h
            refine tr_iconst hO 795 (v := 0) (by decide) dL_law_795 ?_
            cases h
            exact absurd hr1 (by decide)
        have h := of_f hs22 h
        by_cases hs23 : v6 = 23
        · have h := of_t hs23 h
          refine tr_tabIn hO 32 797 (by rw [hs23]; decide) (by rw [hs23]; decide) (by rw [hs23]; rfl) (by decide) dL_law_32 ?_
          refine tr_aload_n hO 797 1 rfl dL_law_797 ?_
          refine tr_aload_n hO 798 0 rfl dL_law_798 ?_
          refine tr_iload_n hO 799 3 rfl dL_law_799 ?_
          refine tr_iconst hO 800 (v := 1) (by decide) dL_law_800 ?_
          refine tr_iadd hO 801 dL_law_801 ?_
          obtain ⟨hg, h⟩ := of_gd h
          refine tr_sld hO hSc 802 hg dL_law_802 ?_
          refine tr_i2l hO 803 dL_law_803 ?_
          refine tr_bipush hO 804 (v := 32) (by decide) dL_law_804 ?_
          refine tr_lshl hO 806 dL_law_806 ?_
          refine tr_aload_n hO 807 0 rfl dL_law_807 ?_
          refine tr_iload_n hO 808 3 rfl dL_law_808 ?_
          refine tr_iconst hO 809 (v := 2) (by decide) dL_law_809 ?_
          refine tr_iadd hO 810 dL_law_810 ?_
          obtain ⟨hg, h⟩ := of_gd h
          refine tr_sld hO hSc 811 hg dL_law_811 ?_
          refine tr_i2l hO 812 dL_law_812 ?_
          refine tr_ldc2 hO 813 (v := 4294967295) wK_L_48 dL_law_813 ?_
          refine tr_land hO 816 dL_law_816 ?_
          refine tr_lor hO 817 dL_law_817 ?_
          obtain ⟨v99, μ100, hcall, h⟩ := of_bd h
          refine tr_callI hO 818 (na := 1) (As := [.long ((shlL ((xs (v1 + 1).toNatClampNeg).toInt64) 32) ||| (((xs (v1 + 2).toNatClampNeg).toInt64) &&& 4294967295))]) (st := []) (c_X7_put hX  hcall) rfl (x_v0 (by decide)) rfl rfl wM_L_111 wI_X7_put wS_X7_put wN_X7 wC_X7_put (by decide +kernel) rfl (by decide) (by decide) (Nat.le_of_ble_eq_true rfl) dL_law_818 ?_
          refine tr_aload_n hO 821 2 rfl dL_law_821 ?_
          refine tr_aload_n hO 822 0 rfl dL_law_822 ?_
          refine tr_iload_n hO 823 3 rfl dL_law_823 ?_
          refine tr_iconst hO 824 (v := 1) (by decide) dL_law_824 ?_
          refine tr_iadd hO 825 dL_law_825 ?_
          obtain ⟨hg, h⟩ := of_gd h
          refine tr_sld hO hSc 826 hg dL_law_826 ?_
          refine tr_i2l hO 827 dL_law_827 ?_
          refine tr_bipush hO 828 (v := 32) (by decide) dL_law_828 ?_
          refine tr_lshl hO 830 dL_law_830 ?_
          refine tr_aload_n hO 831 0 rfl dL_law_831 ?_
          refine tr_iload_n hO 832 3 rfl dL_law_832 ?_
          refine tr_iconst hO 833 (v := 2) (by decide) dL_law_833 ?_
          refine tr_iadd hO 834 dL_law_834 ?_
          obtain ⟨hg, h⟩ := of_gd h
          refine tr_sld hO hSc 835 hg dL_law_835 ?_
          refine tr_i2l hO 836 dL_law_836 ?_
          refine tr_ldc2 hO 837 (v := 4294967295) wK_L_48 dL_law_837 ?_
          refine tr_land hO 840 dL_law_840 ?_
          refine tr_lor hO 841 dL_law_841 ?_
          obtain ⟨v101, μ102, hcall, h⟩ := of_bd h
          refine tr_callI hO 842 (na := 1) (As := [.long ((shlL ((xs (v1 + 1).toNatClampNeg).toInt64) 32) ||| (((xs (v1 + 2).toNatClampNeg).toInt64) &&& 4294967295))]) (st := [.int v99]) (c_X8_put hX  hcall) rfl (x_v0 (by decide)) rfl rfl wM_L_115 wI_X8_put wS_X8_put wN_X8 wC_X8_put (by decide +kernel) rfl (by decide) (by decide) (Nat.le_of_ble_eq_true rfl) dL_law_842 ?_
          refine tr_icmp_eq hO 845 948 (by decide) dL_law_845 (fun hc => ?_) (fun hc => ?_)
          · have h := of_t hc h
            exact J3_T _ h
          · have h := of_f hc h
            refine tr_iconst hO 848 (v := 0) (by decide) dL_law_848 ?_
            cases h
            exact absurd hr1 (by decide)
        have h := of_f hs23 h
        by_cases hs24 : v6 = 24
        · have h := of_t hs24 h
          refine tr_tabIn hO 32 850 (by rw [hs24]; decide) (by rw [hs24]; decide) (by rw [hs24]; rfl) (by decide) dL_law_32 ?_
          refine tr_aload_n hO 850 1 rfl dL_law_850 ?_
          obtain ⟨v103, μ104, hcall, h⟩ := of_bd h
          refine tr_callI hO 851 (na := 0) (As := []) (st := []) (c_X7_wipe hX  hcall) rfl (x_v0 (by decide)) rfl rfl wM_L_116 wI_X7_wipe wS_X7_wipe wN_X7 wC_X7_wipe (by decide +kernel) rfl (by decide) (by decide) (Nat.le_of_ble_eq_true rfl) dL_law_851 ?_
          refine tr_aload_n hO 854 2 rfl dL_law_854 ?_
          obtain ⟨v105, μ106, hcall, h⟩ := of_bd h
          refine tr_callI hO 855 (na := 0) (As := []) (st := [.int v103]) (c_X8_wipe hX  hcall) rfl (x_v0 (by decide)) rfl rfl wM_L_119 wI_X8_wipe wS_X8_wipe wN_X8 wC_X8_wipe (by decide +kernel) rfl (by decide) (by decide) (Nat.le_of_ble_eq_true rfl) dL_law_855 ?_
          refine tr_icmp_eq hO 858 948 (by decide) dL_law_858 (fun hc => ?_) (fun hc => ?_)
          · have h := of_t hc h
            exact J3_T _ h
          · have h := of_f hc h
            refine tr_iconst hO 861 (v := 0) (by decide) dL_law_861 ?_
            cases h
            exact absurd hr1 (by decide)
        have h := of_f hs24 h
        by_cases hs25 : v6 = 25
        · have h := of_t hs25 h
          refine tr_tabIn hO 32 863 (by rw [hs25]; decide) (by rw [hs25]; decide) (by rw [hs25]; rfl) (by decide) dL_law_32 ?_
          refine tr_aload_n hO 863 1 rfl dL_law_863 ?_
          obtain ⟨v107, μ108, hcall, h⟩ := of_bd h
          refine tr_callI hO 864 (na := 0) (As := []) (st := []) (c_X7_fault hX  hcall) rfl (x_v0 (by decide)) rfl rfl wM_L_120 wI_X7_fault wS_X7_fault wN_X7 wC_X7_fault (by decide +kernel) rfl (by decide) (by decide) (Nat.le_of_ble_eq_true rfl) dL_law_864 ?_
          refine tr_aload_n hO 867 2 rfl dL_law_867 ?_
          obtain ⟨v109, μ110, hcall, h⟩ := of_bd h
          refine tr_callI hO 868 (na := 0) (As := []) (st := [.int v107]) (c_X8_fault hX  hcall) rfl (x_v0 (by decide)) rfl rfl wM_L_123 wI_X8_fault wS_X8_fault wN_X8 wC_X8_fault (by decide +kernel) rfl (by decide) (by decide) (Nat.le_of_ble_eq_true rfl) dL_law_868 ?_
          refine tr_icmp_eq hO 871 948 (by decide) dL_law_871 (fun hc => ?_) (fun hc => ?_)
          · have h := of_t hc h
            exact J3_T _ h
          · have h := of_f hc h
            refine tr_iconst hO 874 (v := 0) (by decide) dL_law_874 ?_
            cases h
            exact absurd hr1 (by decide)
        have h := of_f hs25 h
        by_cases hs26 : v6 = 26
        · have h := of_t hs26 h
          refine tr_tabIn hO 32 876 (by rw [hs26]; decide) (by rw [hs26]; decide) (by rw [hs26]; rfl) (by decide) dL_law_32 ?_
          refine tr_aload_n hO 876 1 rfl dL_law_876 ?_
          obtain ⟨v111, μ112, hcall, h⟩ := of_bd h
          refine tr_callI hO 877 (na := 0) (As := []) (st := []) (c_X7_carryOut hX  hcall) rfl (x_v0 (by decide)) rfl rfl wM_L_124 wI_X7_carryOut wS_X7_carryOut wN_X7 wC_X7_carryOut (by decide +kernel) rfl (by decide) (by decide) (Nat.le_of_ble_eq_true rfl) dL_law_877 ?_
          refine tr_aload_n hO 880 2 rfl dL_law_880 ?_
          obtain ⟨v113, μ114, hcall, h⟩ := of_bd h
          refine tr_callI hO 881 (na := 0) (As := []) (st := [.int v111]) (c_X8_carryOut hX  hcall) rfl (x_v0 (by decide)) rfl rfl wM_L_127 wI_X8_carryOut wS_X8_carryOut wN_X8 wC_X8_carryOut (by decide +kernel) rfl (by decide) (by decide) (Nat.le_of_ble_eq_true rfl) dL_law_881 ?_
          refine tr_icmp_eq hO 884 948 (by decide) dL_law_884 (fun hc => ?_) (fun hc => ?_)
          · have h := of_t hc h
            exact J3_T _ h
          · have h := of_f hc h
            refine tr_iconst hO 887 (v := 0) (by decide) dL_law_887 ?_
            cases h
            exact absurd hr1 (by decide)
        have h := of_f hs26 h
        by_cases hs27 : v6 = 27
        · have h := of_t hs27 h
          refine tr_tabIn hO 32 889 (by rw [hs27]; decide) (by rw [hs27]; decide) (by rw [hs27]; rfl) (by decide) dL_law_32 ?_
          refine tr_aload_n hO 889 1 rfl dL_law_889 ?_
          obtain ⟨v115, μ116, hcall, h⟩ := of_bd h
          refine tr_callI hO 890 (na := 0) (As := []) (st := []) (c_X7_undo hX  hcall) rfl (x_v0 (by decide)) rfl rfl wM_L_128 wI_X7_undo wS_X7_undo wN_X7 wC_X7_undo (by decide +kernel) rfl (by decide) (by decide) (Nat.le_of_ble_eq_true rfl) dL_law_890 ?_
          refine tr_aload_n hO 893 2 rfl dL_law_893 ?_
          obtain ⟨v117, μ118, hcall, h⟩ := of_bd h
          refine tr_callI hO 894 (na := 0) (As := []) (st := [.int v115]) (c_X8_undo hX  hcall) rfl (x_v0 (by decide)) rfl rfl wM_L_131 wI_X8_undo wS_X8_undo wN_X8 wC_X8_undo (by decide +kernel) rfl (by decide) (by decide) (Nat.le_of_ble_eq_true rfl) dL_law_894 ?_
          refine tr_icmp_eq hO 897 948 (by decide) dL_law_897 (fun hc => ?_) (fun hc => ?_)
          · have h := of_t hc h
            exact J3_T _ h
          · have h := of_f hc h
            refine tr_iconst hO 900 (v := 0) (by decide) dL_law_900 ?_
            cases h
            exact absurd hr1 (by decide)
        have h := of_f hs27 h
        by_cases hs28 : v6 = 28
        · have h := of_t hs28 h
          refine tr_tabIn hO 32 902 (by rw [hs28]; decide) (by rw [hs28]; decide) (by rw [hs28]; rfl) (by decide) dL_law_32 ?_
          refine tr_aload_n hO 902 1 rfl dL_law_902 ?_
          refine tr_aload_n hO 903 0 rfl dL_law_903 ?_
          refine tr_iload_n hO 904 3 rfl dL_law_904 ?_
          refine tr_iconst hO 905 (v := 1) (by decide) dL_law_905 ?_
          refine tr_iadd hO 906 dL_law_906 ?_
          obtain ⟨hg, h⟩ := of_gd h
          refine tr_sld hO hSc 907 hg dL_law_907 ?_
          obtain ⟨v119, μ120, hcall, h⟩ := of_bd h
          refine tr_callI hO 908 (na := 1) (As := [.int (xs (v1 + 1).toNatClampNeg)]) (st := []) (c_X7_save hX  hcall) rfl (x_v0 (by decide)) rfl rfl wM_L_132 wI_X7_save wS_X7_save wN_X7 wC_X7_save (by decide +kernel) rfl (by decide) (by decide) (Nat.le_of_ble_eq_true rfl) dL_law_908 ?_
          refine tr_aload_n hO 911 2 rfl dL_law_911 ?_
          refine tr_aload_n hO 912 0 rfl dL_law_912 ?_
          refine tr_iload_n hO 913 3 rfl dL_law_913 ?_
          refine tr_iconst hO 914 (v := 1) (by decide) dL_law_914 ?_
          refine tr_iadd hO 915 dL_law_915 ?_
          obtain ⟨hg, h⟩ := of_gd h
          refine tr_sld hO hSc 916 hg dL_law_916 ?_
          obtain ⟨v121, μ122, hcall, h⟩ := of_bd h
          refine tr_callI hO 917 (na := 1) (As := [.int (xs (v1 + 1).toNatClampNeg)]) (st := [.int v119]) (c_X8_save hX  hcall) rfl (x_v0 (by decide)) rfl rfl wM_L_135 wI_X8_save wS_X8_save wN_X8 wC_X8_save (by decide +kernel) rfl (by decide) (by decide) (Nat.le_of_ble_eq_true rfl) dL_law_917 ?_
          refine tr_icmp_eq hO 920 948 (by decide) dL_law_920 (fun hc => ?_) (fun hc => ?_)
          · have h := of_t hc h
            exact J3_T _ h
          · have h := of_f hc h
            refine tr_iconst hO 923 (v := 0) (by decide) dL_law_923 ?_
            cases h
            exact absurd hr1 (by decide)
        have h := of_f hs28 h
        by_cases hs29 : v6 = 29
        · have h := of_t hs29 h
          refine tr_tabIn hO 32 925 (by rw [hs29]; decide) (by rw [hs29]; decide) (by rw [hs29]; rfl) (by decide) dL_law_32 ?_
          refine tr_aload_n hO 925 1 rfl dL_law_925 ?_
          refine tr_aload_n hO 926 0 rfl dL_law_926 ?_
          refine tr_iload_n hO 927 3 rfl dL_law_927 ?_
          refine tr_iconst hO 928 (v := 1) (by decide) dL_law_928 ?_
          refine tr_iadd hO 929 dL_law_929 ?_
          obtain ⟨hg, h⟩ := of_gd h
          refine tr_sld hO hSc 930 hg dL_law_930 ?_
          obtain ⟨v123, μ124, hcall, h⟩ := of_bd h
          refine tr_callI hO 931 (na := 1) (As := [.int (xs (v1 + 1).toNatClampNeg)]) (st := []) (c_X7_restore hX  hcall) rfl (x_v0 (by decide)) rfl rfl wM_L_136 wI_X7_restore wS_X7_restore wN_X7 wC_X7_restore (by decide +kernel) rfl (by decide) (by decide) (Nat.le_of_ble_eq_true rfl) dL_law_931 ?_
          refine tr_aload_n hO 934 2 rfl dL_law_934 ?_
          refine tr_aload_n hO 935 0 rfl dL_law_935 ?_
          refine tr_iload_n hO 936 3 rfl dL_law_936 ?_
          refine tr_iconst hO 937 (v := 1) (by decide) dL_law_937 ?_
          refine tr_iadd hO 938 dL_law_938 ?_
          obtain ⟨hg, h⟩ := of_gd h
          refine tr_sld hO hSc 939 hg dL_law_939 ?_
          obtain ⟨v125, μ126, hcall, h⟩ := of_bd h
          refine tr_callI hO 940 (na := 1) (As := [.int (xs (v1 + 1).toNatClampNeg)]) (st := [.int v123]) (c_X8_restore hX  hcall) rfl (x_v0 (by decide)) rfl rfl wM_L_139 wI_X8_restore wS_X8_restore wN_X8 wC_X8_restore (by decide +kernel) rfl (by decide) (by decide) (Nat.le_of_ble_eq_true rfl) dL_law_940 ?_
          refine tr_icmp_eq hO 943 948 (by decide) dL_law_943 (fun hc => ?_) (fun hc => ?_)
          · have h := of_t hc h
            exact J3_T _ h
          · have h := of_f hc h
            refine tr_iconst hO 946 (v := 0) (by decide) dL_law_946 ?_
            cases h
            exact absurd hr1 (by decide)
        have h := of_f hs29 h
        have hn_hs0 : ¬ v6.toInt = 0 := i_ne (by decide) hs0
        have hn_hs1 : ¬ v6.toInt = 1 := i_ne (by decide) hs1
        have hn_hs2 : ¬ v6.toInt = 2 := i_ne (by decide) hs2
        have hn_hs3 : ¬ v6.toInt = 3 := i_ne (by decide) hs3
        have hn_hs4 : ¬ v6.toInt = 4 := i_ne (by decide) hs4
        have hn_hs5 : ¬ v6.toInt = 5 := i_ne (by decide) hs5
        have hn_hs6 : ¬ v6.toInt = 6 := i_ne (by decide) hs6
        have hn_hs7 : ¬ v6.toInt = 7 := i_ne (by decide) hs7
        have hn_hs8 : ¬ v6.toInt = 8 := i_ne (by decide) hs8
        have hn_hs9 : ¬ v6.toInt = 9 := i_ne (by decide) hs9
        have hn_hs10 : ¬ v6.toInt = 10 := i_ne (by decide) hs10
        have hn_hs11 : ¬ v6.toInt = 11 := i_ne (by decide) hs11
        have hn_hs12 : ¬ v6.toInt = 12 := i_ne (by decide) hs12
        have hn_hs13 : ¬ v6.toInt = 13 := i_ne (by decide) hs13
        have hn_hs14 : ¬ v6.toInt = 14 := i_ne (by decide) hs14
        have hn_hs15 : ¬ v6.toInt = 15 := i_ne (by decide) hs15
        have hn_hs16 : ¬ v6.toInt = 16 := i_ne (by decide) hs16
        have hn_hs17 : ¬ v6.toInt = 17 := i_ne (by decide) hs17
        have hn_hs18 : ¬ v6.toInt = 18 := i_ne (by decide) hs18
        have hn_hs19 : ¬ v6.toInt = 19 := i_ne (by decide) hs19
        have hn_hs20 : ¬ v6.toInt = 20 := i_ne (by decide) hs20
        have hn_hs21 : ¬ v6.toInt = 21 := i_ne (by decide) hs21
        have hn_hs22 : ¬ v6.toInt = 22 := i_ne (by decide) hs22
        have hn_hs23 : ¬ v6.toInt = 23 := i_ne (by decide) hs23
        have hn_hs24 : ¬ v6.toInt = 24 := i_ne (by decide) hs24
        have hn_hs25 : ¬ v6.toInt = 25 := i_ne (by decide) hs25
        have hn_hs26 : ¬ v6.toInt = 26 := i_ne (by decide) hs26
        have hn_hs27 : ¬ v6.toInt = 27 := i_ne (by decide) hs27
        have hn_hs28 : ¬ v6.toInt = 28 := i_ne (by decide) hs28
        have hn_hs29 : ¬ v6.toInt = 29 := i_ne (by decide) hs29
        have hsw : v6.toInt < 0 ∨ (29 : Int) < v6.toInt := by omega
        refine tr_tabD hO 32 948 (by
          rcases hsw with hsw | hsw
          · exact Or.inl hsw
          · exact Or.inr (Or.inl hsw)
          ) (by decide) dL_law_32 ?_
        exact J3_T _ h
  refine tr_sub [3, 2, 1, 0] rfl ?_
  exact L18_T _ _ _ h
