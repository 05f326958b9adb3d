def Kc : Nat → Nat → Prop := fun κ j => (κ < 18 ∧ (j = 0 ∨ (2 ≤ j ∧ j ≤ 8))) ∨ ((κ = 19 ∨ κ = 22 ∨ κ = 26) ∧ j = 0)
def CR (μ : mT) (y : yT) (hp : hT) (r : Int32 × yT) (o : Option (Int32 × mT)) : Prop :=
  ∃ μ', o = some (r.1, μ') ∧ cY μ' 0 r.2 ∧ hC μ' (if r.1 < 0 then hp else pH hp y) ∧ only μ μ' Kc
theorem k_do {μ : mT} {hp : hT} {y : yT} {r : Int32 × yT} {fop : mT → Option (Int32 × mT)} (h : hC μ hp) (hy : cY μ 0 y) (hg : gY y) (hop : ∀ μ, cY μ 0 y → ∃ μ', fop μ = some (r.1, μ') ∧ cY μ' 0 r.2 ∧ only μ μ' (fun κ j => (κ < 18 ∨ κ = 26) ∧ j = 0)) :
    CR μ y hp r (bd (f_X1_note 0 μ) (fun _ μ2 => bd (fop μ2) (fun v3 μ4 => bd (f_X1_kept v3 μ4) (fun v5 μ6 => some (v5, μ6))))) := by
  obtain ⟨μ1, a1, a2, a3, a4⟩ := k_hnote h hy hg
  obtain ⟨μ2, b1, b2, b3⟩ := hop μ1 a3
  obtain ⟨μ3, c1, c2, c3⟩ := k_kept (a := r.1) (a2.o b3 (fun κ j z => by omega))
  refine ⟨μ3, ?_, b2.o (fun κ hκ => c3 κ 0 (by omega)), c2, (a4.w (by unfold Hy Kc; omega)).tr ((b3.w (by unfold Kc; omega)).tr (c3.w (by unfold Kc; omega)))⟩
  rw [a1, q_bd, b1, q_bd, c1, q_bd]
theorem bd_assoc {α : Type} {o : Option (Int32 × mT)} {f : Int32 → mT → Option (Int32 × mT)} {g : Int32 → mT → Option α} : bd (bd o f) g = bd o (fun r μ => bd (f r μ) g) := by
  cases o with
  | none => rfl
  | some p => rfl
section TOP
variable {μ : mT} {hp : hT} {y : yT} {nt nw tm B : Nat} {a b : Int32}
theorem wYd {μ μ' : mT} (h : only μ μ' (Yd 0)) : only μ μ' (fun κ j => (κ < 18 ∨ κ = 26) ∧ j = 0) := h.w (by unfold Yd; omega)
theorem kt_set (h : hC μ hp) (hy : cY μ 0 y) (hi : iY y nt nw tm B) : CR μ y hp (sSet y a b) (f_X7_set a b μ) :=
  k_do h hy hi.g (fop := fun μ => f_X6_changeSetting 0 a b μ) (fun μ hy => by
    obtain ⟨μ', q1, q2, q3⟩ := k_changeSetting (a := a) (b := b) hy hi
    exact ⟨μ', q1, q2, wYd q3⟩)
theorem kt_track (h : hC μ hp) (hy : cY μ 0 y) (hi : iY y nt nw tm B) : CR μ y hp (sTrack y a) (f_X7_track a μ) :=
  k_do h hy hi.g (fop := fun μ => f_X6_addTrack 0 a μ) (fun μ hy => by
    obtain ⟨μ', q1, q2, q3⟩ := k_addTrack (a := a) hy hi
    exact ⟨μ', q1, q2, wYd q3⟩)
theorem kt_wagon (h : hC μ hp) (hy : cY μ 0 y) (hi : iY y nt nw tm B) : CR μ y hp (sWagon y a b) (f_X7_wagon a b μ) :=
  k_do h hy hi.g (fop := fun μ => f_X6_addWagon 0 a b μ) (fun μ hy => by
    obtain ⟨μ', q1, q2, q3⟩ := k_addWagon (a := a) (b := b) hy hi
    exact ⟨μ', q1, q2, wYd q3⟩)
theorem kt_block (h : hC μ hp) (hy : cY μ 0 y) (hi : iY y nt nw tm B) : CR μ y hp (sBlock y a b) (f_X7_block a b μ) :=
  k_do h hy hi.g (fop := fun μ => f_X6_addBlock 0 a b μ) (fun μ hy => by
    obtain ⟨μ', q1, q2, q3⟩ := k_addBlock (a := a) (b := b) hy hi
    exact ⟨μ', q1, q2, wYd q3⟩)
theorem kt_pull (h : hC μ hp) (hy : cY μ 0 y) (hi : iY y nt nw tm B) : CR μ y hp (sPull y a b) (f_X7_pull a b μ) :=
  k_do h hy hi.g (fop := fun μ => f_X6_takeOut 0 a b μ) (fun μ hy => by
    obtain ⟨μ', q1, q2, q3⟩ := k_takeOut (a := a) (b := b) hy hi
    exact ⟨μ', q1, q2, wYd q3⟩)
theorem kt_push (h : hC μ hp) (hy : cY μ 0 y) (hi : iY y nt nw tm B) : CR μ y hp (sPush y a b) (f_X7_push a b μ) :=
  k_do h hy hi.g (fop := fun μ => f_X6_bringIn 0 a b μ) (fun μ hy => by
    obtain ⟨μ', q1, q2, q3⟩ := k_bringIn (a := a) (b := b) hy hi
    exact ⟨μ', q1, q2, wYd q3⟩)
theorem kt_round (h : hC μ hp) (hy : cY μ 0 y) (hi : iY y nt nw tm B) : CR μ y hp (sRound y) (f_X7_round μ) :=
  k_do h hy hi.g (fop := fun μ => f_X6_goRound 0 μ) (fun μ hy => by
    obtain ⟨μ', q1, q2, q3⟩ := k_goRound hy hi
    exact ⟨μ', q1, q2, wYd q3⟩)
theorem kt_pass (h : hC μ hp) (hy : cY μ 0 y) (hi : iY y nt nw tm B) : CR μ y hp (sPass y a) (f_X7_pass a μ) :=
  k_do h hy hi.g (fop := fun μ => f_X6_letPass 0 a μ) (fun μ hy => by
    obtain ⟨μ', q1, q2, q3⟩ := k_letPass (a := a) hy hi
    exact ⟨μ', q1, q2, wYd q3⟩)
theorem kt_strike (h : hC μ hp) (hy : cY μ 0 y) (hi : iY y nt nw tm B) : CR μ y hp (sStrike y a) (f_X7_strike a μ) :=
  k_do h hy hi.g (fop := fun μ => f_X6_strikeOut 0 a μ) (fun μ hy => by
    obtain ⟨μ', q1, q2, q3⟩ := k_strikeOut (a := a) hy hi
    exact ⟨μ', q1, q2, wYd q3⟩)
theorem kt_leave (h : hC μ hp) (hy : cY μ 0 y) (hi : iY y nt nw tm B) : CR μ y hp (sLeave y a) (f_X7_leave a μ) :=
  k_do h hy hi.g (fop := fun μ => f_X6_letLeave 0 a μ) (fun μ hy => by
    obtain ⟨μ', q1, q2, q3⟩ := k_letLeave (a := a) hy hi
    exact ⟨μ', q1, q2, wYd q3⟩)
theorem kt_train {x : Int64} (h : hC μ hp) (hy : cY μ 0 y) (hi : iY y nt nw tm B) : CR μ y hp (sTrain y (tLs x) a) (f_X7_train x a μ) := by
  have := k_do (r := sTrain y (tLs x) a) h hy hi.g (fop := fun μ => bd (f_X7_readList x μ) (fun v3 μ4 => f_X6_addTrain 0 v3 a μ4)) (fun μ hy => by
    obtain ⟨μ1, p1, p2, p3⟩ := k_readList x μ
    have hy1 : cY μ1 0 y := hy.o (fun κ hκ => p3 κ 0 (by omega))
    obtain ⟨l8, l30⟩ := tLs_len x
    obtain ⟨μ', q1, q2, q3⟩ := k_addTrain (due := a) hy1 hi l8 l30 p2
    exact ⟨μ', by rw [p1, q_bd, q1], q2, (p3.w (by omega)).tr (wYd q3)⟩)
  unfold f_X7_train
  simp only [bd_assoc] at this
  exact this
end TOP
theorem m_undo9 {ρ ρs : Nat → Int32} {u : Nat} (hu : u < 6) : ∀ (d f i : Nat) (μ : mT), i + d = 560 → d < f → μ 27 0 4 = nI u → (∀ x, μ 28 0 x = if x < i then ρs x else ρ x) → (∀ x, μ 31 0 (u * 560 + x) = ρs x) →
    ∃ μ', f_X8_undo_L22 f (nI i) μ = some (nI u, μ') ∧ (∀ x, μ' 28 0 x = if x < 560 then ρs x else ρ x) ∧ only μ μ' Mo := by
  intro d
  induction d with
  | zero =>
    intro f i μ hi hf h4 hx hs
    obtain ⟨f, rfl⟩ : ∃ n', f = n' + 1 := ⟨f - 1, by omega⟩
    refine ⟨μ, ?_, ?_, only.rf⟩
    · rw [f_X8_undo_L22, z_l560, if_pos (nI_le (by omega) (by omega)), h4]
    · rw [show 560 = i by omega]
      exact hx
  | succ d ih =>
    intro f i μ hi hf h4 hx hs
    obtain ⟨f, rfl⟩ : ∃ n', f = n' + 1 := ⟨f - 1, by omega⟩
    have er : μ 31 0 (u * 560 + i) = ρs i := hs i
    have hstep : f_X8_undo_L22 (f + 1) (nI i) μ = f_X8_undo_L22 f (nI (i + 1)) (upM μ 28 0 i (ρs i)) := by
      rw [f_X8_undo_L22, z_l560, if_neg (nI_ge (by omega) (by omega)), h4]
      simp (disch := omega) only [z_l1, q_mul, q_add, q_gdi, q_cl, q_lt, er]
    rw [hstep]
    have ho : only μ (upM μ 28 0 i (ρs i)) Mo := only28 rfl
    obtain ⟨μ', g1, g2, g3⟩ := ih f (i + 1) (upM μ 28 0 i (ρs i)) (by omega) (by omega) (by rw [ho 27 0 (by unfold Mo; omega)]; exact h4) (fun x => by
      rw [r28, upd_e, hx]
      by_cases c : x = i
      · subst c
        rw [if_pos rfl, if_pos (by omega)]
      · rw [if_neg c]
        by_cases c2 : x < i
        · rw [if_pos c2, if_pos (by omega)]
        · rw [if_neg c2, if_neg (by omega)]) (fun x => by rw [ho 31 0 (by unfold Mo; omega)]; exact hs x)
    exact ⟨μ', g1, g2, ho.tr g3⟩
theorem m_undo {μ : mT} {hp : hT} {y : yT} {tx : Bool} (h : hM μ y hp tx) (hf : hF hp) :
    ∃ μ', f_X8_undo μ = some ((uH hp y).1, μ') ∧ hM μ' (uH hp y).2.1 (uH hp y).2.2 tx ∧ only μ μ' Mh ∧ k27 μ μ' := by
  obtain ⟨h1, h2, h3, h4, h5⟩ := h
  unfold f_X8_undo uH
  by_cases c : hp.1 = 0
  · rw [h2, c, if_pos (by rfl), if_pos rfl]
    exact ⟨μ, rfl, ⟨h1, by rw [h2, c], h3, h4, h5⟩, only.rf, fun _ _ => rfl⟩
  · rw [h2, if_neg (nI_ne0 (by omega) (by omega)), if_neg c, z_l1, q_sub (by omega), q_lt]
    have ho : only μ (upM μ 27 0 4 (nI (hp.1 - 1))) (fun κ j => κ = 27 ∧ j = 0) := q_uple rfl
    obtain ⟨μ', g1, g2, g3⟩ := m_undo9 (ρ := μ 28 0) (ρs := fun x => μ 31 0 ((hp.1 - 1) * 560 + x)) (u := hp.1 - 1) (by omega) 560 fu 0 (upM μ 27 0 4 (nI (hp.1 - 1))) (by omega) (by unfold fu; omega) (by rw [q_up, if_pos ⟨rfl, rfl, rfl⟩]) (fun x => by rw [ho 28 0 (by omega), if_neg (by omega)]) (fun x => by rw [ho 31 0 (by omega)])
    rw [← z_l0] at g1
    have e27 : ∀ k, μ' 27 0 k = if k = 4 then nI (hp.1 - 1) else μ 27 0 k := fun k => by
      rw [g3 27 0 (by unfold Mo; omega), q_up]
      by_cases q : k = 4
      · rw [if_pos q, if_pos ⟨rfl, rfl, q⟩]
      · rw [if_neg q, if_neg (fun z => q z.2.2)]
    refine ⟨μ', g1, ⟨?_, ?_, ?_, fun i hi => ?_, ?_⟩, (ho.w (by unfold Mh; omega)).tr (g3.w (by unfold Mo Mh; omega)), fun k hk => ?_⟩
    · exact (h4 (hp.1 - 1) (by omega)).cong (hf _ (by omega)) (fun x hx => by rw [g2, if_pos hx])
    · rw [e27, if_pos rfl]
    · dsimp only; omega
    · dsimp only at hi ⊢
      rw [g3 31 0 (by unfold Mo; omega), ho 31 0 (by omega)]
      exact h4 i (by omega)
    · rw [e27, if_neg (by omega)]; exact h5
    · rw [e27, if_neg hk]
