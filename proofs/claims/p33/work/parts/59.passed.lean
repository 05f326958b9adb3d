-- the first free minute as numbers
def obN (m t : Nat) (b : Nat × Nat) : Nat := if t + m ≤ b.1 then t else if b.2 ≤ t then t else b.2
theorem ob_N {m t B : Nat} {b : Nat × Nat} (hm : m ≤ 1000) (ht : t ≤ B) (h1 : b.1 ≤ B) (h2 : b.2 ≤ B) (hB : B < 2000000000) : ob (nI m) (nI t) (nI b.1, nI b.2) = nI (obN m t b) := by
  unfold ob obN
  dsimp only
  rw [nI_add]
  by_cases c : t + m ≤ b.1
  · rw [if_pos (nI_le c (by omega)), if_pos c]
  · rw [if_neg (nI_ge (by omega) (by omega)), if_neg c]
    by_cases c2 : b.2 ≤ t
    · rw [if_pos (nI_le c2 (by omega)), if_pos c2]
    · rw [if_neg (nI_ge (by omega) (by omega)), if_neg c2]
theorem obN_b {m t B : Nat} {b : Nat × Nat} (ht : t ≤ B) (h2 : b.2 ≤ B) : obN m t b ≤ B := by
  unfold obN
  split
  · exact ht
  · split
    · exact ht
    · exact h2
theorem obN_mono {m t t' : Nat} {b : Nat × Nat} (h : t ≤ t') : obN m t b ≤ obN m t' b := by
  unfold obN
  split
  · split
    · exact h
    · split <;> omega
  · split
    · split
      · exact h
      · split <;> omega
    · split
      · omega
      · split <;> omega
def nB (bn : List (Nat × Nat)) : List (Int32 × Int32) := bn.map fun p => (nI p.1, nI p.2)
def paN (m : Nat) (bn : List (Nat × Nat)) (t : Nat) : Nat := bn.foldl (obN m) t
theorem pas_N {m B : Nat} (hm : m ≤ 1000) (hB : B < 2000000000) : ∀ (bn : List (Nat × Nat)) (t : Nat), (∀ p ∈ bn, p.1 ≤ B ∧ p.2 ≤ B) → t ≤ B → pas (nI m) (nI t) (nB bn) = nI (paN m bn t) ∧ paN m bn t ≤ B
  | [], t, _, ht => ⟨rfl, ht⟩
  | b :: bn, t, h, ht => by
    obtain ⟨h1, h2⟩ := h b List.mem_cons_self
    have e : pas (nI m) (nI t) (nB (b :: bn)) = pas (nI m) (ob (nI m) (nI t) (nI b.1, nI b.2)) (nB bn) := rfl
    rw [e, ob_N hm ht h1 h2 hB]
    exact pas_N hm hB bn (obN m t b) (fun p hp => h p (List.mem_cons_of_mem _ hp)) (obN_b ht h2)
theorem paN_mono {m : Nat} : ∀ (bn : List (Nat × Nat)) {t t' : Nat}, t ≤ t' → paN m bn t ≤ paN m bn t'
  | [], _, _, h => h
  | b :: bn, t, t', h => by
    show paN m bn (obN m t b) ≤ paN m bn (obN m t' b)
    exact paN_mono bn (obN_mono h)
theorem pasN_mono {m B : Nat} (hm : m ≤ 1000) (hB : B < 2000000000) {bn : List (Nat × Nat)} (h : ∀ p ∈ bn, p.1 ≤ B ∧ p.2 ≤ B) : ∀ (n t t' : Nat), t ≤ t' → t' ≤ B → ∃ F F', pasN (nI m) (nB bn) n (nI t) = nI F ∧ pasN (nI m) (nB bn) n (nI t') = nI F' ∧ F ≤ F' ∧ F' ≤ B
  | 0, t, t', h1, h2 => ⟨t, t', rfl, rfl, h1, h2⟩
  | n + 1, t, t', h1, h2 => by
    obtain ⟨a1, a2⟩ := pas_N hm hB bn t h (by omega)
    obtain ⟨b1, b2⟩ := pas_N hm hB bn t' h h2
    obtain ⟨F, F', c1, c2, c3, c4⟩ := pasN_mono hm hB h n _ _ (paN_mono (m := m) bn h1) b2
    refine ⟨F, F', ?_, ?_, c3, c4⟩
    · show pasN (nI m) (nB bn) n (pas (nI m) (nI t) (nB bn)) = _
      rw [a1, c1]
    · show pasN (nI m) (nB bn) n (pas (nI m) (nI t') (nB bn)) = _
      rw [b1, c2]
theorem nB_of {B : Nat} : ∀ {bl : List (Int32 × Int32)}, (∀ b ∈ bl, ∃ x e : Nat, x ≤ B ∧ e ≤ B ∧ b = (nI x, nI e)) → ∃ bn, bl = nB bn ∧ ∀ p ∈ bn, p.1 ≤ B ∧ p.2 ≤ B
  | [], _ => ⟨[], rfl, fun p hp => (List.not_mem_nil hp).elim⟩
  | b :: bl, h => by
    obtain ⟨bn, h1, h2⟩ := nB_of (bl := bl) (fun b' hb' => h b' (List.mem_cons_of_mem _ hb'))
    obtain ⟨x, e, h3, h4, h5⟩ := h b List.mem_cons_self
    refine ⟨(x, e) :: bn, by rw [h1, h5]; rfl, fun p hp => ?_⟩
    rcases List.mem_cons.mp hp with rfl | hp
    · exact ⟨h3, h4⟩
    · exact h2 p hp
theorem pasN_suc {m : Int32} {bl : List (Int32 × Int32)} : ∀ (n : Nat) (t : Int32), pasN m bl (n + 1) t = pas m (pasN m bl n t) bl
  | 0, _ => rfl
  | n + 1, t => by
    show pasN m bl (n + 1) (pas m t bl) = pas m (pasN m bl n (pas m t bl)) bl
    exact pasN_suc n _
theorem free_fix {m t : Int32} {bl : List (Int32 × Int32)} : free m bl (free m bl t) = free m bl t := by
  have h1 : aliv bl t ≤ bl.length := List.countP_le_length
  have h2 := pasN_stab (m := m) bl.length t h1 (bl.length + 1) (by omega)
  rw [pasN_suc] at h2
  unfold free
  exact pasN_fix h2 _
/-- later asked, later free; and the same where it is not past -/
theorem free_two {B T T' : Nat} {m : Nat} {bl : List (Int32 × Int32)} (hm : m ≤ 1000) (hB : B < 2000000000) (h : ∀ b ∈ bl, ∃ x e : Nat, x ≤ B ∧ e ≤ B ∧ b = (nI x, nI e)) (h1 : T ≤ T') (h2 : T' ≤ B) : ∃ F F', free (nI m) bl (nI T) = nI F ∧ free (nI m) bl (nI T') = nI F' ∧ F ≤ F' ∧ F' ≤ B ∧ T' ≤ F' ∧ (T' ≤ F → F' = F) := by
  obtain ⟨bn, rfl, hb⟩ := nB_of h
  obtain ⟨F, F', a1, a2, a3, a4⟩ := pasN_mono hm hB hb (nB bn).length T T' h1 h2
  obtain ⟨T2, t1, t2, t3⟩ := free_bd (m := nI m) (B := B) (by omega) (bl := nB bn) (fun b hb' => by
    obtain ⟨x, e, x1, x2, x3⟩ := h b hb'
    exact ⟨e, x2, by rw [x3]⟩) h2
  have e2 : F' = T2 := nI_inj (by omega) (by omega) (a2.symm.trans t3)
  refine ⟨F, F', a1, a2, a3, a4, by omega, fun hle => ?_⟩
  obtain ⟨G, G', c1, c2, c3, c4⟩ := pasN_mono hm hB hb (nB bn).length T' F hle (by omega)
  have e3 : G = F' := nI_inj (by omega) (by omega) (c1.symm.trans a2)
  have hF : free (nI m) (nB bn) (nI T) = nI F := a1
  have e4 : free (nI m) (nB bn) (nI F) = nI F := by
    rw [← hF]
    exact free_fix
  have e5 : G' = F := nI_inj (by omega) (by omega) (c2.symm.trans e4)
  omega
theorem l_isPassed {μ : mT} {y : yT} {nt nw tm B a : Nat} (h : PR μ y) (hi : iY y nt nw tm B) (he : pE y nw tm) (hz : pZ y nw) (hB : B < 900000000) (ha : 1 ≤ a ∧ a ≤ 60) : Gd (f_L_isPassed (nI a) μ) (LI nt (B + 5000)) := by
  have htm := hi.tmB
  have e1 : (1 : Int32) = nI 1 := rfl
  have e9 : (999 : Int32) = nI 999 := rfl
  have e5 : (5 : Int32) = nI 5 := rfl
  have er : sPass y (nI a) = (nI tm + nI a, ctm y (nI (tm + a))) := by
    unfold sPass
    rw [if_neg (by rw [e1, e9, nI_ltI (by omega) (by omega), nI_ltI (by omega) (by omega)]; omega), hi.htm, nI_add]
  obtain ⟨hc, hp, hh⟩ := h
  have h : PR μ y := ⟨hc, hp, hh⟩
  obtain ⟨μ', k1, k2, k3⟩ := PRc (kt_pass (a := nI a) hh hc hi)
  have hk := kp_pass (a := nI a) (⟨nt, nw, tm, hi⟩ : kY y B) (by omega)
  rw [er] at k1 k2 hk
  dsimp only at k1 k2 hk
  have hs : ∀ a' k, ¬ (a' = 0 ∧ k = 6) → (ctm y (nI (tm + a))).1 a' k = y.1 a' k := fun a' k q => sU_n q
  have hi' : iY (ctm y (nI (tm + a))) nt nw (tm + a) (B + 5000) := kY_id hk (by omega) ((hs 0 7 (by omega)).trans hi.hnt) hi.nt8 ((hs 0 8 (by omega)).trans hi.hnw) hi.nw30 (sU_s (s := y.1) (a := 0) (k := 6) (x := nI (tm + a))) (by omega)
  have he' : pE (ctm y (nI (tm + a))) nw (tm + a) := pE_of he (fun k hk => hs 0 k (by omega)) (funext fun k => hs 1 k (by omega)) (funext fun k => hs 4 k (by omega)) (funext fun k => hs 5 k (by omega)) rfl (fun r w hr hw => ⟨r, hr, hw⟩) (fun t ht => he.2.2.1 t ht) (by omega)
  have hz' : pZ (ctm y (nI (tm + a))) nw := fun w h1 h2 => (hs 6 w (by omega)).trans (hz w h1 h2)
  obtain ⟨F, F', f1, f2, f3, f4, f5, f6⟩ := free_two (m := 5) (B := B + 60) (T := tm) (T' := tm + a) (bl := y.2.2.1) (by omega) (by omega) (fun b hb => by
    obtain ⟨x, e, x1, x2, x3⟩ := hi.2.2.2.2.2.2.2.2.1.2 b hb
    exact ⟨x, e, by omega, by omega, x3⟩) (by omega) (by omega)
  have g1 : f_X7_freeFrom 5 μ = some (nI F, μ) := by rw [e5, ff h hi (by omega) (by omega), hi.htm, f1]
  have g2 : f_X7_freeFrom 5 μ' = some (nI F', μ') := by
    rw [e5, ff k2 hi' (by omega) (by omega), hi'.htm]
    show some (free (nI 5) (y.2.2.1.filter (kp (nI (tm + a)))) (nI (tm + a)), μ') = _
    rw [free_filter (t0 := nI (tm + a)) (fun b hb hpb => by
      unfold kp at hpb
      simp at hpb
      exact hpb) (Int32.le_refl _), f2]
  unfold f_L_isPassed
  rw [c0 h hi, q_bm, g1, q_bm, k1, hi.htm]
  refine gd_lt (fun J7 hJ7 => ?_)
  refine gd_lt (fun J14 hJ14 => ?_)
  rw [if_pos rfl, g2, q_bm, if_neg (fun z => by rw [nI_ltI (by omega) (by omega)] at z; omega), g2, q_bm, c0 k2 hi', q_bm, hi'.htm, if_neg (fun z => by rw [nI_ltI (by omega) (by omega)] at z; omega), hJ7]
  dsimp only
  rw [if_neg (by decide), c0 k2 hi', q_bm, hi'.htm]
  by_cases c : F < tm + a
  · rw [if_pos ((nI_ltI (by omega) (by omega)).mpr c)]
    exact gd_some ⟨_, nw, tm + a, k2, hi', he', hz'⟩
  · rw [if_neg (fun z => by rw [nI_ltI (by omega) (by omega)] at z; omega), g2, q_bm, if_pos (by rw [f6 (by omega)])]
    exact gd_some ⟨_, nw, tm + a, k2, hi', he', hz'⟩
