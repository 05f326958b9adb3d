theorem bt_1 : ∀ i, i < 32 → bt 1 i = decide (i = 0) := by decide +kernel
def sn (v : Int32) (w : Nat) : Prop := ((v >>> (nI w &&& 31)) &&& 1) = 1
theorem sn_bt {v : Int32} {w : Nat} (hw : w < 31) : sn v w ↔ bt v w = true := by
  unfold sn
  have hb : ∀ i, i < 32 → bt ((v >>> (nI w &&& 31)) &&& 1) i = (if i = 0 then bt v w else false) := fun i hi => by
    rw [b_and, b_sshr w (by omega) v hi, bt_1 i hi]
    by_cases c : i = 0
    · subst c
      rw [if_pos rfl, if_pos (by omega)]
      simp
    · rw [if_neg c]
      simp [c]
  constructor
  · intro h
    have := hb 0 (by omega)
    rw [h, if_pos rfl] at this
    rw [← this]
    decide
  · intro h
    refine b_ext (fun i hi => ?_)
    rw [hb i hi, bt_1 i hi, h]
    by_cases c : i = 0 <;> simp [c]
theorem sn_or {v : Int32} {w w' : Nat} (hw : w < 30) (hw' : w' < 30) : sn (v ||| (1 <<< (nI w' &&& 31))) w ↔ sn v w ∨ w = w' := by
  rw [sn_bt (by omega), sn_bt (by omega), b_or, b_shl w' (by omega) 1 (by omega), bt_1 _ (by omega)]
  rw [Bool.or_eq_true, Bool.and_eq_true, decide_eq_true_eq, decide_eq_true_eq]
  constructor
  · rintro (h | h)
    · exact Or.inl h
    · exact Or.inr (by omega)
  · rintro (h | h)
    · exact Or.inl h
    · exact Or.inr (by omega)
theorem sn_0 {w : Nat} (hw : w < 30) : ¬ sn 0 w := by
  rw [sn_bt (by omega), b_0]
  decide
theorem q_bm {α : Type} (r : Int32) (μ : mT) (k : Int32 → mT → Option α) : bm (some (r, μ)) μ k = k r μ := by
  unfold bm
  rw [q_bd, mix_s]
theorem q_bm2 {α : Type} (r : Int32) (μ μa : mT) (k : Int32 → mT → Option α) : bm (some (r, μa)) μ k = k r (mix μ μa) := by
  unfold bm
  rw [q_bd]
def PR (μ : mT) (y : yT) : Prop := cY μ 0 y ∧ ∃ hp, hC μ hp
theorem PR.hi {μ μ' : mT} {y : yT} (h : PR μ y) (e : ∀ κ, κ < 40 → μ' κ = μ κ) : PR μ' y := by
  obtain ⟨h1, hp, h2⟩ := h
  refine ⟨h1.o (fun κ hκ => by rw [e κ (by omega)]), hp, h2.o (S := fun κ _ => 40 ≤ κ) (fun κ j z => by rw [e κ (by omega)]) (fun κ j z => by omega)⟩
theorem PR.up {μ : mT} {y : yT} (h : PR μ y) {ka k : Nat} (hka : 40 ≤ ka) (x : Int32) : PR (upM μ ka 0 k x) y := h.hi (fun κ hκ => by
  funext j
  exact q_upn (by omega))
theorem PR.upr {μ : mT} {y : yT} (h : PR μ y) {ka : Nat} (hka : 40 ≤ ka) (f : Nat → Int32) : PR (upR μ ka 0 f) y := h.hi (fun κ hκ => by
  funext j
  exact q_upr0 (by omega))
/-- a call that changes the yard, seen from the law -/
theorem PRc {μ : mT} {y : yT} {hp : hT} {r : Int32 × yT} {o : Option (Int32 × mT)} (h : CR μ y hp r o) : ∃ μ' : mT, (∀ (α : Type) (K : Int32 → mT → Option α), bm o μ K = K r.1 μ') ∧ PR μ' r.2 ∧ ∀ κ, 40 ≤ κ → μ' κ = μ κ := by
  obtain ⟨μa, a1, a2, a3, a4⟩ := h
  refine ⟨mix μ μa, fun α K => by rw [a1, q_bm2], PR.hi (μ := μa) ⟨a2, _, a3⟩ (fun κ hκ => mix_lo hκ), fun κ hκ => mix_hi hκ⟩
theorem nI_inj {a b : Nat} (ha : a < 2147483648) (hb : b < 2147483648) (h : nI a = nI b) : a = b := (nI_eq ha hb).mp h
theorem k_count' {μ : mT} {y : yT} {nt nw tm B : Nat} {a : Int32} (h : cY μ 0 y) (hi : iY y nt nw tm B) (h13 : ¬ a = 13) (h14 : ¬ a = 14) : f_X7_count a μ = some (qYard y a, μ) := by
  unfold f_X7_count
  rw [if_neg h13, if_neg h14, k_aboutYard h hi, q_bd]
theorem isT_t {y : yT} {t nt : Nat} (h7 : y.1 0 7 = nI nt) (h8 : nt ≤ 8) (h : t < nt) : isT y (nI t) = true := by
  unfold isT
  rw [Bool.and_eq_true, Bool.not_eq_true', Bool.not_eq_true', decide_eq_false_iff_not, decide_eq_false_iff_not, h7]
  exact ⟨nI_pos (by omega), nI_ge h (by omega)⟩
section Q
variable {μ : mT} {y : yT} {nt nw tm B : Nat}
theorem c0 (h : PR μ y) (hi : iY y nt nw tm B) : f_X7_count 0 μ = some (y.1 0 6, μ) := by rw [k_count' h.1 hi (by decide) (by decide)]; rfl
theorem c1 (h : PR μ y) (hi : iY y nt nw tm B) : f_X7_count 1 μ = some (nI nt, μ) := by rw [k_count' h.1 hi (by decide) (by decide), ← hi.hnt]; rfl
theorem c2 (h : PR μ y) (hi : iY y nt nw tm B) : f_X7_count 2 μ = some (nI nw, μ) := by rw [k_count' h.1 hi (by decide) (by decide), ← hi.hnw]; rfl
theorem c3 (h : PR μ y) (hi : iY y nt nw tm B) : f_X7_count 3 μ = some (nI (y.2.1 8).length, μ) := by rw [k_count' h.1 hi (by decide) (by decide)]; rfl
theorem c4 (h : PR μ y) (hi : iY y nt nw tm B) : f_X7_count 4 μ = some (ssum (y.1 4) (y.2.1 8), μ) := by rw [k_count' h.1 hi (by decide) (by decide)]; rfl
theorem c5 (h : PR μ y) (hi : iY y nt nw tm B) : f_X7_count 5 μ = some (y.1 0 10, μ) := by rw [k_count' h.1 hi (by decide) (by decide)]; rfl
theorem c6 (h : PR μ y) (hi : iY y nt nw tm B) : f_X7_count 6 μ = some (nI y.2.2.2.length, μ) := by rw [k_count' h.1 hi (by decide) (by decide)]; rfl
theorem c7 (h : PR μ y) (hi : iY y nt nw tm B) : f_X7_count 7 μ = some (y.1 0 12, μ) := by rw [k_count' h.1 hi (by decide) (by decide)]; rfl
theorem c8 (h : PR μ y) (hi : iY y nt nw tm B) : f_X7_count 8 μ = some (nI y.2.2.1.length, μ) := by rw [k_count' h.1 hi (by decide) (by decide)]; rfl
theorem c9 (h : PR μ y) (hi : iY y nt nw tm B) : f_X7_count 9 μ = some (y.1 0 14, μ) := by rw [k_count' h.1 hi (by decide) (by decide)]; rfl
theorem c10 (h : PR μ y) (hi : iY y nt nw tm B) : f_X7_count 10 μ = some (y.1 0 15, μ) := by rw [k_count' h.1 hi (by decide) (by decide)]; rfl
theorem c11 (h : PR μ y) (hi : iY y nt nw tm B) : f_X7_count 11 μ = some (y.1 0 16, μ) := by rw [k_count' h.1 hi (by decide) (by decide)]; rfl
theorem c12 (h : PR μ y) (hi : iY y nt nw tm B) : f_X7_count 12 μ = some (y.1 0 17, μ) := by rw [k_count' h.1 hi (by decide) (by decide)]; rfl
theorem c15 (h : PR μ y) (hi : iY y nt nw tm B) : f_X7_count 15 μ = some (y.1 0 0, μ) := by rw [k_count' h.1 hi (by decide) (by decide)]; rfl
theorem c16 (h : PR μ y) (hi : iY y nt nw tm B) : f_X7_count 16 μ = some (y.1 0 1, μ) := by rw [k_count' h.1 hi (by decide) (by decide)]; rfl
theorem c17 (h : PR μ y) (hi : iY y nt nw tm B) : f_X7_count 17 μ = some (y.1 0 2, μ) := by rw [k_count' h.1 hi (by decide) (by decide)]; rfl
theorem c18 (h : PR μ y) (hi : iY y nt nw tm B) : f_X7_count 18 μ = some (y.1 0 3, μ) := by rw [k_count' h.1 hi (by decide) (by decide)]; rfl
theorem c19 (h : PR μ y) (hi : iY y nt nw tm B) : f_X7_count 19 μ = some (y.1 0 4, μ) := by rw [k_count' h.1 hi (by decide) (by decide)]; rfl
theorem c20 (h : PR μ y) (hi : iY y nt nw tm B) : f_X7_count 20 μ = some (y.1 0 5, μ) := by rw [k_count' h.1 hi (by decide) (by decide)]; rfl
theorem qt_ {t : Nat} {b : Int32} (hi : iY y nt nw tm B) (ht : t < nt) : qTrack y (nI t) b = if b = 0 then y.1 1 t else if b = 1 then nI (y.2.1 t).length else if b = 2 then ssum (y.1 4) (y.2.1 t) else if b = 3 then y.1 2 t else if b = 4 then y.1 3 t else -2 := by
  have := hi.nt8
  unfold qTrack
  rw [if_pos (isT_t hi.hnt hi.nt8 ht), q_cl (by omega)]
theorem o0 {t : Nat} (h : PR μ y) (hi : iY y nt nw tm B) (ht : t < nt) : f_X7_ofTrack (nI t) 0 μ = some (y.1 1 t, μ) := by rw [k_ofTrack h.1 hi, qt_ hi ht]; rfl
theorem o1 {t : Nat} (h : PR μ y) (hi : iY y nt nw tm B) (ht : t < nt) : f_X7_ofTrack (nI t) 1 μ = some (nI (y.2.1 t).length, μ) := by rw [k_ofTrack h.1 hi, qt_ hi ht]; rfl
theorem o2 {t : Nat} (h : PR μ y) (hi : iY y nt nw tm B) (ht : t < nt) : f_X7_ofTrack (nI t) 2 μ = some (ssum (y.1 4) (y.2.1 t), μ) := by rw [k_ofTrack h.1 hi, qt_ hi ht]; rfl
theorem o3 {t : Nat} (h : PR μ y) (hi : iY y nt nw tm B) (ht : t < nt) : f_X7_ofTrack (nI t) 3 μ = some (y.1 2 t, μ) := by rw [k_ofTrack h.1 hi, qt_ hi ht]; rfl
theorem o4 {t : Nat} (h : PR μ y) (hi : iY y nt nw tm B) (ht : t < nt) : f_X7_ofTrack (nI t) 4 μ = some (y.1 3 t, μ) := by rw [k_ofTrack h.1 hi, qt_ hi ht]; rfl
theorem ae {p : Nat} (h : PR μ y) (hi : iY y nt nw tm B) (hp : p < 2147483648) : f_X7_at (-6) (nI p) μ = some (atN (y.2.1 8) p, μ) := by
  rw [k_at h.1 hi]
  unfold qAt atI
  rw [if_pos rfl, if_neg (nI_pos hp), q_cl hp]
theorem ae' (h : PR μ y) (hi : iY y nt nw tm B) : f_X7_at (-6) (-1) μ = some (-6, μ) := by rw [k_at h.1 hi]; rfl
theorem att {t p : Nat} (h : PR μ y) (hi : iY y nt nw tm B) (ht : t < nt) (hp : p < 2147483648) : f_X7_at (nI t) (nI p) μ = some (atN (y.2.1 t) p, μ) := by
  have := hi.nt8
  rw [k_at h.1 hi]
  unfold qAt atI
  rw [if_neg (q_n6 (by omega)), if_pos (isT_t hi.hnt hi.nt8 ht), if_neg (nI_pos hp), q_cl hp, q_cl (by omega)]
theorem att' {t : Nat} (h : PR μ y) (hi : iY y nt nw tm B) (ht : t < nt) : f_X7_at (nI t) (-1) μ = some (-6, μ) := by
  have := hi.nt8
  rw [k_at h.1 hi]
  unfold qAt
  rw [if_neg (q_n6 (by omega)), if_pos (isT_t hi.hnt hi.nt8 ht)]
  rfl
theorem rOf_at {r w : Nat} (hi : iY y nt nw tm B) (hr : r < 9) (hw : w ∈ y.2.1 r) : rOf y.2.1 w = nI r := by
  by_cases c : rOf y.2.1 w = -6
  · exact absurd hw (rOf_out c r hr)
  · obtain ⟨r', h1, h2, h3⟩ := rOf_in c
    rw [h2, hi.2.2.2.1 r' r w h1 hr h3 hw]
theorem rOf_no {w : Nat} (hw : ∀ r, r < 9 → w ∉ y.2.1 r) : rOf y.2.1 w = -6 := by
  by_cases c : rOf y.2.1 w = -6
  · exact c
  · obtain ⟨r', h1, h2, h3⟩ := rOf_in c
    exact absurd h3 (hw r' h1)
theorem w30 {r w : Nat} (hi : iY y nt nw tm B) (hr : r < 9) (hw : w ∈ y.2.1 r) : w < nw := (hi.2.2.1 r hr).1 w hw
theorem qw_ {w : Nat} {b : Int32} (hi : iY y nt nw tm B) (hw : w < nw) : qWagon y (nI w) b = if b = 0 then y.1 4 w
    else if b = 1 then (if rOf y.2.1 w = 8 then -6 else rOf y.2.1 w)
    else if b = 2 then (if rOf y.2.1 w = -6 then -6 else plc (rwI y.2.1 (rOf y.2.1 w)) w)
    else if b = 3 then (if rOf y.2.1 w = 8 then 1 else 0)
    else if b = 4 then (if rOf y.2.1 w = -6 then y.1 5 w else -6)
    else if b = 5 then y.1 6 w
    else if b = 6 then tOf y.2.2.2 w
    else if b = 7 then (if rOf y.2.1 w = 8 then -6 else if rOf y.2.1 w = -6 then -6 else plc (rwI y.2.1 (rOf y.2.1 w)) w)
    else -2 := by
  have := hi.nw30
  unfold qWagon
  rw [if_neg (nI_pos (by omega)), hi.hnw, if_pos ((nI_ltI (by omega) (by omega)).mpr hw), q_cl (by omega)]
theorem v0 {w : Nat} (h : PR μ y) (hi : iY y nt nw tm B) (hw : w < nw) : f_X7_ofWagon (nI w) 0 μ = some (y.1 4 w, μ) := by rw [k_ofWagon h.1 hi, qw_ hi hw]; rfl
theorem v5 {w : Nat} (h : PR μ y) (hi : iY y nt nw tm B) (hw : w < nw) : f_X7_ofWagon (nI w) 5 μ = some (y.1 6 w, μ) := by rw [k_ofWagon h.1 hi, qw_ hi hw]; rfl
theorem v6 {w : Nat} (h : PR μ y) (hi : iY y nt nw tm B) (hw : w < nw) : f_X7_ofWagon (nI w) 6 μ = some (tOf y.2.2.2 w, μ) := by rw [k_ofWagon h.1 hi, qw_ hi hw]; rfl
theorem nI8 {r : Nat} (h : r < 8) : ¬ nI r = 8 := fun e => by
  have := nI_inj (a := r) (b := 8) (by omega) (by omega) e
  omega
theorem v1t {t w : Nat} (h : PR μ y) (hi : iY y nt nw tm B) (ht : t < 8) (hw : w ∈ y.2.1 t) : f_X7_ofWagon (nI w) 1 μ = some (nI t, μ) := by
  rw [k_ofWagon h.1 hi, qw_ hi (w30 hi (by omega) hw), rOf_at hi (by omega) hw]
  show some (if nI t = 8 then -6 else nI t, μ) = _
  rw [if_neg (nI8 ht)]
theorem v2 {r w k : Nat} (h : PR μ y) (hi : iY y nt nw tm B) (hr : r < 9) (hw : (y.2.1 r)[k]? = some w) : f_X7_ofWagon (nI w) 2 μ = some (nI k, μ) := by
  have hm := List.mem_of_getElem? hw
  rw [k_ofWagon h.1 hi, qw_ hi (w30 hi hr hm), rOf_at hi hr hm]
  show some (if nI r = -6 then -6 else plc (rwI y.2.1 (nI r)) w, μ) = _
  rw [if_neg (q_n6 (by omega))]
  unfold rwI
  rw [q_cl (by omega), plc_at (hi.2.2.1 r hr).2 hw]
theorem v3t {t w : Nat} (h : PR μ y) (hi : iY y nt nw tm B) (ht : t < 8) (hw : w ∈ y.2.1 t) : f_X7_ofWagon (nI w) 3 μ = some (0, μ) := by
  rw [k_ofWagon h.1 hi, qw_ hi (w30 hi (by omega) hw), rOf_at hi (by omega) hw]
  show some (if nI t = 8 then 1 else 0, μ) = _
  rw [if_neg (nI8 ht)]
theorem v7t {t w k : Nat} (h : PR μ y) (hi : iY y nt nw tm B) (ht : t < 8) (hw : (y.2.1 t)[k]? = some w) : f_X7_ofWagon (nI w) 7 μ = some (nI k, μ) := by
  have hm := List.mem_of_getElem? hw
  rw [k_ofWagon h.1 hi, qw_ hi (w30 hi (by omega) hm), rOf_at hi (by omega) hm]
  show some (if nI t = 8 then -6 else if nI t = -6 then -6 else plc (rwI y.2.1 (nI t)) w, μ) = _
  rw [if_neg (nI8 ht), if_neg (q_n6 (by omega))]
  unfold rwI
  rw [q_cl (by omega), plc_at (hi.2.2.1 t (by omega)).2 hw]
theorem v1e {w : Nat} (h : PR μ y) (hi : iY y nt nw tm B) (hw : w ∈ y.2.1 8) : f_X7_ofWagon (nI w) 1 μ = some (-6, μ) := by
  rw [k_ofWagon h.1 hi, qw_ hi (w30 hi (by omega) hw), rOf_at hi (by omega) hw]; rfl
theorem v3e {w : Nat} (h : PR μ y) (hi : iY y nt nw tm B) (hw : w ∈ y.2.1 8) : f_X7_ofWagon (nI w) 3 μ = some (1, μ) := by
  rw [k_ofWagon h.1 hi, qw_ hi (w30 hi (by omega) hw), rOf_at hi (by omega) hw]; rfl
theorem v7e {w : Nat} (h : PR μ y) (hi : iY y nt nw tm B) (hw : w ∈ y.2.1 8) : f_X7_ofWagon (nI w) 7 μ = some (-6, μ) := by
  rw [k_ofWagon h.1 hi, qw_ hi (w30 hi (by omega) hw), rOf_at hi (by omega) hw]; rfl
theorem v4i {r w : Nat} (h : PR μ y) (hi : iY y nt nw tm B) (hr : r < 9) (hw : w ∈ y.2.1 r) : f_X7_ofWagon (nI w) 4 μ = some (-6, μ) := by
  rw [k_ofWagon h.1 hi, qw_ hi (w30 hi hr hw), rOf_at hi hr hw]
  show some (if nI r = -6 then y.1 5 w else -6, μ) = _
  rw [if_neg (q_n6 (by omega))]
theorem v4g {w : Nat} (h : PR μ y) (hi : iY y nt nw tm B) (hw : w < nw) (hn : ∀ r, r < 9 → w ∉ y.2.1 r) : f_X7_ofWagon (nI w) 4 μ = some (y.1 5 w, μ) := by
  rw [k_ofWagon h.1 hi, qw_ hi hw, rOf_no hn]; rfl
theorem v2g {w : Nat} (h : PR μ y) (hi : iY y nt nw tm B) (hw : w < nw) (hn : ∀ r, r < 9 → w ∉ y.2.1 r) : f_X7_ofWagon (nI w) 2 μ = some (-6, μ) := by
  rw [k_ofWagon h.1 hi, qw_ hi hw, rOf_no hn]; rfl
end Q
