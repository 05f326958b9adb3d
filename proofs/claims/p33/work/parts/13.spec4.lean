def mi (a k : Nat) : Nat := if a = 0 then k else if a = 1 then 20 + 4 * k else if a = 2 then 20 + 4 * k + 2 else if a = 3 then 20 + 4 * k + 3 else 326 + a + 4 * k
theorem mi_inj {a k a' k' : Nat} (h : sdom a k) (h' : sdom a' k') (e : mi a k = mi a' k') : a = a' ∧ k = k' := by
  unfold sdom at h h'
  unfold mi at e
  grind (splits := 40)
def rc (r : Nat) : Nat := if r = 8 then 9 else 20 + 4 * r + 1
def mS (ρ : Nat → Int32) (s : sT) : Prop := ∀ a k, sdom a k → ρ (mi a k) = s a k
def mR (ρ : Nat → Int32) (rw : Nat → List Nat) : Prop := ∀ r, r < 9 → ρ (rc r) = nI (rw r).length ∧ ∀ p w, (rw r)[p]? = some w → ρ (60 + 30 * r + p) = nI w
def mB (ρ : Nat → Int32) (bl : List (Int32 × Int32)) : Prop := ρ 13 = nI bl.length ∧ ∀ i b, bl[i]? = some b → ρ (530 + 2 * i) = b.1 ∧ ρ (530 + 2 * i + 1) = b.2
def mN (ρ : Nat → Int32) (tn : List (Int32 × List Nat)) : Prop := ρ 11 = nI tn.length ∧ ∀ t e, tn[t]? = some e → ρ (450 + 10 * t) = e.1 ∧ ρ (450 + 10 * t + 1) = nI e.2.length ∧ ∀ k w, e.2[k]? = some w → ρ (450 + 10 * t + 2 + k) = nI w
def mY (ρ : Nat → Int32) (y : yT) : Prop := mS ρ y.1 ∧ mR ρ y.2.1 ∧ mB ρ y.2.2.1 ∧ mN ρ y.2.2.2
theorem mS.cong {ρ ρ' : Nat → Int32} {s : sT} (h : mS ρ s) (e : ∀ x, (x ≤ 8 ∨ x = 10 ∨ x = 12 ∨ (14 ≤ x ∧ x ≤ 17) ∨ (20 ≤ x ∧ x < 52 ∧ x % 4 ≠ 1) ∨ (330 ≤ x ∧ x < 450 ∧ x % 4 ≠ 1)) → ρ' x = ρ x) : mS ρ' s := fun a k hd => by
  rw [e (mi a k) (by unfold mi; unfold sdom at hd; grind (splits := 40))]
  exact h a k hd
theorem mS.up {ρ : Nat → Int32} {s : sT} (h : mS ρ s) {a0 k0 : Nat} (hd : sdom a0 k0) (x : Int32) : mS (upd ρ (mi a0 k0) x) (sU s a0 k0 x) := by
  intro a k hd'
  by_cases e : a = a0 ∧ k = k0
  · obtain ⟨rfl, rfl⟩ := e
    rw [sU_s]
    exact if_pos rfl
  · rw [sU_n e]
    unfold upd
    rw [if_neg (fun z => e (mi_inj hd' hd z))]
    exact h a k hd'
theorem mS.g {ρ : Nat → Int32} {s : sT} (h : mS ρ s) {i : Nat} (a k : Nat) (hd : sdom a k) (e : mi a k = i) : ρ i = s a k := by
  subst e
  exact h a k hd
theorem mS.z {ρ : Nat → Int32} {s : sT} (h : mS ρ s) {k : Nat} (hk : k ≤ 8 ∨ k = 10 ∨ k = 12 ∨ (14 ≤ k ∧ k ≤ 17)) : ρ k = s 0 k := h.g 0 k (sd0 hk) rfl
theorem mS.t1 {ρ : Nat → Int32} {s : sT} (h : mS ρ s) {t : Nat} (ht : t < 8) : ρ (20 + 4 * t) = s 1 t := h.g 1 t (sdt (by omega) ht) rfl
theorem mS.t2 {ρ : Nat → Int32} {s : sT} (h : mS ρ s) {t : Nat} (ht : t < 8) : ρ (20 + 4 * t + 2) = s 2 t := h.g 2 t (sdt (by omega) ht) rfl
theorem mS.t3 {ρ : Nat → Int32} {s : sT} (h : mS ρ s) {t : Nat} (ht : t < 8) : ρ (20 + 4 * t + 3) = s 3 t := h.g 3 t (sdt (by omega) ht) rfl
theorem mS.w4 {ρ : Nat → Int32} {s : sT} (h : mS ρ s) {w : Nat} (hw : w < 30) : ρ (330 + 4 * w) = s 4 w := h.g 4 w (sdw (by omega) hw) rfl
theorem mS.w5 {ρ : Nat → Int32} {s : sT} (h : mS ρ s) {w : Nat} (hw : w < 30) : ρ (330 + 4 * w + 1) = s 5 w := h.g 5 w (sdw (by omega) hw) (by unfold mi; simp only [Nat.reduceEqDiff, ↓reduceIte]; omega)
theorem mS.w6 {ρ : Nat → Int32} {s : sT} (h : mS ρ s) {w : Nat} (hw : w < 30) : ρ (330 + 4 * w + 2) = s 6 w := h.g 6 w (sdw (by omega) hw) (by unfold mi; simp only [Nat.reduceEqDiff, ↓reduceIte]; omega)
theorem rc_t {t : Nat} (h : t < 8) : rc t = 20 + 4 * t + 1 := if_neg (by omega)
theorem mR.n {ρ : Nat → Int32} {rw : Nat → List Nat} (h : mR ρ rw) {t : Nat} (ht : t < 8) : ρ (20 + 4 * t + 1) = nI (rw t).length := by
  rw [← rc_t ht]
  exact (h t (by omega)).1
theorem mR.e8 {ρ : Nat → Int32} {rw : Nat → List Nat} (h : mR ρ rw) {p w : Nat} (hp : (rw 8)[p]? = some w) : ρ (300 + p) = nI w := (h 8 (by omega)).2 p w hp
theorem mR.cong {ρ ρ' : Nat → Int32} {rw : Nat → List Nat} (h : mR ρ rw) (ho : rOK rw) (e : ∀ x, x = 9 ∨ (20 ≤ x ∧ x < 52 ∧ x % 4 = 1) ∨ (60 ≤ x ∧ x < 330) → ρ' x = ρ x) : mR ρ' rw := fun r hr => by
  refine ⟨?_, fun p w hp => ?_⟩
  · rw [e (rc r) (by unfold rc; split <;> omega)]
    exact (h r hr).1
  · have := (List.getElem?_eq_some_iff.mp hp).1
    have := (ho r hr).1
    rw [e _ (by omega)]
    exact (h r hr).2 p w hp
theorem mB.cong {ρ ρ' : Nat → Int32} {bl : List (Int32 × Int32)} (h : mB ρ bl) (e : ∀ x, x = 13 ∨ 530 ≤ x → ρ' x = ρ x) : mB ρ' bl :=
  ⟨by rw [e 13 (by omega)]; exact h.1, fun i b hi => ⟨by rw [e _ (by omega)]; exact (h.2 i b hi).1, by rw [e _ (by omega)]; exact (h.2 i b hi).2⟩⟩
theorem mN.cong {ρ ρ' : Nat → Int32} {tn : List (Int32 × List Nat)} (h : mN ρ tn) (ho : tOK tn) (e : ∀ x, x = 11 ∨ (450 ≤ x ∧ x < 530) → ρ' x = ρ x) : mN ρ' tn := by
  refine ⟨by rw [e 11 (by omega)]; exact h.1, fun t e' ht => ?_⟩
  have h8 := ho.1
  have htl := (List.getElem?_eq_some_iff.mp ht).1
  obtain ⟨a1, a2, a3⟩ := h.2 t e' ht
  obtain ⟨o1, o2, o3, o4⟩ := ho.2 t e' ht
  refine ⟨by rw [e _ (by omega)]; exact a1, by rw [e _ (by omega)]; exact a2, fun k w hk => ?_⟩
  have hkl := (List.getElem?_eq_some_iff.mp hk).1
  rw [e _ (by omega)]
  exact a3 k w hk
theorem mY.cong {ρ ρ' : Nat → Int32} {y : yT} (h : mY ρ y) (hg : gY y) (e : ∀ x, x < 560 → ρ' x = ρ x) : mY ρ' y := by
  refine ⟨h.1.cong (fun x hx => e x (by omega)), h.2.1.cong hg.1 (fun x hx => e x (by omega)), ⟨by rw [e 13 (by omega)]; exact h.2.2.1.1, fun i b hi => ?_⟩, h.2.2.2.cong hg.2.2.2.2 (fun x hx => e x (by omega))⟩
  have := (List.getElem?_eq_some_iff.mp hi).1
  have := hg.2.2.2.1
  exact ⟨by rw [e _ (by omega)]; exact (h.2.2.1.2 i b hi).1, by rw [e _ (by omega)]; exact (h.2.2.1.2 i b hi).2⟩
/-- one number of the row is set -/
theorem mY.up {ρ : Nat → Int32} {y : yT} (h : mY ρ y) (hg : gY y) {a0 k0 i : Nat} (x : Int32) (hd : sdom a0 k0) (e : mi a0 k0 = i) : mY (upd ρ i x) (sU y.1 a0 k0 x, y.2) := by
  subst e
  have hne : ∀ x' : Nat, ¬ (x' ≤ 8 ∨ x' = 10 ∨ x' = 12 ∨ (14 ≤ x' ∧ x' ≤ 17) ∨ (20 ≤ x' ∧ x' < 52 ∧ x' % 4 ≠ 1) ∨ (330 ≤ x' ∧ x' < 450)) → upd ρ (mi a0 k0) x x' = ρ x' := fun x' hx => by
    unfold upd
    rw [if_neg]
    intro z
    apply hx
    rw [z]
    unfold mi
    unfold sdom at hd
    grind (splits := 40)
  exact ⟨h.1.up hd x, h.2.1.cong hg.1 (fun x' hx => hne x' (by omega)), h.2.2.1.cong (fun x' hx => hne x' (by omega)), h.2.2.2.cong hg.2.2.2.2 (fun x' hx => hne x' (by omega))⟩
def aliv (bl : List (Int32 × Int32)) (t : Int32) : Nat := bl.countP (fun b => decide (t < b.2))
theorem aliv_le {t t' : Int32} (h : t ≤ t') (bl : List (Int32 × Int32)) : aliv bl t' ≤ aliv bl t := by
  induction bl with
  | nil => unfold aliv; rw [List.countP_nil, List.countP_nil]; exact Nat.le_refl 0
  | cons b l ih =>
    unfold aliv at ih ⊢
    rw [List.countP_cons, List.countP_cons]
    by_cases q : t' < b.2
    · rw [if_pos (decide_eq_true q), if_pos (decide_eq_true (Int32.lt_of_le_of_lt h q))]
      omega
    · rw [if_neg (by rw [decide_eq_true_eq]; exact q)]
      omega
theorem aliv_lt {t t' : Int32} (h : t < t') (bl : List (Int32 × Int32)) : (∃ b ∈ bl, t' = b.2) → aliv bl t' < aliv bl t := by
  induction bl with
  | nil =>
    intro hb
    obtain ⟨b, hb, _⟩ := hb
    simp at hb
  | cons b l ih =>
    intro hb
    have hle := aliv_le (Int32.le_of_lt h) l
    unfold aliv at hle ih ⊢
    rw [List.countP_cons, List.countP_cons]
    by_cases q : t' = b.2
    · rw [if_neg (by rw [decide_eq_true_eq, q]; exact Int32.lt_irrefl), if_pos (decide_eq_true (by rw [← q]; exact h))]
      omega
    · have hl : ∃ b ∈ l, t' = b.2 := by
        obtain ⟨b', hb', e⟩ := hb
        rcases List.mem_cons.mp hb' with z | z
        · subst z; exact absurd e q
        · exact ⟨b', z, e⟩
      have ih := ih hl
      by_cases q' : t' < b.2
      · rw [if_pos (decide_eq_true q'), if_pos (decide_eq_true (Int32.lt_of_lt_of_le h (Int32.le_of_lt q')))]
        omega
      · rw [if_neg (by rw [decide_eq_true_eq]; exact q')]
        omega
theorem pasN_fix {m t : Int32} {bl : List (Int32 × Int32)} (h : pas m t bl = t) : ∀ n, pasN m bl n t = t
  | 0 => rfl
  | n + 1 => by
    unfold pasN
    rw [h]
    exact pasN_fix h n
abbrev hT := Nat × (Nat → yT)
def pH (hp : hT) (y : yT) : hT := if hp.1 < 6 then (hp.1 + 1, fun i => if i = hp.1 then y else hp.2 i) else (6, fun i => if i = 5 then y else hp.2 (i + 1))
def hM (μ : mT) (y : yT) (hp : hT) (tx : Bool) : Prop := mY (μ 28 0) y ∧ μ 27 0 4 = nI hp.1 ∧ hp.1 ≤ 6 ∧ (∀ i, i < hp.1 → mY (fun x => μ 31 0 (i * 560 + x)) (hp.2 i)) ∧ μ 27 0 9 = if tx = true then 1 else 0
def k27 (μ μ' : mT) : Prop := ∀ k, k ≠ 4 → μ' 27 0 k = μ 27 0 k
theorem k27.tr {μ μ1 μ2 : mT} (a : k27 μ μ1) (b : k27 μ1 μ2) : k27 μ μ2 := fun k hk => (b k hk).trans (a k hk)
def hF (hp : hT) : Prop := ∀ i, i < hp.1 → gY (hp.2 i)
theorem n10 : ¬ (1 : Int32) = 0 := by decide
theorem p00 : (0 : Int32) = 0 := rfl
theorem sGone_n {s : sT} {l : List Nat} {a k : Nat} (h : a ≠ 5) : sGone s l a k = s a k := if_neg (fun z => h z.1)
theorem gClear {y : yT} (hg : gY y) : gY (y.1, fun r => if r = 8 then [] else y.2.1 r, y.2.2) := by
  have hn : ∀ r w, w ∈ (if r = 8 then [] else y.2.1 r) → w ∈ y.2.1 r := fun r w q => by
    by_cases c : r = 8
    · rw [if_pos c] at q; cases q
    · rwa [if_neg c] at q
  refine ⟨fun r hr => ?_, fun r r' w hr hr' a b => hg.2.1 r r' w hr hr' (hn r w a) (hn r' w b), ?_, hg.2.2.2.1, hg.2.2.2.2⟩
  · dsimp only
    by_cases c : r = 8
    · rw [if_pos c]; exact ⟨by simp, fun w q => (List.not_mem_nil q).elim, List.nodup_nil⟩
    · rw [if_neg c]; exact hg.1 r hr
  · have := hg.2.2.1
    unfold tot at this ⊢
    simp only [Nat.reduceEqDiff, ↓reduceIte, List.length_nil]
    omega
def rd : Nat → Nat → Option (List Nat)
  | 0, N => if N = 0 then some [] else none
  | F + 1, N => if N = 0 then some [] else if N % 31 = 0 then none else (rd F (N / 31)).map (fun l => (N % 31 - 1) :: l)
theorem rd_len : ∀ (F N : Nat) (l : List Nat), rd F N = some l → l.length ≤ F ∧ ∀ w ∈ l, w < 30
  | 0, N, l, h => by
    unfold rd at h
    split at h
    · cases h; exact ⟨Nat.le_refl _, fun w q => (List.not_mem_nil q).elim⟩
    · cases h
  | F + 1, N, l, h => by
    unfold rd at h
    split at h
    · cases h; exact ⟨by simp, fun w q => (List.not_mem_nil q).elim⟩
    · split at h
      · cases h
      · cases e : rd F (N / 31) with
        | none => rw [e] at h; cases h
        | some l' =>
          rw [e] at h
          cases h
          obtain ⟨a, b⟩ := rd_len F (N / 31) l' e
          refine ⟨by rw [List.length_cons]; omega, fun w q => ?_⟩
          rcases List.mem_cons.mp q with rfl | q
          · have := Nat.mod_lt N (show 0 < 31 by decide)
            omega
          · exact b w q
def tLs (a : Int64) : List Nat := if a < 0 then [] else (rd 8 a.toInt.toNat).getD []
theorem tLs_len (a : Int64) : (tLs a).length ≤ 8 ∧ ∀ w ∈ tLs a, w < 30 := by
  unfold tLs
  split
  · exact ⟨by simp, fun w q => (List.not_mem_nil q).elim⟩
  · cases e : rd 8 a.toInt.toNat with
    | none => exact ⟨by simp, fun w q => (List.not_mem_nil q).elim⟩
    | some l => exact rd_len _ _ _ e
theorem lg_le {N : Nat} (h : N < 2 ^ 63) : lg_cmp (lN N) 0 ≤ 0 ↔ N = 0 := by
  unfold lg_cmp
  by_cases c : N = 0
  · subst c
    exact ⟨fun _ => rfl, fun _ => by decide⟩
  · rw [if_pos (show lN N > 0 from (pk_lLT (a := 0) (by omega) h).mpr (by omega))]
    exact ⟨fun q => absurd q (by decide), fun q => absurd q c⟩
theorem lg_eq {N : Nat} (h : N < 2 ^ 63) : lg_cmp (lN N) 0 = 0 ↔ N = 0 := by
  unfold lg_cmp
  by_cases c : N = 0
  · subst c
    exact ⟨fun _ => rfl, fun _ => by decide⟩
  · rw [if_pos (show lN N > 0 from (pk_lLT (a := 0) (by omega) h).mpr (by omega))]
    exact ⟨fun q => absurd q (by decide), fun q => absurd q c⟩
theorem lg_neg {v : Int64} (h : v < 0) : lg_cmp v 0 = -1 := by
  unfold lg_cmp
  have h1 := h
  rw [Int64.lt_iff_toInt_lt] at h1
  rw [if_neg (show ¬ v > 0 from fun q => by
    have q' : (0 : Int64) < v := q
    rw [Int64.lt_iff_toInt_lt] at q'
    omega), if_neg (fun q => by
    rw [q] at h1
    omega)]
theorem q_dig {N : Nat} (h : N < 2 ^ 63) : (lN N - lN N / 31 * 31).toInt32 = nI (N % 31) := by
  rw [show (31 : Int64) = lN 31 from rfl, pk_lRem h (by omega) (by omega), lN_i]
theorem q_nxt {N : Nat} (h : N < 2 ^ 63) : lN N / 31 = lN (N / 31) := by
  rw [show (31 : Int64) = lN 31 from rfl, pk_lDiv h (by omega) (by omega)]
theorem k_rd : ∀ (F n i N : Nat) (μ : mT), i + F = 8 → F < n → N < 2 ^ 63 →
    ∃ μ', f_X7_readList_L8 (fun v6 v7 μ8 => if lg_cmp v6 0 = 0 then some (v7, μ8) else some (0, μ8)) n (lN N) (nI i) (nI i) μ = some ((match rd F N with | some l => nI (i + l.length) | none => 0), μ') ∧ (∀ x, x < i → μ' 26 0 x = μ 26 0 x) ∧ (∀ l, rd F N = some l → ∀ k w, l[k]? = some w → μ' 26 0 (i + k) = nI w) ∧ only μ μ' (fun κ j => κ = 26 ∧ j = 0) := by
  intro F
  induction F with
  | zero =>
    intro n i N μ hi hn hN
    obtain ⟨n, rfl⟩ : ∃ n', n = n' + 1 := ⟨n - 1, by omega⟩
    rw [f_X7_readList_L8, z_l8, if_pos (nI_le (by omega) (by omega))]
    refine ⟨μ, ?_, fun _ _ => rfl, fun l e k w q => ?_, only.rf⟩
    · unfold rd
      by_cases c : N = 0
      · rw [if_pos c, if_pos ((lg_eq hN).mpr c)]
        rfl
      · rw [if_neg c, if_neg (fun q => c ((lg_eq hN).mp q))]
    · unfold rd at e
      split at e
      · cases e; simp at q
      · cases e
  | succ F ih =>
    intro n i N μ hi hn hN
    obtain ⟨n, rfl⟩ : ∃ n', n = n' + 1 := ⟨n - 1, by omega⟩
    rw [f_X7_readList_L8, z_l8, if_neg (nI_ge (by omega) (by omega))]
    unfold rd
    by_cases c : N = 0
    · rw [if_pos ((lg_le hN).mpr c), if_pos c, if_pos ((lg_eq hN).mpr c)]
      refine ⟨μ, rfl, fun _ _ => rfl, fun l e k w q => ?_, only.rf⟩
      cases e
      simp at q
    · rw [if_neg (fun q => c ((lg_le hN).mp q)), if_neg c, q_lt, q_dig hN]
      have hm := Nat.mod_lt N (show 0 < 31 by decide)
      by_cases c2 : N % 31 = 0
      · rw [if_pos (by rw [c2]; rfl), if_pos c2]
        exact ⟨μ, rfl, fun _ _ => rfl, fun l e => (by cases e), only.rf⟩
      · rw [if_neg (nI_ne0 (by omega) (by omega)), if_neg c2, q_gdi (by omega) (by omega), z_l1, q_sub (by omega), q_cl (by omega), q_lt, q_lt, q_lt, q_lt, q_nxt hN, q_add]
        obtain ⟨μ', a1, a2, a3, a4⟩ := ih n (i + 1) (N / 31) (upM μ 26 0 i (nI (N % 31 - 1))) (by omega) (by omega) (Nat.lt_of_le_of_lt (Nat.div_le_self _ _) hN)
        refine ⟨μ', ?_, fun x hx => ?_, fun l e k w q => ?_, only.tr (q_uple rfl) a4⟩
        · rw [a1]
          cases e : rd F (N / 31) with
          | none => rfl
          | some l =>
            dsimp only [Option.map_some]
            rw [List.length_cons, show i + 1 + l.length = i + (l.length + 1) by omega]
        · rw [a2 x (by omega), q_up, if_neg (by omega)]
        · cases e' : rd F (N / 31) with
          | none => rw [e'] at e; cases e
          | some l' =>
            rw [e'] at e
            cases e
            cases k with
            | zero =>
              simp at q
              rw [Nat.add_zero, a2 i (by omega), q_up, if_pos ⟨rfl, rfl, rfl⟩, q]
            | succ k =>
              rw [List.getElem?_cons_succ] at q
              have := a3 l' e' k w q
              rw [show i + (k + 1) = i + 1 + k by omega]
              exact this
theorem k_readList (a : Int64) (μ : mT) : ∃ μ', f_X7_readList a μ = some (nI (tLs a).length, μ') ∧ (∀ k w, (tLs a)[k]? = some w → μ' 26 0 k = nI w) ∧ only μ μ' (fun κ j => κ = 26 ∧ j = 0) := by
  unfold f_X7_readList
  rw [q_lt]
  by_cases c : a < 0
  · refine ⟨μ, ?_, ?_, only.rf⟩
    · rw [show fu = 3999 + 1 from rfl, f_X7_readList_L8, if_neg (by decide), lg_neg c, if_pos (by decide)]
      unfold tLs
      rw [if_pos c]
      rfl
    · unfold tLs
      rw [if_pos c]
      intro k w q
      simp at q
  · obtain ⟨N, hN, rfl⟩ := pk_lOf c
    obtain ⟨μ', a1, a2, a3, a4⟩ := k_rd 8 fu 0 N μ rfl (by unfold fu; omega) hN
    refine ⟨μ', ?_, ?_, a4⟩
    · rw [z_l0] at a1 ⊢
      rw [a1]
      unfold tLs
      rw [if_neg c, pk_lT hN, Int.toNat_natCast]
      cases rd 8 N with
      | none => rfl
      | some l => dsimp only [Option.getD_some]; rw [Nat.zero_add]
    · unfold tLs
      rw [if_neg c, pk_lT hN, Int.toNat_natCast]
      cases e : rd 8 N with
      | none => intro k w q; simp at q
      | some l =>
        intro k w q
        have := a3 l e k w q
        rwa [Nat.zero_add] at this
def okL (y : yT) (nw : Nat) : List Nat → List Nat → Bool
  | _, [] => true
  | p, w :: l => decide (w < nw) && decide (y.1 5 w < 0) && !decide (w ∈ p) && okL y nw (p ++ [w]) l
theorem okL_iff {y : yT} {nw : Nat} : ∀ (l p : List Nat), okL y nw p l = true ↔ (∀ w ∈ l, w < nw ∧ y.1 5 w < 0) ∧ (∀ w ∈ l, w ∉ p) ∧ l.Nodup
  | [], p => by simp [okL]
  | w :: l, p => by
    unfold okL
    rw [Bool.and_eq_true, okL_iff l (p ++ [w]), List.nodup_cons]
    simp only [Bool.and_eq_true, decide_eq_true_eq, Bool.not_eq_true', decide_eq_false_iff_not, List.mem_append, List.mem_cons, List.not_mem_nil, or_false, not_or]
    constructor
    · rintro ⟨⟨⟨a, b⟩, c⟩, d, e, f⟩
      exact ⟨fun w' q => q.elim (fun z => by rw [z]; exact ⟨a, b⟩) (d w'), fun w' q => q.elim (fun z => by rw [z]; exact c) (fun z => (e w' z).1), fun z => (e w z).2 rfl, f⟩
    · rintro ⟨d, e, g, f⟩
      exact ⟨⟨⟨(d w (Or.inl rfl)).1, (d w (Or.inl rfl)).2⟩, e w (Or.inl rfl)⟩, fun w' q => d w' (Or.inr q), fun w' q => ⟨e w' (Or.inr q), fun z => g (by rw [← z]; exact q)⟩, f⟩
theorem rOf_iff {nt nw tm B w : Nat} {y : yT} (hi : iY y nt nw tm B) : ¬ rOf y.2.1 w = -6 ↔ w < nw ∧ y.1 5 w < 0 := by
  constructor
  · intro q
    obtain ⟨r, hr, -, hm⟩ := rOf_in q
    have hw := (hi.2.2.1 r hr).1 w hm
    refine ⟨hw, ?_⟩
    rw [hi.2.2.2.2.2.2.1 w hw r hr hm]
    decide
  · rintro ⟨a, b⟩ q
    have := hi.2.2.2.2.2.2.2.1 w a (rOf_out q)
    exact absurd b (Int32.not_lt.mpr this)
theorem areT_iff {nt nw tm B : Nat} {y : yT} (hi : iY y nt nw tm B) (ws : List Nat) : areT y.2.1 ws ↔ ws ≠ [] ∧ okL y nw [] ws = true := by
  rw [okL_iff]
  unfold areT okAt
  constructor
  · rintro ⟨a, b⟩
    refine ⟨a, fun w q => ?_, fun w _ q => (List.not_mem_nil q).elim, ?_⟩
    · obtain ⟨i, hi1, hi2⟩ := List.getElem_of_mem q
      obtain ⟨⟨w', e1, e2⟩, -⟩ := b i hi1
      rw [List.getElem?_eq_getElem hi1, hi2] at e1
      cases e1
      exact (rOf_iff hi).mp e2
    · rw [List.nodup_iff_pairwise_ne, List.pairwise_iff_getElem]
      intro i j hi1 hj hij e
      apply (b j hj).2 i hij
      rw [List.getElem?_eq_getElem hi1, List.getElem?_eq_getElem hj, e]
  · rintro ⟨a, b, -, c⟩
    refine ⟨a, fun i hi1 => ⟨⟨ws[i], List.getElem?_eq_getElem hi1, (rOf_iff hi).mpr (b _ (List.getElem_mem hi1))⟩, fun i' hi' q => ?_⟩⟩
    rw [List.getElem?_eq_getElem hi1, List.getElem?_eq_getElem (by omega)] at q
    rw [List.nodup_iff_pairwise_ne, List.pairwise_iff_getElem] at c
    exact c i' i (by omega) hi1 hi' (Option.some.inj q)
def atI (d : List Nat) (b : Int32) : Int32 := if b < 0 then -6 else atN d b.toNatClampNeg
def qAt (y : yT) (a b : Int32) : Int32 := if a = -6 then atI (y.2.1 8) b else if isT y a = true then atI (y.2.1 a.toNatClampNeg) b else -1
theorem k_at {nt nw tm B : Nat} {a b : Int32} {y : yT} {μ : mT} (h : cY μ 0 y) (hi : iY y nt nw tm B) : f_X7_at a b μ = some (qAt y a b, μ) := by
  have key : ∀ r, r < 9 → f_X5_wagonAt 0 (nI r) b μ = some (atI (y.2.1 r) b, μ) := fun r hr => by
    unfold atI
    by_cases hb : b < 0
    · rw [if_pos hb, k_wagonAt_neg hb]
    · obtain ⟨p, hp, rfl⟩ := nI_of hb
      rw [if_neg hb, q_cl hp, k_wagonAt hr (h.2.1 r hr) (hi.rOK r hr).1 hp]
  unfold f_X7_at qAt
  by_cases c : a = -6
  · rw [if_pos c, if_pos c, z_l8, key 8 (by omega), q_bd]
  · rw [if_neg c, if_neg c, k_hasTrack h.1, q_bd]
    by_cases ht : isT y a = true
    · obtain ⟨t, ht1, rfl⟩ := isT_in hi.hnt hi.nt8 ht
      have hn8 := hi.nt8
      rw [if_pos ht, if_pos ht, if_neg n10, key t (by omega), q_bd, q_cl (by omega)]
    · rw [if_neg ht, if_neg ht, if_pos p00]
theorem k_freeFrom {nt nw tm B : Nat} {a : Int32} {y : yT} {μ : mT} (h : cY μ 0 y) (hi : iY y nt nw tm B) : f_X7_freeFrom a μ = some (if a < 1 ∨ 500 < a then -2 else free a y.2.2.1 (y.1 0 6), μ) := by
  unfold f_X7_freeFrom
  by_cases c1 : a < 1
  · rw [if_pos c1, if_pos (Or.inl c1)]
  · rw [if_neg c1]
    by_cases c2 : a ≤ 500
    · rw [if_pos c2, if_neg (fun z => z.elim c1 (fun z => absurd c2 (Int32.not_le.mpr z))), h.1.minute, k_firstFree h.2.2.1 hi.bl, q_bd]
    · rw [if_neg c2, if_pos (Or.inr (Int32.not_le.mp c2))]
theorem gD' {y : yT} {nt t n : Nat} (hg : gN y nt) (ht : t < nt) (hn : n ≤ (y.2.1 t).length) : gN (dO y t n) nt :=
  gN_D (s := (dO y t n).1) (bl := y.2.2.1) hg (by
    unfold dO nP
    dsimp only
    rw [sU_n (by omega), if_neg (by omega)]) ht hn hg.1.2.2.2.1
theorem gB' {y : yT} {nt t n : Nat} (hg : gN y nt) (ht : t < nt) (hn : n ≤ (y.2.1 8).length) : gN (sBk y t n) nt :=
  gN_B (s := (sBk y t n).1) (bl := y.2.2.1) hg (by
    unfold sBk
    dsimp only
    rw [sU_n (by omega)]) ht hn hg.1.2.2.2.1
theorem k_roomFor {nt nw tm B : Nat} {y : yT} {μ : mT} (h : cY μ 0 y) (hi : iY y nt nw tm B) : f_X7_roomFor μ = some (trF y (y.2.1 8).length nt 0 0, μ) := by
  have := hi.nt8
  have hl8 := (hi.rOK 8 (by omega)).1
  unfold f_X7_roomFor f_X6_tracksFor
  rw [z_l8, k_manyIn (by omega), q_bd, cRow.nl h.2.1 (by omega)]
  have := k_tracksFor h hi (n := (y.2.1 8).length) (by omega) nt fu 0 0 (by omega) (by unfold fu; omega)
  rw [← z_l0] at this
  rw [this, q_bd]
theorem layC_len : ∀ {F : Nat} {rw : Nat → List Nat} {l : List Nat} {got : Nat} {ps : List (Nat × Nat)}, layC F rw l got = some ps → ps.length ≤ F
  | 0, rw, l, got, ps, h => by cases h
  | F + 1, rw, l, got, ps, h => by
    unfold layC at h
    split at h
    · cases h; simp
    · split at h
      · cases h
      · split at h
        · cases h
        · rename_i r _ _
          cases e : layC F (rwD rw r (lcp (rw r) (l.drop got))) l (got + lcp (rw r) (l.drop got)) with
          | none => rw [e] at h; cases h
          | some qs =>
            rw [e] at h
            cases h
            rw [List.length_cons]
            exact Nat.succ_le_succ (layC_len e)
theorem fpS_lay {y : yT} {l : List Nat} {ps : List (Nat × Nat)} (h : fpS y l = some ps) : layC 9 y.2.1 l (y.2.1 8).length = some ps := by
  unfold fpS at h
  split at h
  · exact h
  · cases h
def qStr (y : yT) (a : Int32) : Int32 := match tIx y.2.2.2.length a with
  | none => -1
  | some t => match y.2.2.2[t]? with
    | none => -1
    | some e => match fpS y e.2 with
      | none => 0
      | some _ => 1
def qPul (y : yT) (a : Int32) : Int32 := match tIx y.2.2.2.length a with
  | none => -1
  | some t => match y.2.2.2[t]? with
    | none => -1
    | some e => match fpS y e.2 with
      | none => -6
      | some ps => nI ps.length
theorem k_pulls {nt : Nat} {a : Int32} {y : yT} {μ : mT} (h : cY μ 0 y) (hg : gN y nt) :
    ∃ μ', f_X7_pulls a μ = some (qPul y a, μ') ∧ only μ μ' (Yd 1) := by
  unfold f_X7_pulls qPul
  rw [k_has h.2.2.2 hg.1.2.2.2.2.1, q_bd]
  cases et : tIx y.2.2.2.length a with
  | none => exact ⟨μ, rfl, only.rf⟩
  | some t =>
    obtain ⟨rfl, ht⟩ := tIx_some et
    obtain ⟨e, he⟩ : ∃ e, y.2.2.2[t]? = some e := ⟨_, List.getElem?_eq_getElem ht⟩
    obtain ⟨μ1, a1, a2, a3⟩ := k_fewestPulls (j := 0) (by omega) h hg he
    dsimp only
    rw [if_pos (show (some t).isSome = true from rfl), if_neg n10, he, a1, q_bd]
    dsimp only
    exact ⟨μ1, by cases fpS y e.2 <;> rfl, a2⟩
theorem k_straight {nt : Nat} {a : Int32} {y : yT} {μ : mT} (h : cY μ 0 y) (hg : gN y nt) :
    ∃ μ', f_X7_straight a μ = some (qStr y a, μ') ∧ only μ μ' (Yd 1) := by
  unfold f_X7_straight qStr
  rw [k_has h.2.2.2 hg.1.2.2.2.2.1, q_bd]
  cases et : tIx y.2.2.2.length a with
  | none => exact ⟨μ, rfl, only.rf⟩
  | some t =>
    obtain ⟨rfl, ht⟩ := tIx_some et
    obtain ⟨e, he⟩ : ∃ e, y.2.2.2[t]? = some e := ⟨_, List.getElem?_eq_getElem ht⟩
    obtain ⟨μ1, a1, a2, a3⟩ := k_fewestPulls (j := 0) (by omega) h hg he
    dsimp only
    rw [if_pos (show (some t).isSome = true from rfl), if_neg n10, he, a1, q_bd]
    dsimp only
    refine ⟨μ1, ?_, a2⟩
    cases ef : fpS y e.2 with
    | none => rfl
    | some ps =>
      dsimp only
      rw [if_neg (q_n6 (by have := layC_len (fpS_lay ef); omega))]
theorem ob_cases (m t : Int32) (b : Int32 × Int32) : ob m t b = t ∨ (t < ob m t b ∧ ob m t b = b.2) := by
  unfold ob
  by_cases c : t + m ≤ b.1
  · rw [if_pos c]; exact Or.inl rfl
  · rw [if_neg c]
    by_cases c2 : b.2 ≤ t
    · rw [if_pos c2]; exact Or.inl rfl
    · rw [if_neg c2]; exact Or.inr ⟨Int32.not_le.mp c2, rfl⟩
theorem pas_cases (m : Int32) : ∀ (bl : List (Int32 × Int32)) (t : Int32), pas m t bl = t ∨ (t < pas m t bl ∧ ∃ b ∈ bl, pas m t bl = b.2)
  | [], t => Or.inl rfl
  | b :: bl, t => by
    have e : pas m t (b :: bl) = pas m (ob m t b) bl := rfl
    rw [e]
    rcases ob_cases m t b with h | ⟨h1, h2⟩
    · rw [h]
      rcases pas_cases m bl t with q | ⟨q1, b', q2, q3⟩
      · exact Or.inl q
      · exact Or.inr ⟨q1, b', List.mem_cons_of_mem _ q2, q3⟩
    · rcases pas_cases m bl (ob m t b) with q | ⟨q1, b', q2, q3⟩
      · rw [q]
        exact Or.inr ⟨h1, b, List.mem_cons_self, h2⟩
      · exact Or.inr ⟨Int32.lt_trans h1 q1, b', List.mem_cons_of_mem _ q2, q3⟩
theorem pas_ge (m : Int32) (bl : List (Int32 × Int32)) (t : Int32) : t ≤ pas m t bl := by
  rcases pas_cases m bl t with h | ⟨h, -⟩
  · rw [h]; exact Int32.le_refl t
  · exact Int32.le_of_lt h
theorem pasN_stab {m : Int32} {bl : List (Int32 × Int32)} : ∀ (d : Nat) (t : Int32), aliv bl t ≤ d → ∀ n, d ≤ n → pasN m bl n t = pasN m bl d t
  | 0, t, h, n, hn => by
    rcases pas_cases m bl t with q | ⟨q1, q2⟩
    · rw [pasN_fix q n]; rfl
    · have := aliv_lt q1 bl q2
      omega
  | d + 1, t, h, n, hn => by
    obtain ⟨n, rfl⟩ : ∃ n', n = n' + 1 := ⟨n - 1, by omega⟩
    rcases pas_cases m bl t with q | ⟨q1, q2⟩
    · rw [pasN_fix q, pasN_fix q]
    · have := aliv_lt q1 bl q2
      show pasN m bl n (pas m t bl) = pasN m bl d (pas m t bl)
      exact pasN_stab d _ (by omega) n (by omega)
theorem ob_le {m t : Int32} {b : Int32 × Int32} (h : b.2 ≤ t) : ob m t b = t := by
  unfold ob
  rw [if_pos h]
  split <;> rfl
theorem ob_ge (m t : Int32) (b : Int32 × Int32) : t ≤ ob m t b := by
  rcases ob_cases m t b with h | ⟨h, -⟩
  · rw [h]; exact Int32.le_refl t
  · exact Int32.le_of_lt h
theorem pas_filter {m t0 : Int32} {p : Int32 × Int32 → Bool} : ∀ (bl : List (Int32 × Int32)) (t : Int32), (∀ b ∈ bl, p b = false → b.2 ≤ t0) → t0 ≤ t → pas m t (bl.filter p) = pas m t bl
  | [], t, _, _ => rfl
  | b :: bl, t, h, ht => by
    have e : pas m t (b :: bl) = pas m (ob m t b) bl := rfl
    rw [e]
    cases hb : p b with
    | true =>
      rw [List.filter_cons_of_pos hb]
      show pas m (ob m t b) (bl.filter p) = _
      exact pas_filter bl _ (fun b' q => h b' (List.mem_cons_of_mem _ q)) (Int32.le_trans ht (ob_ge m t b))
    | false =>
      rw [List.filter_cons_of_neg (by rw [hb]; decide), ob_le (Int32.le_trans (h b List.mem_cons_self hb) ht)]
      exact pas_filter bl t (fun b' q => h b' (List.mem_cons_of_mem _ q)) ht
theorem pasN_filter {m t0 : Int32} {p : Int32 × Int32 → Bool} {bl : List (Int32 × Int32)} (h : ∀ b ∈ bl, p b = false → b.2 ≤ t0) : ∀ (n : Nat) (t : Int32), t0 ≤ t → pasN m (bl.filter p) n t = pasN m bl n t
  | 0, _, _ => rfl
  | n + 1, t, ht => by
    show pasN m (bl.filter p) n (pas m t (bl.filter p)) = pasN m bl n (pas m t bl)
    rw [pas_filter bl t h ht]
    exact pasN_filter h n _ (Int32.le_trans ht (pas_ge m bl t))
theorem free_filter {m t0 t : Int32} {p : Int32 × Int32 → Bool} {bl : List (Int32 × Int32)} (h : ∀ b ∈ bl, p b = false → b.2 ≤ t0) (ht : t0 ≤ t) : free m (bl.filter p) t = free m bl t := by
  unfold free
  have h1 : aliv (bl.filter p) t ≤ (bl.filter p).length := List.countP_le_length
  rw [← pasN_stab (m := m) (bl := bl.filter p) (bl.filter p).length t h1 bl.length (List.length_filter_le _ _)]
  exact pasN_filter h _ t ht
theorem pas_bd {m : Int32} {B : Nat} (hB : B < 2147483648) {bl : List (Int32 × Int32)} (h : ∀ b ∈ bl, ∃ e, e ≤ B ∧ b.2 = nI e) {T : Nat} (hT : T ≤ B) : ∃ T', T ≤ T' ∧ T' ≤ B ∧ pas m (nI T) bl = nI T' := by
  rcases pas_cases m bl (nI T) with q | ⟨q1, b, q2, q3⟩
  · exact ⟨T, Nat.le_refl _, hT, q⟩
  · obtain ⟨e, e1, e2⟩ := h b q2
    rw [q3, e2, nI_ltI (by omega) (by omega)] at q1
    exact ⟨e, by omega, e1, by rw [q3, e2]⟩
theorem pasN_bd {m : Int32} {B : Nat} (hB : B < 2147483648) {bl : List (Int32 × Int32)} (h : ∀ b ∈ bl, ∃ e, e ≤ B ∧ b.2 = nI e) : ∀ (n T : Nat), T ≤ B → ∃ T', T ≤ T' ∧ T' ≤ B ∧ pasN m bl n (nI T) = nI T'
  | 0, T, hT => ⟨T, Nat.le_refl _, hT, rfl⟩
  | n + 1, T, hT => by
    obtain ⟨T1, a1, a2, a3⟩ := pas_bd (m := m) hB h hT
    obtain ⟨T2, b1, b2, b3⟩ := pasN_bd (m := m) hB h n T1 a2
    refine ⟨T2, by omega, b2, ?_⟩
    show pasN m bl n (pas m (nI T) bl) = _
    rw [a3, b3]
theorem free_bd {m : Int32} {B : Nat} (hB : B < 2147483648) {bl : List (Int32 × Int32)} (h : ∀ b ∈ bl, ∃ e, e ≤ B ∧ b.2 = nI e) {T : Nat} (hT : T ≤ B) : ∃ T', T ≤ T' ∧ T' ≤ B ∧ free m bl (nI T) = nI T' := pasN_bd hB h _ T hT
def wl (rw0 : Nat → List Nat) (bl : List (Int32 × Int32)) (s2 s3 : Int32) : (Nat → Nat) → Int32 → List (Nat × Nat) → Int32
  | _, t, [] => t
  | k, t, p :: ps => wl rw0 bl s2 s3 (fun r => if r = p.1 then k p.1 + p.2 else k r) (free (s2 + s3 * (if (rw0 p.1).length ≤ k p.1 + p.2 then 1 else 2)) bl t + (s2 + s3 * (if (rw0 p.1).length ≤ k p.1 + p.2 then 1 else 2))) ps
theorem sDraw_s {y : yT} {t n k : Nat} (hk : k ≠ 6 ∧ k ≠ 14 ∧ k ≠ 15 ∧ k ≠ 16) : (sDraw y t n).1 0 k = y.1 0 k := by
  unfold sDraw mvm ctm dO nP
  dsimp only
  rw [sU_n (by omega), sU_n (by omega), sU_n (by omega), sU_n (by omega), sU_n (by omega), if_neg (by omega)]
theorem drS_wl {rw0 : Nat → List Nat} {bl : List (Int32 × Int32)} {a2 a3 B0 : Nat} (h2 : a2 ≤ 1000) (h3 : a3 ≤ 1000) (hbl : ∀ b ∈ bl, ∃ e, e ≤ B0 ∧ b.2 = nI e) : ∀ (ps : List (Nat × Nat)) (y : yT) (k : Nat → Nat) (T Bc : Nat) (p : Int32 × Int32 → Bool), y.1 0 2 = nI a2 → y.1 0 3 = nI a3 → y.1 0 6 = nI T → B0 ≤ Bc → T ≤ Bc → Bc + 3000 * ps.length < 2000000000 → y.2.2.1 = bl.filter p → (∀ b ∈ bl, p b = false → b.2 ≤ nI T) → (∀ r, r < 8 → y.2.1 r = (rw0 r).drop (k r)) → (∀ q ∈ ps, q.1 < 8) →
    (drS y ps).1 0 6 = wl rw0 bl (nI a2) (nI a3) k (nI T) ps
  | [], y, k, T, Bc, p, e2, e3, e6, hc, hT, hb, hbf, hp, hr, h8 => e6
  | q :: ps, y, k, T, Bc, p, e2, e3, e6, hc, hT, hb, hbf, hp, hr, h8 => by
    have hq8 := h8 q List.mem_cons_self
    show (drS (sDraw y q.1 q.2) ps).1 0 6 = _
    rw [List.length_cons] at hb
    have hj : jD y q.1 q.2 = if (rw0 q.1).length ≤ k q.1 + q.2 then 1 else 2 := by
      unfold jD
      rw [hr q.1 hq8, List.length_drop]
      by_cases c : (rw0 q.1).length ≤ k q.1 + q.2
      · rw [if_pos c, if_pos (by omega)]
      · rw [if_neg c, if_neg (by omega)]
    obtain ⟨M, hM, hM1, hM2⟩ : ∃ M, M ≤ 3000 ∧ nI a2 + nI a3 * (if (rw0 q.1).length ≤ k q.1 + q.2 then 1 else 2) = nI M ∧ mvw (dO y q.1 q.2) (y.1 0 2) (jD y q.1 q.2) = nI M := by
      have e3' : (dO y q.1 q.2).1 0 3 = nI a3 := by
        unfold dO nP
        dsimp only
        rw [sU_n (by omega), if_neg (by omega)]
        exact e3
      unfold mvw
      rw [hj, e2, e3']
      by_cases c : (rw0 q.1).length ≤ k q.1 + q.2
      · rw [if_pos c]
        exact ⟨a2 + a3 * 1, by omega, by rw [z_l1, q_mul, q_add], by rw [z_l1, q_mul, q_add, Nat.mul_comm]⟩
      · rw [if_neg c]
        exact ⟨a2 + a3 * 2, by omega, by rw [z_l2, q_mul, q_add], by rw [z_l2, q_mul, q_add, Nat.mul_comm]⟩
    have e6' : (dO y q.1 q.2).1 0 6 = nI T := by
      unfold dO nP
      dsimp only
      rw [sU_n (by omega), if_neg (by omega)]
      exact e6
    obtain ⟨T2, t1, t2, t3⟩ := free_bd (m := nI M) (B := Bc) (by omega) (bl := bl) (fun b hb' => by
      obtain ⟨e, a, b'⟩ := hbl b hb'
      exact ⟨e, by omega, b'⟩) hT
    have hmvf : mvf (dO y q.1 q.2) (y.1 0 2) (jD y q.1 q.2) = nI T2 := by
      unfold mvf
      rw [hM2, e6']
      show free (nI M) y.2.2.1 (nI T) = _
      rw [hbf, free_filter hp (Int32.le_refl _), t3]
    have hmin : (sDraw y q.1 q.2).1 0 6 = nI (T2 + M) := by
      unfold sDraw mvm ctm
      dsimp only
      rw [sU_s, hmvf, hM2, q_add]
    have hbl' : (sDraw y q.1 q.2).2.2.1 = bl.filter (fun b => kp (nI (T2 + M)) b && p b) := by
      unfold sDraw mvm ctm
      dsimp only
      rw [hmvf, hM2, q_add]
      show y.2.2.1.filter _ = _
      rw [hbf, List.filter_filter]
    rw [drS_wl (rw0 := rw0) h2 h3 hbl ps (sDraw y q.1 q.2) (fun r => if r = q.1 then k q.1 + q.2 else k r) (T2 + M) (Bc + 3000) _ (by rw [sDraw_s (by omega)]; exact e2) (by rw [sDraw_s (by omega)]; exact e3) hmin (by omega) (by omega) (by omega) hbl' (fun b hb' hpb => by
      rw [Bool.and_eq_false_iff] at hpb
      rcases hpb with z | z
      · unfold kp at z
        simp at z
        exact z
      · exact Int32.le_trans (hp b hb' z) (nI_le (by omega) (by omega))) (fun r hr8 => by
      show rwD y.2.1 q.1 q.2 r = _
      unfold rwD
      by_cases c : r = q.1
      · rw [if_pos c, if_pos c, hr q.1 hq8, List.drop_drop, c]
      · rw [if_neg c, if_neg c, if_neg (by omega), hr r hr8]) (fun q' hq' => h8 q' (List.mem_cons_of_mem _ hq'))]
    show _ = wl rw0 bl (nI a2) (nI a3) _ (free (nI a2 + nI a3 * (if (rw0 q.1).length ≤ k q.1 + q.2 then 1 else 2)) bl (nI T) + (nI a2 + nI a3 * (if (rw0 q.1).length ≤ k q.1 + q.2 then 1 else 2))) ps
    rw [hM1, t3, q_add]
def qWou (y : yT) (a : Int32) : Int32 := match tIx y.2.2.2.length a with
  | none => -1
  | some t => match y.2.2.2[t]? with
    | none => -1
    | some e => match fpS y e.2 with
      | none => -6
      | some ps => (drS y ps).1 0 6
theorem k_wouldLeave {nt nw tm B : Nat} {a : Int32} {y : yT} {μ : mT} (h : cY μ 0 y) (hi : iY y nt nw tm B) :
    ∃ μ', f_X7_wouldLeave a μ = some (qWou y a, μ') ∧ only μ μ' (Yd 1) := by
  have hg := hi.gn
  unfold f_X7_wouldLeave qWou
  rw [k_has h.2.2.2 hg.1.2.2.2.2.1, q_bd]
  cases et : tIx y.2.2.2.length a with
  | none => exact ⟨μ, rfl, only.rf⟩
  | some t =>
    obtain ⟨rfl, ht⟩ := tIx_some et
    obtain ⟨e, he⟩ : ∃ e, y.2.2.2[t]? = some e := ⟨_, List.getElem?_eq_getElem ht⟩
    obtain ⟨μ1, a1, a2, a3⟩ := k_fewestPulls (j := 0) (by omega) h hg he
    dsimp only
    rw [if_pos (show (some t).isSome = true from rfl), if_neg n10, he, a1, q_bd]
    dsimp only
    refine ⟨μ1, ?_, a2⟩
    cases ef : fpS y e.2 with
    | none => rfl
    | some ps =>
      dsimp only
      rw [if_neg (q_n6 (by have := layC_len (fpS_lay ef); omega)), (a3 ps ef).1.minute]
def hS (μ : mT) (σ : Nat → Nat) : Prop := (∀ i, i < 7 → μ 22 0 i = nI (σ i) ∧ 2 ≤ σ i ∧ σ i ≤ 8) ∧ ∀ i i', i < 7 → i' < 7 → σ i = σ i' → i = i'
def hC (μ : mT) (hp : hT) : Prop := μ 19 0 0 = nI hp.1 ∧ hp.1 ≤ 6 ∧ ∃ σ : Nat → Nat, hS μ σ ∧ ∀ i, i < hp.1 → cY μ (σ i) (hp.2 i)
def hN (μ : mT) (hp : hT) (y : yT) : Prop := μ 19 0 0 = nI hp.1 ∧ hp.1 ≤ 6 ∧ ∃ σ : Nat → Nat, hS μ σ ∧ (∀ i, i < hp.1 → cY μ (σ i) (hp.2 i)) ∧ cY μ (σ hp.1) y
def Hy : Nat → Nat → Prop := fun κ j => κ < 18 ∧ 2 ≤ j ∧ j ≤ 8
theorem cY.o {μ μ' : mT} {j : Nat} {y : yT} (h : cY μ j y) (e : ∀ κ, κ < 18 → μ' κ j = μ κ j) : cY μ' j y := by
  refine ⟨?_, h.2.1.cong (e _ (by omega)) (e _ (by omega)), h.2.2.1.cong (e _ (by omega)) (e _ (by omega)) (e _ (by omega)), h.2.2.2.cong (e _ (by omega)) (e _ (by omega)) (e _ (by omega)) (e _ (by omega))⟩
  intro a k hd hk
  rw [e _ (by unfold cκ; unfold sdom at hd; grind)]
  exact h.1 a k hd hk
theorem hN.o {μ μ' : mT} {hp : hT} {y : yT} {S : Nat → Nat → Prop} (h : hN μ hp y) (ho : only μ μ' S) (hS' : ∀ κ j, S κ j → ¬ (κ < 18 ∧ 2 ≤ j ∧ j ≤ 8) ∧ ¬ (κ = 19 ∧ j = 0) ∧ ¬ (κ = 22 ∧ j = 0)) : hN μ' hp y := by
  obtain ⟨h1, h2, σ, ⟨s1, s2⟩, s3, s4⟩ := h
  have hc : ∀ i y', i < 7 → cY μ (σ i) y' → cY μ' (σ i) y' := fun i y' hi c => c.o (fun κ hκ => ho κ (σ i) (fun z => (hS' _ _ z).1 ⟨hκ, (s1 i hi).2.1, (s1 i hi).2.2⟩))
  refine ⟨by rw [ho 19 0 (fun z => (hS' _ _ z).2.1 ⟨rfl, rfl⟩)]; exact h1, h2, σ, ⟨fun i hi => by rw [ho 22 0 (fun z => (hS' _ _ z).2.2 ⟨rfl, rfl⟩)]; exact s1 i hi, s2⟩, fun i hi => hc i _ (by omega) (s3 i hi), hc _ _ (by omega) s4⟩
theorem hC.o {μ μ' : mT} {hp : hT} {S : Nat → Nat → Prop} (h : hC μ hp) (ho : only μ μ' S) (hS' : ∀ κ j, S κ j → ¬ (κ < 18 ∧ 2 ≤ j ∧ j ≤ 8) ∧ ¬ (κ = 19 ∧ j = 0) ∧ ¬ (κ = 22 ∧ j = 0)) : hC μ' hp := by
  obtain ⟨h1, h2, σ, ⟨s1, s2⟩, s3⟩ := h
  have hc : ∀ i y', i < 7 → cY μ (σ i) y' → cY μ' (σ i) y' := fun i y' hi c => c.o (fun κ hκ => ho κ (σ i) (fun z => (hS' _ _ z).1 ⟨hκ, (s1 i hi).2.1, (s1 i hi).2.2⟩))
  exact ⟨by rw [ho 19 0 (fun z => (hS' _ _ z).2.1 ⟨rfl, rfl⟩)]; exact h1, h2, σ, ⟨fun i hi => by rw [ho 22 0 (fun z => (hS' _ _ z).2.2 ⟨rfl, rfl⟩)]; exact s1 i hi, s2⟩, fun i hi => hc i _ (by omega) (s3 i hi)⟩
theorem k_hnote {μ : mT} {hp : hT} {y : yT} (h : hC μ hp) (hy : cY μ 0 y) (hg : gY y) :
    ∃ μ', f_X1_note 0 μ = some (0, μ') ∧ hN μ' hp y ∧ cY μ' 0 y ∧ only μ μ' Hy := by
  obtain ⟨h1, h2, σ, ⟨s1, s2⟩, s3⟩ := h
  obtain ⟨e1, e2, e3⟩ := s1 hp.1 (by omega)
  obtain ⟨μ', a1, a2, a3⟩ := k_copy (j := σ hp.1) (j2 := 0) (by omega) hy hg
  unfold f_X1_note
  rw [h1, q_gdi (by omega) (by omega), q_cl (by omega), e1, q_cl (by omega), q_lt, q_gd (by rw [decide_eq_true_eq]; omega), a1, q_bd]
  refine ⟨μ', rfl, ⟨?_, h2, σ, ⟨fun i hi => ?_, s2⟩, fun i hi => (s3 i hi).o (fun κ hκ => a3 κ _ (fun z => ?_)), a2⟩, hy.o (fun κ hκ => a3 κ _ (fun z => ?_)), a3.w ?_⟩
  · rw [a3 19 0 (by unfold Yd; omega)]; exact h1
  · rw [a3 22 0 (by unfold Yd; omega)]; exact s1 i hi
  · have := s2 i hp.1 (by omega) (by omega) z.2
    omega
  · have := z.2
    omega
  · unfold Yd Hy
    omega
theorem k_drop9 {σ : Nat → Nat} {jj : Nat} (hσ : ∀ i, i < 7 → 2 ≤ σ i ∧ σ i ≤ 8) : ∀ (d f i : Nat) (μ : mT), i + d = 6 → d < f → (∀ x, x < 7 → μ 22 0 x = nI (if x < i then σ (x + 1) else σ x)) →
    ∃ μ', (∀ K, f_X1_dropOldest_L9 jj K f (nI i) μ = K μ') ∧ (∀ x, x < 7 → μ' 22 0 x = nI (if x < 6 then σ (x + 1) else σ x)) ∧ only μ μ' (fun κ j => κ = 22 ∧ j = 0) := by
  intro d
  induction d with
  | zero =>
    intro f i μ hi hf hx
    obtain ⟨f, rfl⟩ : ∃ n', f = n' + 1 := ⟨f - 1, by omega⟩
    refine ⟨μ, fun K => ?_, ?_, only.rf⟩
    · rw [f_X1_dropOldest_L9, z_l6, if_pos (nI_le (by omega) (by omega))]
    · rw [show 6 = i by omega]; exact hx
  | succ d ih =>
    intro f i μ hi hf hx
    obtain ⟨f, rfl⟩ : ∃ n', f = n' + 1 := ⟨f - 1, by omega⟩
    have e1 : (nI i + 1 : Int32) = nI (i + 1) := nI_1 i
    have es := hσ (i + 1) (by omega)
    have ex : μ 22 0 (i + 1) = nI (σ (i + 1)) := by rw [hx (i + 1) (by omega), if_neg (by omega)]
    obtain ⟨μ', g1, g2, g3⟩ := ih f (i + 1) (upM μ 22 0 i (nI (σ (i + 1)))) (by omega) (by omega) (fun x hx7 => by
      rw [q_up]
      by_cases c : x = i
      · rw [if_pos ⟨rfl, rfl, c⟩, if_pos (by omega), c]
      · rw [if_neg (fun z => c z.2.2), hx x hx7]
        by_cases c2 : x < i
        · rw [if_pos c2, if_pos (by omega)]
        · rw [if_neg c2, if_neg (by omega)])
    refine ⟨μ', fun K => ?_, g2, (q_uple rfl).tr g3⟩
    rw [f_X1_dropOldest_L9, z_l6, if_neg (nI_ge (by omega) (by omega)), e1, q_gdi (by omega) (by omega), q_cl (by omega), ex, q_cl (by omega), q_lt, q_gd (by rw [decide_eq_true_eq]; omega), q_gdi (by omega) (by omega), q_cl (by omega), q_lt, q_lt]
    exact g1 K
theorem k_kept {μ : mT} {hp : hT} {y : yT} {a : Int32} (h : hN μ hp y) :
    ∃ μ', f_X1_kept a μ = some (a, μ') ∧ hC μ' (if a < 0 then hp else pH hp y) ∧ only μ μ' (fun κ j => (κ = 19 ∨ κ = 22) ∧ j = 0) := by
  obtain ⟨h1, h2, σ, ⟨s1, s2⟩, s3, s4⟩ := h
  unfold f_X1_kept
  by_cases c : a < 0
  · rw [if_neg (Int32.not_le.mpr c), if_pos c]
    exact ⟨μ, rfl, ⟨h1, h2, σ, ⟨s1, s2⟩, s3⟩, only.rf⟩
  rw [if_pos (Int32.not_lt.mp c), if_neg c, h1, z_l6]
  unfold pH
  by_cases c6 : hp.1 < 6
  · rw [if_neg (nI_ge c6 (by omega)), if_pos c6, show (nI hp.1 + 1 : Int32) = nI (hp.1 + 1) from nI_1 _, q_lt]
    have ho : only μ (upM μ 19 0 0 (nI (hp.1 + 1))) (fun κ j => κ = 19 ∧ j = 0) := q_uple rfl
    refine ⟨_, rfl, ⟨by rw [q_up, if_pos ⟨rfl, rfl, rfl⟩], by dsimp only; omega, σ, ⟨fun i hi => by rw [ho 22 0 (by omega)]; exact s1 i hi, s2⟩, fun i hi => ?_⟩, ho.w (by omega)⟩
    dsimp only at hi ⊢
    by_cases ci : i = hp.1
    · rw [if_pos ci, ci]
      exact s4.o (fun κ hκ => ho κ _ (by omega))
    · rw [if_neg ci]
      exact (s3 i (by omega)).o (fun κ hκ => ho κ _ (by omega))
  · have h6 : hp.1 = 6 := by omega
    rw [if_pos (nI_le (by omega) (by omega)), if_neg c6]
    unfold f_X1_dropOldest
    have e0 := s1 0 (by omega)
    have e0' : μ 22 0 (0 : Int32).toNatClampNeg = nI (σ 0) := e0.1
    obtain ⟨μ1, a1, a2, a3⟩ := k_drop9 (jj := σ 0) (fun i hi => (s1 i hi).2) 6 fu 0 μ (by omega) (by unfold fu; omega) (fun x hx => by rw [if_neg (by omega)]; exact (s1 x hx).1)
    rw [← z_l0] at a1
    rw [e0', q_cl (by omega), q_lt, q_gd (by rw [decide_eq_true_eq]; omega), q_lt, a1, q_lt, q_bd]
    have ho : only μ (upM μ1 22 0 (6 : Int32).toNatClampNeg (nI (σ 0))) (fun κ j => κ = 22 ∧ j = 0) := a3.tr (q_uple rfl)
    refine ⟨_, rfl, ⟨by dsimp only; rw [ho 19 0 (by omega), h1, h6], Nat.le_refl 6, fun i => if i = 6 then σ 0 else σ (i + 1), ⟨fun i hi => ?_, fun i i' hi hi' e => ?_⟩, fun i hi => ?_⟩, ho.w (by omega)⟩
    · have e6 : (6 : Int32).toNatClampNeg = 6 := rfl
      dsimp only
      rw [q_up, e6]
      by_cases ci : i = 6
      · rw [if_pos ⟨rfl, rfl, ci⟩, if_pos ci]
        exact ⟨rfl, e0.2⟩
      · rw [if_neg (fun z => ci z.2.2), if_neg ci, a2 i hi, if_pos (by omega)]
        exact ⟨rfl, (s1 (i + 1) (by omega)).2⟩
    · dsimp only at e
      by_cases ci : i = 6
      · by_cases ci' : i' = 6
        · omega
        · rw [if_pos ci, if_neg ci'] at e
          have := s2 0 (i' + 1) (by omega) (by omega) e
          omega
      · by_cases ci' : i' = 6
        · rw [if_neg ci, if_pos ci'] at e
          have := s2 (i + 1) 0 (by omega) (by omega) e
          omega
        · rw [if_neg ci, if_neg ci'] at e
          have := s2 (i + 1) (i' + 1) (by omega) (by omega) e
          omega
    · dsimp only at hi ⊢
      rw [if_neg (by omega)]
      by_cases c5 : i = 5
      · rw [if_pos c5, c5]
        rw [h6] at s4
        exact s4.o (fun κ hκ => ho κ _ (by omega))
      · rw [if_neg c5]
        exact (s3 (i + 1) (by omega)).o (fun κ hκ => ho κ _ (by omega))
def Kc : Nat → Nat → Prop := fun κ j => (κ < 18 ∧ (j = 0 ∨ (2 ≤ j ∧ j ≤ 8))) ∨ ((κ = 19 ∨ κ = 22 ∨ κ = 26) ∧ j = 0)
def CR (μ : mT) (y : yT) (hp : hT) (r : Int32 × yT) (o : Option (Int32 × mT)) : Prop :=
  ∃ μ', o = some (r.1, μ') ∧ cY μ' 0 r.2 ∧ hC μ' (if r.1 < 0 then hp else pH hp y) ∧ only μ μ' Kc
theorem k_do {μ : mT} {hp : hT} {y : yT} {r : Int32 × yT} {fop : mT → Option (Int32 × mT)} (h : hC μ hp) (hy : cY μ 0 y) (hg : gY y) (hop : ∀ μ, cY μ 0 y → ∃ μ', fop μ = some (r.1, μ') ∧ cY μ' 0 r.2 ∧ only μ μ' (fun κ j => (κ < 18 ∨ κ = 26) ∧ j = 0)) :
    CR μ y hp r (bd (f_X1_note 0 μ) (fun _ μ2 => bd (fop μ2) (fun v3 μ4 => bd (f_X1_kept v3 μ4) (fun v5 μ6 => some (v5, μ6))))) := by
  obtain ⟨μ1, a1, a2, a3, a4⟩ := k_hnote h hy hg
  obtain ⟨μ2, b1, b2, b3⟩ := hop μ1 a3
  obtain ⟨μ3, c1, c2, c3⟩ := k_kept (a := r.1) (a2.o b3 (fun κ j z => by omega))
  refine ⟨μ3, ?_, b2.o (fun κ hκ => c3 κ 0 (by omega)), c2, (a4.w (by unfold Hy Kc; omega)).tr ((b3.w (by unfold Kc; omega)).tr (c3.w (by unfold Kc; omega)))⟩
  rw [a1, q_bd, b1, q_bd, c1, q_bd]
theorem bd_assoc {α : Type} {o : Option (Int32 × mT)} {f : Int32 → mT → Option (Int32 × mT)} {g : Int32 → mT → Option α} : bd (bd o f) g = bd o (fun r μ => bd (f r μ) g) := by
  cases o with
  | none => rfl
  | some p => rfl
section TOP
variable {μ : mT} {hp : hT} {y : yT} {nt nw tm B : Nat} {a b : Int32}
theorem wYd {μ μ' : mT} (h : only μ μ' (Yd 0)) : only μ μ' (fun κ j => (κ < 18 ∨ κ = 26) ∧ j = 0) := h.w (by unfold Yd; omega)
theorem kt_set (h : hC μ hp) (hy : cY μ 0 y) (hi : iY y nt nw tm B) : CR μ y hp (sSet y a b) (f_X7_set a b μ) :=
  k_do h hy hi.g (fop := fun μ => f_X6_changeSetting 0 a b μ) (fun μ hy => by
    obtain ⟨μ', q1, q2, q3⟩ := k_changeSetting (a := a) (b := b) hy hi
    exact ⟨μ', q1, q2, wYd q3⟩)
theorem kt_track (h : hC μ hp) (hy : cY μ 0 y) (hi : iY y nt nw tm B) : CR μ y hp (sTrack y a) (f_X7_track a μ) :=
  k_do h hy hi.g (fop := fun μ => f_X6_addTrack 0 a μ) (fun μ hy => by
    obtain ⟨μ', q1, q2, q3⟩ := k_addTrack (a := a) hy hi
    exact ⟨μ', q1, q2, wYd q3⟩)
theorem kt_wagon (h : hC μ hp) (hy : cY μ 0 y) (hi : iY y nt nw tm B) : CR μ y hp (sWagon y a b) (f_X7_wagon a b μ) :=
  k_do h hy hi.g (fop := fun μ => f_X6_addWagon 0 a b μ) (fun μ hy => by
    obtain ⟨μ', q1, q2, q3⟩ := k_addWagon (a := a) (b := b) hy hi
    exact ⟨μ', q1, q2, wYd q3⟩)
theorem kt_block (h : hC μ hp) (hy : cY μ 0 y) (hi : iY y nt nw tm B) : CR μ y hp (sBlock y a b) (f_X7_block a b μ) :=
  k_do h hy hi.g (fop := fun μ => f_X6_addBlock 0 a b μ) (fun μ hy => by
    obtain ⟨μ', q1, q2, q3⟩ := k_addBlock (a := a) (b := b) hy hi
    exact ⟨μ', q1, q2, wYd q3⟩)
theorem kt_pull (h : hC μ hp) (hy : cY μ 0 y) (hi : iY y nt nw tm B) : CR μ y hp (sPull y a b) (f_X7_pull a b μ) :=
  k_do h hy hi.g (fop := fun μ => f_X6_takeOut 0 a b μ) (fun μ hy => by
    obtain ⟨μ', q1, q2, q3⟩ := k_takeOut (a := a) (b := b) hy hi
    exact ⟨μ', q1, q2, wYd q3⟩)
theorem kt_push (h : hC μ hp) (hy : cY μ 0 y) (hi : iY y nt nw tm B) : CR μ y hp (sPush y a b) (f_X7_push a b μ) :=
  k_do h hy hi.g (fop := fun μ => f_X6_bringIn 0 a b μ) (fun μ hy => by
    obtain ⟨μ', q1, q2, q3⟩ := k_bringIn (a := a) (b := b) hy hi
    exact ⟨μ', q1, q2, wYd q3⟩)
theorem kt_round (h : hC μ hp) (hy : cY μ 0 y) (hi : iY y nt nw tm B) : CR μ y hp (sRound y) (f_X7_round μ) :=
  k_do h hy hi.g (fop := fun μ => f_X6_goRound 0 μ) (fun μ hy => by
    obtain ⟨μ', q1, q2, q3⟩ := k_goRound hy hi
    exact ⟨μ', q1, q2, wYd q3⟩)
theorem kt_pass (h : hC μ hp) (hy : cY μ 0 y) (hi : iY y nt nw tm B) : CR μ y hp (sPass y a) (f_X7_pass a μ) :=
  k_do h hy hi.g (fop := fun μ => f_X6_letPass 0 a μ) (fun μ hy => by
    obtain ⟨μ', q1, q2, q3⟩ := k_letPass (a := a) hy hi
    exact ⟨μ', q1, q2, wYd q3⟩)
theorem kt_leave (h : hC μ hp) (hy : cY μ 0 y) (hi : iY y nt nw tm B) : CR μ y hp (sLeave y a) (f_X7_leave a μ) :=
  k_do h hy hi.g (fop := fun μ => f_X6_letLeave 0 a μ) (fun μ hy => by
    obtain ⟨μ', q1, q2, q3⟩ := k_letLeave (a := a) hy hi
    exact ⟨μ', q1, q2, wYd q3⟩)
theorem kt_train {x : Int64} (h : hC μ hp) (hy : cY μ 0 y) (hi : iY y nt nw tm B) : CR μ y hp (sTrain y (tLs x) a) (f_X7_train x a μ) := by
  have := k_do (r := sTrain y (tLs x) a) h hy hi.g (fop := fun μ => bd (f_X7_readList x μ) (fun v3 μ4 => f_X6_addTrain 0 v3 a μ4)) (fun μ hy => by
    obtain ⟨μ1, p1, p2, p3⟩ := k_readList x μ
    have hy1 : cY μ1 0 y := hy.o (fun κ hκ => p3 κ 0 (by omega))
    obtain ⟨l8, l30⟩ := tLs_len x
    obtain ⟨μ', q1, q2, q3⟩ := k_addTrain (due := a) hy1 hi l8 l30 p2
    exact ⟨μ', by rw [p1, q_bd, q1], q2, (p3.w (by omega)).tr (wYd q3)⟩)
  unfold f_X7_train
  simp only [bd_assoc] at this
  exact this
end TOP
abbrev zT := Nat → Option yT
def zC (μ : mT) (zs : zT) : Prop := ∀ k, k < 2 → μ 23 0 k = nI (9 + k) ∧ (zs k = none → μ 24 0 k = 0) ∧ ∀ z, zs k = some z → μ 24 0 k = 1 ∧ cY μ (9 + k) z
def zM (μ : mT) (zs : zT) : Prop := ∀ k, k < 2 → (zs k = none → μ 33 0 k = 0) ∧ ∀ z, zs k = some z → μ 33 0 k = 1 ∧ mY (fun x => μ 32 0 (k * 560 + x)) z
theorem zC.o {μ μ' : mT} {zs : zT} {S : Nat → Nat → Prop} (h : zC μ zs) (ho : only μ μ' S) (hS : ∀ κ j, S κ j → ¬ (κ < 18 ∧ 9 ≤ j) ∧ ¬ ((κ = 23 ∨ κ = 24) ∧ j = 0)) : zC μ' zs := fun k hk => by
  obtain ⟨a, b, c⟩ := h k hk
  rw [ho 23 0 (fun z => (hS _ _ z).2 ⟨Or.inl rfl, rfl⟩), ho 24 0 (fun z => (hS _ _ z).2 ⟨Or.inr rfl, rfl⟩)]
  exact ⟨a, b, fun z hz => ⟨(c z hz).1, (c z hz).2.o (fun κ hκ => ho κ _ (fun z => (hS _ _ z).1 ⟨hκ, by omega⟩))⟩⟩
theorem zM.o {μ μ' : mT} {zs : zT} {S : Nat → Nat → Prop} (h : zM μ zs) (ho : only μ μ' S) (hS : ∀ κ j, S κ j → ¬ ((κ = 32 ∨ κ = 33) ∧ j = 0)) : zM μ' zs := fun k hk => by
  have := h k hk
  rw [ho 32 0 (fun z => hS _ _ z ⟨Or.inl rfl, rfl⟩), ho 33 0 (fun z => hS _ _ z ⟨Or.inr rfl, rfl⟩)]
  exact this
def pC (μ : mT) (tx : List Nat) : Prop := μ 21 0 0 = nI tx.length ∧ tx.length ≤ 80 ∧ ∀ i c, tx[i]? = some c → μ 25 0 i = nI c
noncomputable def qMov (y : yT) (nt : Nat) (a : Int32) : Int32 := match tIx y.2.2.2.length a with
  | none => -1
  | some t => match y.2.2.2[t]? with
    | none => -1
    | some e => mvS y nt e.2
theorem k_moves {nt : Nat} {a : Int32} {y : yT} {μ : mT} (h : cY μ 0 y) (hg : gN y nt) :
    ∃ μ', f_X7_moves a μ = some (qMov y nt a, μ') ∧ only μ μ' (Yd 1) := by
  unfold f_X7_moves qMov
  rw [k_has h.2.2.2 hg.1.2.2.2.2.1, q_bd]
  cases et : tIx y.2.2.2.length a with
  | none => exact ⟨μ, rfl, only.rf⟩
  | some t =>
    obtain ⟨rfl, ht⟩ := tIx_some et
    obtain ⟨e, he⟩ : ∃ e, y.2.2.2[t]? = some e := ⟨_, List.getElem?_eq_getElem ht⟩
    obtain ⟨μ1, a1, a2⟩ := k_fewestMoves (j := 0) (by omega) h hg he
    dsimp only
    rw [if_pos (show (some t).isSome = true from rfl), if_neg n10, he, a1, q_bd]
    exact ⟨μ1, rfl, a2⟩
def qCnt (y : yT) (n13 n14 : Nat) (a : Int32) : Int32 := if a = 13 then nI n13 else if a = 14 then nI n14 else qYard y a
theorem k_count {nt nw tm B : Nat} {a : Int32} {y : yT} {hp : hT} {tx : List Nat} {μ : mT} (h : cY μ 0 y) (hi : iY y nt nw tm B) (hh : hC μ hp) (hx : pC μ tx) : f_X7_count a μ = some (qCnt y tx.length hp.1 a, μ) := by
  unfold f_X7_count qCnt
  rw [hx.1, hh.1]
  by_cases c : a = 13
  · rw [if_pos c, if_pos c]
  rw [if_neg c, if_neg c]
  by_cases c : a = 14
  · rw [if_pos c, if_pos c]
  rw [if_neg c, if_neg c, k_aboutYard h hi, q_bd]
theorem k_ofTrack {nt nw tm B : Nat} {a b : Int32} {y : yT} {μ : mT} (h : cY μ 0 y) (hi : iY y nt nw tm B) : f_X7_ofTrack a b μ = some (qTrack y a b, μ) := by
  unfold f_X7_ofTrack
  rw [k_aboutTrack h hi, q_bd]
theorem k_ofWagon {nt nw tm B : Nat} {a b : Int32} {y : yT} {μ : mT} (h : cY μ 0 y) (hi : iY y nt nw tm B) : f_X7_ofWagon a b μ = some (qWagon y a b, μ) := by
  unfold f_X7_ofWagon
  rw [k_aboutWagon h hi, q_bd]
theorem k_ofTrain {nt nw tm B : Nat} {a b : Int32} {y : yT} {μ : mT} (h : cY μ 0 y) (hi : iY y nt nw tm B) : f_X7_ofTrain a b μ = some (qTrain y a b, μ) := by
  unfold f_X7_ofTrain
  rw [k_aboutTrain h hi, q_bd]
-- what the operations keep
theorem iY.up {y : yT} {nt nw tm B B' : Nat} (h : iY y nt nw tm B) (hb : B ≤ B') : iY y nt nw tm B' := by
  obtain ⟨⟨a1, a2, a3, a4, a5, a6⟩, b, c, d, e, f, g, k, ⟨l1, l2⟩, m, n⟩ := h
  refine ⟨⟨a1, a2, a3, a4, a5, by omega⟩, b, c, d, e, f, g, k, ⟨l1, fun x hx => ?_⟩, m, fun x hx => ?_⟩
  · obtain ⟨p, q, p1, p2, p3⟩ := l2 x hx
    exact ⟨p, q, by omega, by omega, p3⟩
  · obtain ⟨⟨p, p1, p2⟩, p3⟩ := n x hx
    exact ⟨⟨p, by omega, p2⟩, p3⟩
/-- only numbers that iY does not speak of are set -/
theorem iY.sc {y : yT} {nt nw tm B : Nat} (h : iY y nt nw tm B) {s : sT} (h0 : ∀ k, k ≤ 8 → s 0 k = y.1 0 k) (h5 : s 5 = y.1 5) : iY (s, y.2) nt nw tm B := by
  obtain ⟨⟨a1, a2, a3, a4, a5, a6⟩, b, c, d, e, f, g, k, l, m, n⟩ := h
  refine ⟨⟨(h0 7 (by omega)).trans a1, a2, (h0 8 (by omega)).trans a3, a4, (h0 6 (by omega)).trans a5, a6⟩, fun k hk => by
    obtain ⟨v, v1, v2⟩ := b k hk
    exact ⟨v, v1, (h0 k (by omega)).trans v2⟩, c, d, e, f, fun w hw r hr hm => ?_, fun w hw hm => ?_, l, m, n⟩
  · show s 5 w = -6
    rw [h5]; exact g w hw r hr hm
  · show 0 ≤ s 5 w
    rw [h5]; exact k w hw hm
/-- the minute grows, and blocks that are over go -/
theorem iY_ctm {y : yT} {nt nw tm B tm' : Nat} (h : iY y nt nw tm B) (hm : tm' ≤ B) : iY (ctm y (nI tm')) nt nw tm' B := by
  obtain ⟨⟨a1, a2, a3, a4, a5, a6⟩, b, c, d, e, f, g, k, ⟨l1, l2⟩, m, n⟩ := h
  have hs : ∀ a k, ¬ (a = 0 ∧ k = 6) → (ctm y (nI tm')).1 a k = y.1 a k := fun a k q => sU_n q
  refine ⟨⟨?_, a2, ?_, a4, ?_, hm⟩, fun k hk => ?_, c, d, e, f, fun w hw r hr hm => ?_, fun w hw hm => ?_, ⟨?_, fun x hx => l2 x ((List.mem_filter.mp hx).1)⟩, m, n⟩
  · exact (hs 0 7 (by omega)).trans a1
  · exact (hs 0 8 (by omega)).trans a3
  · exact sU_s (s := y.1) (a := 0) (k := 6) (x := nI tm')
  · obtain ⟨v, v1, v2⟩ := b k hk
    exact ⟨v, v1, (hs 0 k (by omega)).trans v2⟩
  · exact (hs 5 w (by omega)).trans (g w hw r hr hm)
  · rw [hs 5 w (by omega)]
    exact k w hw hm
  · exact Nat.le_trans (List.length_filter_le _ _) l1
theorem iY.bends {y : yT} {nt nw tm B : Nat} (h : iY y nt nw tm B) : ∀ b ∈ y.2.2.1, ∃ e, e ≤ B ∧ b.2 = nI e := fun b hb => by
  obtain ⟨x, e, p1, p2, p3⟩ := h.2.2.2.2.2.2.2.2.1.2 b hb
  exact ⟨e, p2, by rw [p3]⟩
def kY (y : yT) (B : Nat) : Prop := ∃ nt nw tm, iY y nt nw tm B
theorem kY.up {y : yT} {B B' : Nat} (h : kY y B) (hb : B ≤ B') : kY y B' := by
  obtain ⟨nt, nw, tm, h⟩ := h
  exact ⟨nt, nw, tm, h.up hb⟩
theorem iY_rows {y : yT} {nt nw tm B : Nat} (h : iY y nt nw tm B) {s : sT} {rw' : Nat → List Nat} (h0 : ∀ k, k ≤ 8 → s 0 k = y.1 0 k) (h5 : s 5 = y.1 5) (hg : gN (s, rw', y.2.2) nt) (hT : tot rw' = tot y.2.1) (hs : ∀ r w, r < 9 → w ∈ rw' r → ∃ r', r' < 9 ∧ w ∈ y.2.1 r') (hs' : ∀ r w, r < 9 → w ∈ y.2.1 r → ∃ r', r' < 9 ∧ w ∈ rw' r') : iY (s, rw', y.2.2) nt nw tm B := by
  obtain ⟨⟨a1, a2, a3, a4, a5, a6⟩, b, c, d, e, f, g, k, l, m, n⟩ := h
  refine ⟨⟨(h0 7 (by omega)).trans a1, a2, (h0 8 (by omega)).trans a3, a4, (h0 6 (by omega)).trans a5, a6⟩, fun k hk => by
    obtain ⟨v, v1, v2⟩ := b k hk
    exact ⟨v, v1, (h0 k (by omega)).trans v2⟩, fun r hr => ⟨fun w hw => ?_, (hg.1.1 r hr).2.2⟩, hg.1.2.1, ?_, hg.2.2.2, fun w hw r hr hm => ?_, fun w hw hm => ?_, l, m, n⟩
  · obtain ⟨r', r1, r2⟩ := hs r w hr hw
    exact (c r' r1).1 w r2
  · show tot rw' ≤ nw
    rw [hT]
    exact e
  · obtain ⟨r', r1, r2⟩ := hs r w hr hm
    show s 5 w = -6
    rw [h5]
    exact g w hw r' r1 r2
  · show 0 ≤ s 5 w
    rw [h5]
    refine k w hw (fun r hr hm' => ?_)
    obtain ⟨r', r1, r2⟩ := hs' r w hr hm'
    exact hm r' r1 r2
theorem iY_mvm {y : yT} {nt nw tm B a j : Nat} {m jn : Int32} (h : iY y nt nw tm B) (hB : B < 1000000000) (ha : a ≤ 1000) (hm : m = nI a) (hj : j ≤ 2) (hjn : jn = nI j) : ∃ tm', iY (mvm y m jn) nt nw tm' (B + 3000) ∧ (mvm y m jn).1 0 6 = nI tm' := by
  obtain ⟨s3, s3a, s3b⟩ := h.2.1 3 (by omega)
  have hM : mvw y m jn = nI (a + j * s3) := by
    unfold mvw
    rw [hm, hjn, s3b, q_mul, q_add]
  have hM3 : a + j * s3 ≤ 3000 := by
    have : j * s3 ≤ 2 * 1000 := Nat.mul_le_mul hj s3a
    omega
  obtain ⟨T2, t1, t2, t3⟩ := free_bd (m := nI (a + j * s3)) (B := B) (by omega) h.bends h.tmB
  have hf : mvf y m jn = nI T2 := by
    unfold mvf
    rw [hM, h.htm, t3]
  refine ⟨T2 + (a + j * s3), ?_, ?_⟩
  · unfold mvm
    rw [hf, hM, q_add]
    refine iY_ctm (h.up (by omega) |>.sc (fun k hk => ?_) ?_) (by omega)
    · rw [sU_n (by omega), sU_n (by omega), sU_n (by omega)]
    · funext k
      rw [sU_n (by omega), sU_n (by omega), sU_n (by omega)]
  · unfold mvm ctm
    dsimp only
    rw [sU_s, hf, hM, q_add]
theorem jD_n {y : yT} {t n : Nat} : ∃ j, j ≤ 2 ∧ jD y t n = nI j := by
  unfold jD
  split
  · exact ⟨1, by omega, rfl⟩
  · exact ⟨2, by omega, rfl⟩
theorem jB_n {y : yT} {t : Nat} : ∃ j, j ≤ 2 ∧ jB y t = nI j := by
  unfold jB
  split
  · exact ⟨1, by omega, rfl⟩
  · exact ⟨2, by omega, rfl⟩
theorem iY_D {y : yT} {nt nw tm B t n : Nat} (h : iY y nt nw tm B) (ht : t < nt) (hn : n ≤ (y.2.1 t).length) : iY (dO y t n) nt nw tm B := by
  have hn8 := h.nt8
  refine iY_rows h (s := (dO y t n).1) (rw' := rwD y.2.1 t n) (fun k hk => ?_) ?_ (gD' h.gn ht hn) (rwD_tot (by omega) hn) (fun r w hr hm => ?_) (fun r w hr hm => ?_)
  · unfold dO nP
    dsimp only
    rw [sU_n (by omega), if_neg (by omega)]
  · funext k
    unfold dO nP
    dsimp only
    rw [sU_n (by omega), if_neg (by omega)]
  · rcases rwD_mem (by omega) hm with ⟨-, z⟩ | ⟨-, z | z⟩ | ⟨-, -, z⟩
    · exact ⟨t, by omega, List.mem_of_mem_drop z⟩
    · exact ⟨8, by omega, z⟩
    · exact ⟨t, by omega, List.mem_of_mem_take z⟩
    · exact ⟨r, hr, z⟩
  · by_cases c : r = t
    · rw [c, ← List.take_append_drop n (y.2.1 t)] at hm
      rcases List.mem_append.mp hm with z | z
      · exact ⟨8, by omega, by rw [rwD_8 (by omega)]; exact List.mem_append_right _ z⟩
      · exact ⟨t, by omega, by rw [rwD_t]; exact z⟩
    · by_cases c8 : r = 8
      · rw [c8] at hm
        exact ⟨8, by omega, by rw [rwD_8 (by omega)]; exact List.mem_append_left _ hm⟩
      · exact ⟨r, hr, by unfold rwD; rw [if_neg c, if_neg c8]; exact hm⟩
theorem iY_B {y : yT} {nt nw tm B t n : Nat} (h : iY y nt nw tm B) (ht : t < nt) (hn : n ≤ (y.2.1 8).length) : iY (sBk y t n) nt nw tm B := by
  have hn8 := h.nt8
  refine iY_rows h (s := (sBk y t n).1) (rw' := rwB y.2.1 t n) (fun k hk => ?_) ?_ (gB' h.gn ht hn) (rwB_tot (by omega) hn) (fun r w hr hm => ?_) (fun r w hr hm => ?_)
  · unfold sBk
    dsimp only
    rw [sU_n (by omega)]
  · funext k
    unfold sBk
    dsimp only
    rw [sU_n (by omega)]
  · rcases rwB_mem (by omega) hm with ⟨-, z | z⟩ | ⟨-, z⟩ | ⟨-, -, z⟩
    · exact ⟨t, by omega, z⟩
    · exact ⟨8, by omega, List.mem_of_mem_drop z⟩
    · exact ⟨8, by omega, List.mem_of_mem_take z⟩
    · exact ⟨r, hr, z⟩
  · by_cases c8 : r = 8
    · rw [c8, ← List.take_append_drop ((y.2.1 8).length - n) (y.2.1 8)] at hm
      rcases List.mem_append.mp hm with z | z
      · exact ⟨8, by omega, by rw [rwB_8 (by omega)]; exact z⟩
      · exact ⟨t, by omega, by rw [rwB_t]; exact List.mem_append_left _ z⟩
    · by_cases c : r = t
      · rw [c] at hm
        exact ⟨t, by omega, by rw [rwB_t]; exact List.mem_append_right _ hm⟩
      · exact ⟨r, hr, by unfold rwB; rw [if_neg c, if_neg c8]; exact hm⟩
theorem iY_R {y : yT} {nt nw tm B : Nat} (h : iY y nt nw tm B) : iY (y.1, rwR y.2.1, y.2.2) nt nw tm B :=
  iY_rows h (s := y.1) (rw' := rwR y.2.1) (fun _ _ => rfl) rfl (gN_R h.gn rfl h.bl) rwR_tot (fun r w hr hm => ⟨r, hr, rwR_mem.mp hm⟩) (fun r w hr hm => ⟨r, hr, rwR_mem.mpr hm⟩)
theorem kp_pull {y : yT} {B : Nat} {a b : Int32} (h : kY y B) (hB : B < 1000000000) : kY (sPull y a b).2 (B + 5000) := by
  obtain ⟨nt, nw, tm, hi⟩ := h
  have h0 : kY y (B + 5000) := ⟨nt, nw, tm, hi.up (by omega)⟩
  unfold sPull
  by_cases ht : isT y a = true
  · obtain ⟨t, ht1, rfl⟩ := isT_in hi.hnt hi.nt8 ht
    have hn8 := hi.nt8
    rw [if_pos ht]
    by_cases hb : b < 1 ∨ 30 < b
    · rw [if_pos hb]; exact h0
    · rw [if_neg hb]
      obtain ⟨n, n1, n2, rfl⟩ := b30 hb
      rw [q_cl (by omega), q_cl (by omega)]
      by_cases hc : canP y t n = true
      · rw [if_pos hc]
        obtain ⟨s2, s2a, s2b⟩ := hi.2.1 2 (by omega)
        obtain ⟨j, j1, j2⟩ := jD_n (y := y) (t := t) (n := n)
        obtain ⟨tm', q, -⟩ := iY_mvm (iY_D hi ht1 (canP_le hc)) hB s2a s2b j1 j2
        exact ⟨nt, nw, tm', q.up (by omega)⟩
      · rw [if_neg hc]; exact h0
  · rw [if_neg ht]; exact h0
theorem kp_push {y : yT} {B : Nat} {a b : Int32} (h : kY y B) (hB : B < 1000000000) : kY (sPush y a b).2 (B + 5000) := by
  obtain ⟨nt, nw, tm, hi⟩ := h
  have h0 : kY y (B + 5000) := ⟨nt, nw, tm, hi.up (by omega)⟩
  unfold sPush
  by_cases ht : isT y a = true
  · obtain ⟨t, ht1, rfl⟩ := isT_in hi.hnt hi.nt8 ht
    have hn8 := hi.nt8
    rw [if_pos ht]
    by_cases hb : b < 1 ∨ 30 < b
    · rw [if_pos hb]; exact h0
    · rw [if_neg hb]
      obtain ⟨n, n1, n2, rfl⟩ := b30 hb
      rw [q_cl (by omega), q_cl (by omega)]
      by_cases hc : canQ y t n = true
      · rw [if_pos hc]
        obtain ⟨s2, s2a, s2b⟩ := hi.2.1 2 (by omega)
        obtain ⟨j, j1, j2⟩ := jB_n (y := y) (t := t)
        obtain ⟨tm', q, -⟩ := iY_mvm (iY_B hi ht1 (canQ_le hc)) hB s2a s2b j1 j2
        exact ⟨nt, nw, tm', q.up (by omega)⟩
      · rw [if_neg hc]; exact h0
  · rw [if_neg ht]; exact h0
theorem kp_round {y : yT} {B : Nat} (h : kY y B) (hB : B < 1000000000) : kY (sRound y).2 (B + 5000) ∧ ¬ (sRnd y).1 0 6 < 0 := by
  obtain ⟨nt, nw, tm, hi⟩ := h
  obtain ⟨s2, s2a, s2b⟩ := hi.2.1 4 (by omega)
  obtain ⟨tm', q, q2⟩ := iY_mvm (iY_R hi) hB s2a (m := y.1 0 4) (jn := 2) (j := 2) s2b (by omega) rfl
  have hq := q.tmB
  have q2' : (sRnd y).1 0 6 = nI tm' := q2
  refine ⟨?_, by rw [q2']; exact nI_pos (by omega)⟩
  unfold sRound
  split
  · exact ⟨nt, nw, tm', q.up (by omega)⟩
  · exact ⟨nt, nw, tm, hi.up (by omega)⟩
theorem kp_pass {y : yT} {B : Nat} {a : Int32} (h : kY y B) (hB : B < 1000000000) : kY (sPass y a).2 (B + 5000) := by
  obtain ⟨nt, nw, tm, hi⟩ := h
  unfold sPass
  by_cases hb : a < 1 ∨ 999 < a
  · rw [if_pos hb]
    exact ⟨nt, nw, tm, hi.up (by omega)⟩
  · rw [if_neg hb]
    have h0 : ¬ a < 0 := fun q => hb (Or.inl (Int32.lt_of_lt_of_le q (by decide)))
    obtain ⟨n, hn, e⟩ := nI_of2 (M := 999) (n := 999) (by decide) h0 (Int32.not_lt.mp (fun q => hb (Or.inr q)))
    have := hi.tmB
    dsimp only
    rw [hi.htm, e, q_add]
    exact ⟨nt, nw, tm + n, iY_ctm (hi.up (by omega)) (by omega)⟩
theorem cst_b {k : Nat} (hk : k < 6) : (0 : Int32) ≤ cst 40 k ∧ cst 41 k ≤ 1000 := by
  rcases (show k = 0 ∨ k = 1 ∨ k = 2 ∨ k = 3 ∨ k = 4 ∨ k = 5 by omega) with rfl | rfl | rfl | rfl | rfl | rfl <;> decide
theorem kp_set {y : yT} {B : Nat} {a b : Int32} (h : kY y B) : kY (sSet y a b).2 (B + 5000) ∧ ((sSet y a b).1 < 0 → (sSet y a b).2 = y) := by
  obtain ⟨nt, nw, tm, hi⟩ := h
  have h0 : kY y (B + 5000) := ⟨nt, nw, tm, hi.up (by omega)⟩
  unfold sSet
  by_cases ha : a < 0 ∨ 6 ≤ a
  · rw [if_pos ha]; exact ⟨h0, fun _ => rfl⟩
  rw [if_neg ha]
  obtain ⟨k, hk, rfl⟩ := nI_of (fun q => ha (Or.inl q))
  have hk6 : k < 6 := by
    rcases Nat.lt_or_ge k 6 with q | q
    · exact q
    · exact absurd (Or.inr (nI_le q hk)) ha
  rw [q_cl hk]
  by_cases hb : b < cst 40 k ∨ cst 41 k < b
  · rw [if_pos hb]; exact ⟨h0, fun _ => rfl⟩
  rw [if_neg hb]
  obtain ⟨c1, c2⟩ := cst_b hk6
  have b0 : ¬ b < 0 := fun q => hb (Or.inl (Int32.lt_of_lt_of_le q c1))
  obtain ⟨n, hn, e⟩ := nI_of2 (M := 1000) (n := 1000) (by decide) b0 (Int32.le_trans (Int32.not_lt.mp (fun q => hb (Or.inr q))) c2)
  obtain ⟨v, v1, v2⟩ := hi.2.1 k hk6
  refine ⟨?_, fun q => absurd q (by dsimp only; rw [v2]; exact nI_pos (by omega))⟩
  obtain ⟨⟨a1, a2, a3, a4, a5, a6⟩, b', c, d, e', f, g, k', l, m, n'⟩ := hi.up (show B ≤ B + 5000 by omega)
  have hs : ∀ a0 k0, ¬ (a0 = 0 ∧ k0 = k) → sU y.1 0 k b a0 k0 = y.1 a0 k0 := fun a0 k0 q => sU_n q
  refine ⟨nt, nw, tm, ⟨(hs 0 7 (by omega)).trans a1, a2, (hs 0 8 (by omega)).trans a3, a4, (hs 0 6 (by omega)).trans a5, a6⟩, fun k0 hk0 => ?_, c, d, e', f, fun w hw r hr hm => (hs 5 w (by omega)).trans (g w hw r hr hm), fun w hw hm => ?_, l, m, n'⟩
  · by_cases ck : k0 = k
    · subst ck
      exact ⟨n, hn, sU_s.trans e⟩
    · obtain ⟨v', q1, q2⟩ := b' k0 hk0
      exact ⟨v', q1, (hs 0 k0 (by omega)).trans q2⟩
  · show 0 ≤ sU y.1 0 k b 5 w
    rw [hs 5 w (by omega)]
    exact k' w hw hm
theorem kp_track {y : yT} {B : Nat} {a : Int32} (h : kY y B) : kY (sTrack y a).2 (B + 5000) := by
  obtain ⟨nt, nw, tm, hi⟩ := h
  have h0 : kY y (B + 5000) := ⟨nt, nw, tm, hi.up (by omega)⟩
  unfold sTrack
  by_cases ha : a < 4 ∨ 60 < a
  · rw [if_pos ha]; exact h0
  rw [if_neg ha, hi.hnt, z_l8]
  have hn8 := hi.nt8
  by_cases c8 : 8 ≤ nt
  · rw [if_pos (nI_le c8 (by omega))]; exact h0
  rw [if_neg (nI_ge (by omega) (by omega)), q_cl (by omega)]
  obtain ⟨⟨a1, a2, a3, a4, a5, a6⟩, b', c, d, e', f, g, k', l, m, n'⟩ := hi.up (show B ≤ B + 5000 by omega)
  have hs : ∀ a0 k0, ¬ (a0 = 0 ∧ k0 = 7) → a0 ≠ 1 → sU (sU y.1 1 nt a) 0 7 (nI nt + 1) a0 k0 = y.1 a0 k0 := fun a0 k0 q q' => by rw [sU_n q, sU_n (by omega)]
  refine ⟨nt + 1, nw, tm, ⟨(sU_s (s := sU y.1 1 nt a) (a := 0) (k := 7) (x := nI nt + 1)).trans (nI_1 nt), by omega, (hs 0 8 (by omega) (by omega)).trans a3, a4, (hs 0 6 (by omega) (by omega)).trans a5, a6⟩, fun k0 hk0 => ?_, c, d, e', fun t h1 h2 => f t (by omega) h2, fun w hw r hr hm => (hs 5 w (by omega) (by omega)).trans (g w hw r hr hm), fun w hw hm => ?_, l, m, n'⟩
  · obtain ⟨v', q1, q2⟩ := b' k0 hk0
    exact ⟨v', q1, (hs 0 k0 (by omega) (by omega)).trans q2⟩
  · show 0 ≤ sU (sU y.1 1 nt a) 0 7 (nI nt + 1) 5 w
    rw [hs 5 w (by omega) (by omega)]
    exact k' w hw hm
theorem kp_block {y : yT} {B : Nat} {a b : Int32} (h : kY y B) (hB : B < 1000000000) : kY (sBlock y a b).2 (B + 5000) := by
  obtain ⟨nt, nw, tm, hi⟩ := h
  have h0 : kY y (B + 5000) := ⟨nt, nw, tm, hi.up (by omega)⟩
  unfold sBlock
  by_cases ha : a < y.1 0 6 ∨ y.1 0 6 + 2000 < a ∨ b < 1 ∨ 500 < b
  · rw [if_pos ha]; exact h0
  rw [if_neg ha]
  by_cases c10 : 10 ≤ y.2.2.1.length
  · rw [if_pos c10]; exact h0
  rw [if_neg c10]
  have htm := hi.tmB
  have e6 := hi.htm
  rw [e6, show (2000 : Int32) = nI 2000 from rfl, q_add] at ha
  have a0 : ¬ a < 0 := fun q => ha (Or.inl (Int32.lt_of_lt_of_le q (nI_pos' (by omega))))
  obtain ⟨x, hx, e1⟩ := nI_of2 (M := nI (tm + 2000)) (n := tm + 2000) (nI_toInt (by omega)) a0 (Int32.not_lt.mp (fun q => ha (Or.inr (Or.inl q))))
  have b0 : ¬ b < 0 := fun q => ha (Or.inr (Or.inr (Or.inl (Int32.lt_of_lt_of_le q (by decide)))))
  obtain ⟨n, hn, e2⟩ := nI_of2 (M := 500) (n := 500) (by decide) b0 (Int32.not_lt.mp (fun q => ha (Or.inr (Or.inr (Or.inr q)))))
  obtain ⟨⟨a1, a2, a3, a4, a5, a6⟩, b', c, d, e', f, g, k', ⟨l1, l2⟩, m, n'⟩ := hi.up (show B ≤ B + 5000 by omega)
  refine ⟨nt, nw, tm, ⟨a1, a2, a3, a4, a5, a6⟩, b', c, d, e', f, g, k', ⟨by dsimp only; rw [List.length_append]; simp; omega, fun q hq => ?_⟩, m, n'⟩
  rcases List.mem_append.mp hq with z | z
  · exact l2 q z
  · simp at z
    exact ⟨x, x + n, by omega, by omega, by rw [z, e1, e2, q_add]⟩
theorem mem_erase {α : Type} {l : List α} {t : Nat} {e : α} (h : e ∈ l.eraseIdx t) : e ∈ l := List.mem_of_mem_eraseIdx h
theorem tOK_erase {tn : List (Int32 × List Nat)} {t : Nat} (h : tOK tn) : tOK (tn.eraseIdx t) := by
  refine ⟨Nat.le_trans (List.length_eraseIdx_le _ _) h.1, fun t' e he => ?_⟩
  obtain ⟨i, hi, e'⟩ := List.getElem_of_mem (mem_erase (List.mem_of_getElem? he))
  exact h.2 i e (by rw [List.getElem?_eq_getElem hi, e'])
theorem kp_train {y : yT} {B : Nat} {x : Int64} {due : Int32} (h : kY y B) (hB : B < 1000000000) : kY (sTrain y (tLs x) due).2 (B + 5000) := by
  obtain ⟨nt, nw, tm, hi⟩ := h
  have h0 : kY y (B + 5000) := ⟨nt, nw, tm, hi.up (by omega)⟩
  unfold sTrain
  by_cases c1 : areT y.2.1 (tLs x)
  case neg => rw [cIf_f c1]; exact h0
  rw [cIf_t c1]
  by_cases c2 : due < y.1 0 6 ∨ y.1 0 6 + 5000 < due
  · rw [if_pos c2]; exact h0
  rw [if_neg c2]
  by_cases c3 : 8 ≤ y.2.2.2.length
  · rw [if_pos c3]; exact h0
  rw [if_neg c3]
  by_cases c4 : ∀ w ∈ tLs x, tOf y.2.2.2 w = -6
  case neg => rw [cIf_f c4]; exact h0
  rw [cIf_t c4]
  obtain ⟨q1, q2⟩ := (areT_iff hi _).mp c1
  obtain ⟨q3, -, q4⟩ := (okL_iff _ _).mp q2
  obtain ⟨l8, l30⟩ := tLs_len x
  have htm := hi.tmB
  rw [hi.htm, show (5000 : Int32) = nI 5000 from rfl, q_add] at c2
  have d0 : ¬ due < 0 := fun q => c2 (Or.inl (Int32.lt_of_lt_of_le q (nI_pos' (by omega))))
  obtain ⟨dd, hd, e1⟩ := nI_of2 (M := nI (tm + 5000)) (n := tm + 5000) (nI_toInt (by omega)) d0 (Int32.not_lt.mp (fun q => c2 (Or.inr q)))
  obtain ⟨a', b', c, d, e', f, g, k', l, m, n'⟩ := hi.up (show B ≤ B + 5000 by omega)
  have hne : (tLs x).length ≠ 0 := fun z => q1 (List.length_eq_zero_iff.mp z)
  refine ⟨nt, nw, tm, a', b', c, d, e', f, g, k', l, ⟨by dsimp only; rw [List.length_append]; simp; omega, fun t e he => ?_⟩, fun e he => ?_⟩
  · rcases List.mem_append.mp (List.mem_of_getElem? he) with z | z
    · obtain ⟨i, hi', e''⟩ := List.getElem_of_mem z
      exact m.2 i e (by rw [List.getElem?_eq_getElem hi', e''])
    · simp at z
      rw [z]
      exact ⟨by dsimp only; omega, l8, q4, l30⟩
  · rcases List.mem_append.mp he with z | z
    · exact n' e z
    · simp at z
      rw [z]
      exact ⟨⟨dd, by omega, e1⟩, fun w hw => (q3 w hw).1⟩
theorem kp_wagon {y : yT} {B : Nat} {a b : Int32} (h : kY y B) : kY (sWagon y a b).2 (B + 5000) := by
  obtain ⟨nt, nw, tm, hi⟩ := h
  have h0 : kY y (B + 5000) := ⟨nt, nw, tm, hi.up (by omega)⟩
  unfold sWagon
  by_cases ht : isT y a = true
  case neg => rw [if_neg ht]; exact h0
  obtain ⟨t, ht1, rfl⟩ := isT_in hi.hnt hi.nt8 ht
  have hn8 := hi.nt8
  have ht8 : t < 8 := by omega
  rw [if_pos ht]
  by_cases hb : b < 1 ∨ 4 < b
  · rw [if_pos hb]; exact h0
  rw [if_neg hb, hi.hnw, z_l30]
  have hw30 := hi.nw30
  by_cases h30 : 30 ≤ nw
  · rw [if_pos (nI_le h30 (by omega))]; exact h0
  rw [if_neg (nI_ge (by omega) (by omega)), q_cl (by omega), q_cl (by omega)]
  by_cases hf : y.1 1 t < ssum (y.1 4) (y.2.1 t) + b
  · rw [if_pos hf]; exact h0
  rw [if_neg hf]
  obtain ⟨⟨a1, a2, a3, a4, a5, a6⟩, b', c, d, e', f, g, k', l, m, n'⟩ := hi.up (show B ≤ B + 5000 by omega)
  have hs : ∀ a0 k0, ¬ (a0 = 0 ∧ k0 = 8) → a0 ≠ 4 → ¬ (a0 = 5 ∧ k0 = nw) → sU (sU (sU y.1 0 8 (nI nw + 1)) 4 nw b) 5 nw (-6) a0 k0 = y.1 a0 k0 := fun a0 k0 q1 q2 q3 => by
    rw [sU_n q3, sU_n (by omega), sU_n q1]
  have h8 : sU (sU (sU y.1 0 8 (nI nw + 1)) 4 nw b) 5 nw (-6) 0 8 = nI (nw + 1) := by
    rw [sU_n (by omega), sU_n (by omega), sU_s]
    exact nI_1 nw
  have h5 : sU (sU (sU y.1 0 8 (nI nw + 1)) 4 nw b) 5 nw (-6) 5 nw = -6 := sU_s
  have hr : ∀ r w, r < 9 → w ∈ (if r = t then nw :: y.2.1 r else y.2.1 r) → (w = nw ∧ r = t) ∨ (w ∈ y.2.1 r ∧ w < nw) := fun r w hr hm => by
    by_cases cr : r = t
    · rw [if_pos cr] at hm
      rcases List.mem_cons.mp hm with z | z
      · exact Or.inl ⟨z, cr⟩
      · exact Or.inr ⟨z, (c r hr).1 w z⟩
    · rw [if_neg cr] at hm
      exact Or.inr ⟨hm, (c r hr).1 w hm⟩
  refine ⟨nt, nw + 1, tm, ⟨(hs 0 7 (by omega) (by omega) (by omega)).trans a1, a2, h8, by omega, (hs 0 6 (by omega) (by omega) (by omega)).trans a5, a6⟩, fun k0 hk0 => ?_, fun r hr9 => ⟨fun w hm => ?_, ?_⟩, fun r r' w hr9 hr9' hm hm' => ?_, ?_, fun t' h1 h2 => ?_, fun w hw r hr9 hm => ?_, fun w hw hm => ?_, l, m, fun e he => ⟨(n' e he).1, fun w hw => Nat.lt_succ_of_lt ((n' e he).2 w hw)⟩⟩
  · obtain ⟨v', q1, q2⟩ := b' k0 hk0
    exact ⟨v', q1, (hs 0 k0 (by omega) (by omega) (by omega)).trans q2⟩
  · rcases hr r w hr9 hm with ⟨z, -⟩ | ⟨-, z⟩ <;> omega
  · dsimp only
    by_cases cr : r = t
    · rw [if_pos cr]
      exact List.nodup_cons.mpr ⟨fun z => by have := (c r hr9).1 nw z; omega, (c r hr9).2⟩
    · rw [if_neg cr]
      exact (c r hr9).2
  · rcases hr r w hr9 hm with ⟨z, z2⟩ | ⟨z, z2⟩
    · rcases hr r' w hr9' hm' with ⟨z', z2'⟩ | ⟨z', z2'⟩
      · omega
      · omega
    · rcases hr r' w hr9' hm' with ⟨z', z2'⟩ | ⟨z', z2'⟩
      · omega
      · exact d r r' w hr9 hr9' z z'
  · dsimp only
    unfold tot at e' ⊢
    rcases (show t = 0 ∨ t = 1 ∨ t = 2 ∨ t = 3 ∨ t = 4 ∨ t = 5 ∨ t = 6 ∨ t = 7 by omega) with rfl | rfl | rfl | rfl | rfl | rfl | rfl | rfl <;> simp only [Nat.reduceEqDiff, ↓reduceIte, List.length_cons] <;> omega
  · dsimp only
    rw [if_neg (by omega)]
    exact f t' h1 h2
  · rcases hr r w hr9 hm with ⟨z, -⟩ | ⟨z, z2⟩
    · rw [z]; exact h5
    · exact (hs 5 w (by omega) (by omega) (by omega)).trans (g w z2 r hr9 z)
  · show 0 ≤ sU (sU (sU y.1 0 8 (nI nw + 1)) 4 nw b) 5 nw (-6) 5 w
    have hwn : w ≠ nw := fun z => hm t (by omega) (by dsimp only; rw [if_pos rfl, z]; exact List.mem_cons_self)
    rw [hs 5 w (by omega) (by omega) (by omega)]
    refine k' w (by omega) (fun r hr9 z => hm r hr9 ?_)
    dsimp only
    by_cases cr : r = t
    · rw [if_pos cr]; exact List.mem_cons_of_mem _ z
    · rw [if_neg cr]; exact z
theorem kp_leave {y : yT} {B : Nat} {a : Int32} (h : kY y B) (hB : B < 1000000000) : kY (sLeave y a).2 (B + 5000) := by
  obtain ⟨nt, nw, tm, hi⟩ := h
  have h0 : kY y (B + 5000) := ⟨nt, nw, tm, hi.up (by omega)⟩
  unfold sLeave
  cases tIx y.2.2.2.length a with
  | none => exact h0
  | some t =>
    dsimp only
    cases y.2.2.2[t]? with
    | none => exact h0
    | some e =>
      dsimp only
      by_cases q : y.2.1 8 = e.2
      case neg => rw [if_neg q]; exact h0
      rw [if_pos q]
      have htm := hi.tmB
      obtain ⟨⟨a1, a2, a3, a4, a5, a6⟩, b', c, d, e', f, g, k', l, m, n'⟩ := hi.up (show B ≤ B + 5000 by omega)
      have hs : ∀ a0 k0, ¬ (a0 = 0 ∧ (k0 = 10 ∨ k0 = 12 ∨ k0 = 17)) → (sLv y t e.1).1 a0 k0 = sGone y.1 (y.2.1 8) a0 k0 := fun a0 k0 q1 => by
        unfold sLv
        dsimp only
        rw [sU_n (by omega), sU_n (by omega), sU_n (by omega)]
      have hs' : ∀ k0, k0 ≤ 8 → (sLv y t e.1).1 0 k0 = y.1 0 k0 := fun k0 hk => (hs 0 k0 (by omega)).trans (sGone_n (by decide))
      have hr : ∀ r w, w ∈ (if r = 8 then [] else y.2.1 r) → r ≠ 8 ∧ w ∈ y.2.1 r := fun r w hm => by
        by_cases cr : r = 8
        · rw [if_pos cr] at hm; cases hm
        · rw [if_neg cr] at hm; exact ⟨cr, hm⟩
      have hg := gClear hi.g
      refine ⟨nt, nw, tm, ⟨(hs' 7 (by omega)).trans a1, a2, (hs' 8 (by omega)).trans a3, a4, (hs' 6 (by omega)).trans a5, a6⟩, fun k0 hk0 => ?_, fun r hr9 => ⟨fun w hm => (c r hr9).1 w (hr r w hm).2, (hg.1 r hr9).2.2⟩, hg.2.1, ?_, fun t' h1 h2 => ?_, fun w hw r hr9 hm => ?_, fun w hw hm => ?_, l, tOK_erase m, fun e he => n' e (mem_erase he)⟩
      · obtain ⟨v', q1, q2⟩ := b' k0 hk0
        exact ⟨v', q1, (hs' k0 (by omega)).trans q2⟩
      · unfold sLv
        dsimp only
        unfold tot at e' ⊢
        simp only [Nat.reduceEqDiff, ↓reduceIte, List.length_nil]
        omega
      · show (if t' = 8 then [] else y.2.1 t') = []
        rw [if_neg (by omega)]
        exact f t' h1 h2
      · obtain ⟨z1, z2⟩ := hr r w hm
        refine (hs 5 w (by omega)).trans ?_
        unfold sGone
        rw [if_neg (fun z => z1 (d r 8 w hr9 (by omega) z2 z.2))]
        exact g w hw r hr9 z2
      · rw [hs 5 w (by omega)]
        unfold sGone
        by_cases c8 : w ∈ y.2.1 8
        · rw [if_pos ⟨rfl, c8⟩, hi.htm]
          exact nI_pos' (by omega)
        · rw [if_neg (fun z => c8 z.2)]
          refine k' w hw (fun r hr9 z => ?_)
          by_cases cr : r = 8
          · rw [cr] at z; exact c8 z
          · exact hm r hr9 (by
              show w ∈ (if r = 8 then [] else y.2.1 r)
              rw [if_neg cr]
              exact z)
