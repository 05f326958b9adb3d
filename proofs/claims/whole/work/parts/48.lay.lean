def psh (ps : List (Nat × Nat)) (r : Nat) : List (Nat × Nat) := match ps.getLast? with
  | none => [(r, 1)]
  | some p => if p.1 = r then ps.dropLast ++ [(r, p.2 + 1)] else ps ++ [(r, 1)]
def layM (rw0 : Nat → List Nat) : (Nat → List Nat) → List (Nat × Nat) → List Nat → Option (List (Nat × Nat))
  | _, ps, [] => some ps
  | cur, ps, w :: l => match rFind rw0 w 9 0 with
    | none => none
    | some r => if r = 8 then none else if (cur r).head? = some w then layM rw0 (fun r' => if r' = r then (cur r).tail else cur r') (psh ps r) l else none
theorem layM_step {rw0 cur : Nat → List Nat} {ps : List (Nat × Nat)} {w : Nat} {l : List Nat} : layM rw0 cur ps (w :: l) = match rFind rw0 w 9 0 with
    | none => none
    | some r => if r = 8 then none else if (cur r).head? = some w then layM rw0 (fun r' => if r' = r then (cur r).tail else cur r') (psh ps r) l else none := rfl
theorem psh_same {ps : List (Nat × Nat)} {r q : Nat} : psh (ps ++ [(r, q)]) r = ps ++ [(r, q + 1)] := by
  unfold psh
  rw [List.getLast?_append]
  simp
theorem psh_new {ps : List (Nat × Nat)} {r : Nat} (h : ∀ a b, ps.getLast? = some (a, b) → a ≠ r) : psh ps r = ps ++ [(r, 1)] := by
  unfold psh
  cases e : ps.getLast? with
  | none =>
    rw [List.getLast?_eq_none_iff] at e
    rw [e]
    rfl
  | some p =>
    obtain ⟨a, b⟩ := p
    dsimp only
    rw [if_neg (h a b e)]
theorem layM_run {rw0 : Nat → List Nat} {r : Nat} (hr : r ≠ 8) (tl rest : List Nat) : ∀ (xs : List Nat) (cur : Nat → List Nat) (ps : List (Nat × Nat)) (q : Nat), (∀ x ∈ xs, rFind rw0 x 9 0 = some r) → cur r = xs ++ rest →
    layM rw0 cur (ps ++ [(r, q)]) (xs ++ tl) = layM rw0 (fun r' => if r' = r then rest else cur r') (ps ++ [(r, q + xs.length)]) tl
  | [], cur, ps, q, h1, h2 => by
    have : (fun r' => if r' = r then rest else cur r') = cur := by
      funext r'
      by_cases c : r' = r
      · rw [if_pos c, c, h2]; rfl
      · rw [if_neg c]
    rw [this]
    rfl
  | x :: xs, cur, ps, q, h1, h2 => by
    rw [List.cons_append, layM_step, h1 x List.mem_cons_self]
    dsimp only
    rw [if_neg hr, h2, if_pos (by rfl), psh_same, layM_run hr tl rest xs _ ps (q + 1) (fun x' hx => h1 x' (List.mem_cons_of_mem _ hx)) (by
      rw [if_pos rfl]
      rfl)]
    rw [List.length_cons, show q + 1 + xs.length = q + (xs.length + 1) by omega]
    congr 1
    funext r'
    by_cases c : r' = r
    · rw [if_pos c, if_pos c]
    · rw [if_neg c, if_neg c, if_neg c]
theorem rFind_cong {rw rw' : Nat → List Nat} {w : Nat} : ∀ (n r : Nat), (∀ r', r ≤ r' → r' < r + n → (w ∈ rw r' ↔ w ∈ rw' r')) → rFind rw w n r = rFind rw' w n r
  | 0, _, _ => rfl
  | n + 1, r, h => by
    unfold rFind
    rw [rFind_cong n (r + 1) (fun r' a b => h r' (by omega) (by omega))]
    by_cases c : w ∈ rw r
    · rw [if_pos c, if_pos ((h r (Nat.le_refl _) (by omega)).mp c)]
    · rw [if_neg c, if_neg (fun z => c ((h r (Nat.le_refl _) (by omega)).mpr z))]
theorem rFind_is {rw : Nat → List Nat} {w r : Nat} (hd : rDis rw) (hr : r < 9) (h : w ∈ rw r) : rFind rw w 9 0 = some r := by
  cases e : rFind rw w 9 0 with
  | none => exact absurd h (rFind_none e r (Nat.zero_le _) (by omega))
  | some r' =>
    obtain ⟨a, b, c, d⟩ := rFind_some e
    rw [hd r r' w hr (by omega) h c]
theorem lcp_max : ∀ (a b : List Nat), lcp (a.drop (lcp a b)) (b.drop (lcp a b)) = 0
  | [], b => by simp [lcp]
  | x :: a, [] => by simp [lcp]
  | x :: a, z :: b => by
    by_cases c : x = z
    · have : lcp (x :: a) (z :: b) = lcp a b + 1 := by
        show (if x = z then lcp a b + 1 else 0) = _
        rw [if_pos c]
      rw [this, List.drop_succ_cons, List.drop_succ_cons]
      exact lcp_max a b
    · have : lcp (x :: a) (z :: b) = 0 := by
        show (if x = z then lcp a b + 1 else 0) = _
        rw [if_neg c]
      rw [this, List.drop_zero, List.drop_zero, this]
theorem lcp_zero_head {a b : List Nat} {w : Nat} (h : lcp a (w :: b) = 0) : ¬ a.head? = some w := by
  cases a with
  | nil => simp
  | cons x a =>
    intro z
    simp at z
    unfold lcp at h
    rw [if_pos z] at h
    omega
theorem layC_M {rw0 : Nat → List Nat} {l : List Nat} (hl : l.Nodup) {nt : Nat} : ∀ (d F got : Nat) (y : yT) (cur : Nat → List Nat) (ps : List (Nat × Nat)), got + d = l.length → d < F → gN y nt → (∀ r, r < 8 → cur r = y.2.1 r) → (∀ i w, got ≤ i → l[i]? = some w → rFind y.2.1 w 9 0 = rFind rw0 w 9 0) → (∀ a b, ps.getLast? = some (a, b) → lcp (y.2.1 a) (l.drop got) = 0) →
    layM rw0 cur ps (l.drop got) = (layC F y.2.1 l got).map (ps ++ ·) := by
  intro d
  induction d using Nat.strongRecOn with
  | ind d ih =>
    intro F got y cur ps hgd hF hg h1 h2 h3
    obtain ⟨F, rfl⟩ : ∃ n', F = n' + 1 := ⟨F - 1, by omega⟩
    unfold layC
    by_cases hd : got = l.length
    · rw [if_pos hd, List.drop_eq_nil_of_le (by omega)]
      simp [layM]
    · rw [if_neg hd]
      obtain ⟨w, hw⟩ : ∃ w, l[got]? = some w := ⟨_, List.getElem?_eq_getElem (by omega)⟩
      have hdr : l.drop got = w :: l.drop (got + 1) := drop_cons_of hw
      have hf := h2 got w (Nat.le_refl _) hw
      unfold nxtR
      rw [hw]
      dsimp only
      rw [hf]
      cases e : rFind rw0 w 9 0 with
      | none =>
        rw [hdr]
        unfold layM
        rw [e]
        rfl
      | some r =>
        dsimp only
        rw [e] at hf
        obtain ⟨-, hr9, hwr, -⟩ := rFind_some hf
        by_cases c8 : r = 8
        · rw [if_pos c8, hdr]
          unfold layM
          rw [e]
          dsimp only
          rw [if_pos c8]
          rfl
        · rw [if_neg c8]
          dsimp only
          have hr8 : r < 8 := by omega
          by_cases c0 : lcp (y.2.1 r) (l.drop got) = 0
          · rw [if_pos c0, hdr]
            rw [hdr] at c0
            unfold layM
            rw [e]
            dsimp only
            rw [if_neg c8, h1 r hr8, if_neg (lcp_zero_head c0)]
            rfl
          · rw [if_neg c0]
            have hrt : r < nt := by
              rcases Nat.lt_or_ge r nt with q | q
              · exact q
              · rw [hg.2.2.2 r q hr8] at hwr
                cases hwr
            have hle := lcp_le (a := y.2.1 r) (b := l.drop got)
            rw [List.length_drop] at hle
            have htk := lcp_take (a := y.2.1 r) (b := l.drop got)
            have hmx := lcp_max (y.2.1 r) (l.drop got)
            generalize hn : lcp (y.2.1 r) (l.drop got) = n at *
            rw [List.drop_drop] at hmx
            have hsp : l.drop got = (y.2.1 r).take n ++ l.drop (got + n) := by
              rw [htk, ← List.drop_drop, List.take_append_drop]
            have hin : ∀ x ∈ (y.2.1 r).take n, rFind rw0 x 9 0 = some r := fun x hx => by
              have hx' := hx
              rw [htk] at hx'
              obtain ⟨i, hi1, hi2⟩ := List.getElem_of_mem (List.mem_of_mem_take hx')
              rw [List.length_drop] at hi1
              rw [List.getElem_drop] at hi2
              rw [← h2 (got + i) x (by omega) (by rw [List.getElem?_eq_getElem (by omega), hi2])]
              exact rFind_is hg.1.2.1 hr9 (List.mem_of_mem_take hx)
            have hlen : ((y.2.1 r).take n).length = n := by rw [List.length_take]; omega
            cases hx : (y.2.1 r).take n with
            | nil => rw [hx] at hlen; simp at hlen; omega
            | cons x xs =>
              have hcur : cur r = x :: (xs ++ (y.2.1 r).drop n) := by
                rw [h1 r hr8, ← List.cons_append, ← hx, List.take_append_drop]
              have hxe : w = x := by
                rw [hdr, hx, List.cons_append] at hsp
                exact (List.cons.inj hsp).1
              have hps : psh ps r = ps ++ [(r, 1)] := psh_new (fun a b z za => by
                have := h3 a b z
                rw [za] at this
                rw [this] at hn
                omega)
              rw [hsp, hx, List.cons_append]
              unfold layM
              rw [← hxe, e]
              dsimp only
              rw [if_neg c8, hcur, if_pos (by rw [hxe]; rfl), hps]
              rw [layM_run c8 (l.drop (got + n)) ((y.2.1 r).drop n) xs _ ps 1 (fun x' hx' => hin x' (by rw [hx]; exact List.mem_cons_of_mem _ hx')) (by rw [if_pos rfl]; rfl)]
              have hxl : 1 + xs.length = n := by rw [← hlen, hx, List.length_cons]; omega
              rw [hxl]
              have hg' : gN (y.1, rwD y.2.1 r n, y.2.2) nt := gN_D hg rfl hrt (by omega) hg.1.2.2.2.1
              rw [ih (d - n) (by omega) F (got + n) (y.1, rwD y.2.1 r n, y.2.2) _ (ps ++ [(r, n)]) (by omega) (by omega) hg' (fun r' hr' => by
                dsimp only
                unfold rwD
                by_cases c : r' = r
                · rw [if_pos c, if_pos c]
                · rw [if_neg c, if_neg c, if_neg c, if_neg (by omega), h1 r' hr']) (fun i w' hi' hw' => by
                rw [← h2 i w' (by omega) hw']
                have hnt : w' ∉ (y.2.1 r).take n := fun z => by
                  rw [htk] at z
                  obtain ⟨i', hi1, hi2⟩ := List.getElem_of_mem z
                  rw [List.length_take, List.length_drop] at hi1
                  rw [List.getElem_take, List.getElem_drop] at hi2
                  have h5 := (List.getElem?_eq_some_iff.mp hw').1
                  have h6 : l[got + i']? = some w' := by rw [List.getElem?_eq_getElem (by omega), hi2]
                  have := nd_inj hl h6 hw'
                  omega
                refine rFind_cong 9 0 (fun r' _ hr' => ?_)
                dsimp only
                unfold rwD
                by_cases c : r' = r
                · rw [if_pos c, c]
                  constructor
                  · exact fun z => List.mem_of_mem_drop z
                  · intro z
                    rw [← List.take_append_drop n (y.2.1 r)] at z
                    exact (List.mem_append.mp z).resolve_left hnt
                · rw [if_neg c]
                  by_cases c' : r' = 8
                  · rw [if_pos c', c']
                    exact ⟨fun z => (List.mem_append.mp z).resolve_right hnt, fun z => List.mem_append_left _ z⟩
                  · rw [if_neg c']) (fun a b z => by
                rw [List.getLast?_append] at z
                simp at z
                rw [← z.1]
                dsimp only
                unfold rwD
                rw [if_pos rfl]
                exact hmx)]
              cases layC F (rwD y.2.1 r n) l (got + n) with
              | none => rfl
              | some qs => simp
