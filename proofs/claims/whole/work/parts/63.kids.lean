/-! nodes from 0 on: a node is a place of the row -/
def kc (ar : Int → Nat) (cs : List Int) (p n i : Nat) : Int := if i < n then (ap ar cs p i : Int) else -1
theorem tr_at {ar : Int → Nat} {I : sI} {cs : List Int} (h : tr ar I 0 cs) {p : Nat} (hp : p < cs.length) : I 114 p = cs[p] ∧ I 117 p = f_tk ar 1 (cs.drop p) ∧ I 115 p = kc ar cs p (ar cs[p]) 0 ∧ ∀ i : Nat, i < ar cs[p] → I 116 (ap ar cs p i) = kc ar cs p (ar cs[p]) (i + 1) := by
  obtain ⟨h1, h2, h3, h4⟩ := h p hp
  simp only [Int.zero_add] at h1 h2 h3 h4
  refine ⟨h1, h2, ?_, fun i hi => ?_⟩
  · rw [h3]
    unfold kc
    rw [ap_0]
    by_cases hz : ar cs[p] = 0
    · rw [if_pos hz, if_neg (by omega)]
    · rw [if_neg hz, if_pos (by omega)]
      omega
  · rw [h4 i hi]
    rfl
/-- the terms behind a place -/
def kd (ar : Int → Nat) (cs : List Int) (p n : Nat) : List (List Int) := (List.range n).map (fun i => f_s ar cs (ap ar cs p i))
theorem f_args_at (ar : Int → Nat) : ∀ (k : Nat) (l : List Int), (∃ m, f_wf ar (k + m) l) → f_args ar k l = (List.range k).map (fun i => f_s ar l (f_tk ar i l)) := by
  intro k
  induction k with
  | zero => intro l _; rfl
  | succ k ih =>
    intro l h
    obtain ⟨m, h⟩ := h
    have h2 := (f_split ar l 1 (k + m) (by rw [show 1 + (k + m) = k + 1 + m by omega]; exact h)).2
    simp only [f_args]
    rw [ih _ ⟨m, h2⟩, List.range_succ_eq_map, List.map_cons, List.map_map]
    refine congr (congrArg List.cons ?_) ?_
    · rw [f_tk_0]; rfl
    · apply List.map_congr_left
      intro i hi
      have hi' := List.mem_range.mp hi
      show f_s ar (l.drop (f_tk ar 1 l)) (f_tk ar i (l.drop (f_tk ar 1 l))) = f_s ar l (f_tk ar (i + 1) l)
      rw [show i + 1 = 1 + i by omega, f_tk_add ar (k := 1) (j := i) ⟨k + m - i, by rw [show 1 + i + (k + m - i) = k + 1 + m by omega]; exact h⟩]
      unfold f_s
      rw [List.drop_drop]
theorem f_s_drop (ar : Int → Nat) (l : List Int) (a b : Nat) : f_s ar (l.drop a) b = f_s ar l (a + b) := by
  unfold f_s
  rw [List.drop_drop]
theorem kd_eq (ar : Int → Nat) {cs : List Int} {k p : Nat} (h : f_wf ar k cs) (hp : p < cs.length) : f_args ar (ar cs[p]) (cs.drop (p + 1)) = kd ar cs p (ar cs[p]) := by
  obtain ⟨m, -, -, h2⟩ := f_at ar h hp
  rw [f_args_at ar _ _ ⟨m, by rw [Nat.add_comm]; exact h2⟩]
  unfold kd
  apply List.map_congr_left
  intro i _
  rw [f_s_drop]
  rfl
theorem kd_fs (ar : Int → Nat) {cs : List Int} {k p : Nat} (h : f_wf ar k cs) (hp : p < cs.length) : f_s ar cs p = cs[p] :: (kd ar cs p (ar cs[p])).flatten := by
  obtain ⟨m, -, -, h2⟩ := f_at ar h hp
  have hs := (f_split ar _ (ar cs[p]) m (by rw [Nat.add_comm]; exact h2)).1
  have ho := (f_args_ok ar _ _ hs).1
  rw [f_args_tk ar (m := m) (by rw [Nat.add_comm]; exact h2), kd_eq ar h hp] at ho
  rw [f_s_c ar h hp, ho]
theorem kd_drop (ar : Int → Nat) (cs : List Int) (p : Nat) {n i : Nat} (h : i < n) : (kd ar cs p n).drop i = f_s ar cs (ap ar cs p i) :: (kd ar cs p n).drop (i + 1) := by
  have hl : i < (kd ar cs p n).length := by unfold kd; simpa using h
  rw [List.drop_eq_getElem_cons hl]
  congr 1
  simp [kd]
theorem kd_len (ar : Int → Nat) (cs : List Int) (p n : Nat) : (kd ar cs p n).length = n := by simp [kd]
theorem kd_end (ar : Int → Nat) (cs : List Int) (p n : Nat) : (kd ar cs p n).drop n = [] := List.drop_eq_nil_of_le (by rw [kd_len]; exact Nat.le_refl _)
theorem kd_wf (ar : Int → Nat) {cs : List Int} {k p : Nat} (h : f_wf ar k cs) (hp : p < cs.length) : ∀ a ∈ kd ar cs p (ar cs[p]), f_wf ar 1 a := by
  intro a ha
  unfold kd at ha
  obtain ⟨i, hi, rfl⟩ := List.mem_map.mp ha
  exact f_s_wf ar h (ap_lt ar h hp (List.mem_range.mp hi)).2
/-- two terms are the same if sign and terms are -/
theorem fs_eq (ar : Int → Nat) {cs : List Int} {k p q : Nat} (h : f_wf ar k cs) (hp : p < cs.length) (hq : q < cs.length) (hc : cs[p] = cs[q]) : f_s ar cs p = f_s ar cs q ↔ kd ar cs p (ar cs[p]) = kd ar cs q (ar cs[p]) := by
  have e1 := kd_fs ar h hp
  have e2 := kd_fs ar h hq
  have w1 := kd_wf ar h hp
  have w2 := kd_wf ar h hq
  rw [← hc] at e2 w2
  rw [e1, e2]
  constructor
  · intro hx
    exact f_cut_inj ar (by rw [kd_len, kd_len]) w1 w2 (List.cons.inj hx).2
  · intro hx
    rw [hx]
theorem fs_hd (ar : Int → Nat) {cs : List Int} {k p q : Nat} (h : f_wf ar k cs) (hp : p < cs.length) (hq : q < cs.length) (he : f_s ar cs p = f_s ar cs q) : cs[p] = cs[q] ∧ f_tk ar 1 (cs.drop p) = f_tk ar 1 (cs.drop q) := by
  refine ⟨?_, ?_⟩
  · rw [kd_fs ar h hp, kd_fs ar h hq] at he
    exact (List.cons.inj he).1
  · rw [← f_s_len, ← f_s_len, he]
/-- the greater one, by places -/
theorem gt_pl (ar : Int → Nat) {cs : List Int} {k p q : Nat} (h : f_wf ar k cs) (hp : p < cs.length) (hq : q < cs.length) :
    gt ar (f_s ar cs p) (f_s ar cs q) ↔ 0 ≤ cs[p] ∧ f_tk ar 1 (cs.drop q) ≤ f_tk ar 1 (cs.drop p) ∧ vle (f_s ar cs q) (f_s ar cs p) ∧ (f_tk ar 1 (cs.drop q) < f_tk ar 1 (cs.drop p) ∨ cs[q] < cs[p] ∨ (cs[q] = cs[p] ∧ gtL (gt ar) (kd ar cs p (ar cs[p])) (kd ar cs q (ar cs[p])))) := by
  have e1 := kd_fs ar h hp
  have e2 := kd_fs ar h hq
  have l1 := f_s_len ar cs p
  have l2 := f_s_len ar cs q
  have a1 : f_args ar (ar cs[p]) (kd ar cs p (ar cs[p])).flatten = kd ar cs p (ar cs[p]) := by
    have hk := f_args_ok ar (ar cs[p]) (kd ar cs p (ar cs[p])).flatten (by have := f_wf_flatten ar _ (kd_wf ar h hp); rwa [kd_len] at this)
    exact f_cut_inj ar (by rw [hk.2.1, kd_len]) hk.2.2 (kd_wf ar h hp) hk.1
  conv => lhs; rw [e1, e2]
  rw [gt_c, a1, ← e1, ← e2]
  rw [e1, List.length_cons] at l1
  rw [e2, List.length_cons] at l2
  have a2 : cs[q] = cs[p] → f_args ar (ar cs[p]) (kd ar cs q (ar cs[q])).flatten = kd ar cs q (ar cs[p]) := by
    intro hc
    have hk := f_args_ok ar (ar cs[q]) (kd ar cs q (ar cs[q])).flatten (by have := f_wf_flatten ar _ (kd_wf ar h hq); rwa [kd_len] at this)
    rw [← hc]
    exact f_cut_inj ar (by rw [hk.2.1, kd_len]) hk.2.2 (kd_wf ar h hq) hk.1
  constructor
  · rintro ⟨g1, g2, g3, g4⟩
    refine ⟨g1, by omega, g3, ?_⟩
    rcases g4 with g | g | ⟨g, g5⟩
    · left; omega
    · right; left; exact g
    · right; right; rw [a2 g] at g5; exact ⟨g, g5⟩
  · rintro ⟨g1, g2, g3, g4⟩
    refine ⟨g1, by omega, g3, ?_⟩
    rcases g4 with g | g | ⟨g, g5⟩
    · left; omega
    · right; left; exact g
    · right; right; rw [a2 g]; exact ⟨g, g5⟩
/-! matching: the places run on together -/
theorem mf_app (ar : Int → Nat) (pr : Int → Bool) (ss : List Int) : ∀ (u v : List Int) (a : Nat) (b : Int → Int), mf ar pr ss (u ++ v) a b = (mf ar pr ss u a b).bind (fun e => mf ar pr ss v e.1 e.2) := by
  intro u
  induction u with
  | nil => intro v a b; rfl
  | cons c u ih =>
    intro v a b
    simp only [List.cons_append, mf]
    split
    · split
      · split
        · split
          · rfl
          · exact ih v _ _
        · split
          · exact ih v _ _
          · rfl
      · split
        · exact ih v _ _
        · rfl
    · rfl
theorem mf_end (ar : Int → Nat) (pr : Int → Bool) (ss : List Int) (hv : ∀ c, c < 0 → ar c = 0) : ∀ (ps : List Int) (k j a : Nat) (b : Int → Int) (e : Nat) (bb : Int → Int), f_wf ar k ps → f_wf ar (k + j) (ss.drop a) → mf ar pr ss ps a b = some (e, bb) → e = a + f_tk ar k (ss.drop a) := by
  intro ps
  induction ps with
  | nil =>
    intro k j a b e bb hk _ h
    rw [f_wf_nil] at hk
    subst hk
    simp only [mf, Option.some.injEq, Prod.mk.injEq] at h
    rw [f_tk_0]
    omega
  | cons c ps ih =>
    intro k j a b e bb hk hs h
    cases k with
    | zero => rw [f_wf_0] at hk; cases hk
    | succ k =>
      rw [f_wf_c] at hk
      simp only [mf] at h
      by_cases ha : a < ss.length
      · rw [dif_pos ha] at h
        have hd := List.drop_eq_getElem_cons ha
        by_cases hc : c < 0
        · rw [if_pos hc] at h
          rw [hv c hc, Nat.add_zero] at hk
          have hs' : f_wf ar (1 + (k + j)) (ss.drop a) := by rw [show 1 + (k + j) = k + 1 + j by omega]; exact hs
          have h2 := (f_split ar _ 1 (k + j) hs').2
          rw [List.drop_drop] at h2
          have h3 := f_tk_add ar (k := 1) (j := k) (l := ss.drop a) ⟨j, by rw [show 1 + k + j = k + 1 + j by omega]; exact hs⟩
          rw [List.drop_drop] at h3
          rw [show k + 1 = 1 + k by omega, h3]
          split at h
          · split at h
            · cases h
            · have := ih k j _ _ e bb hk h2 h
              omega
          · split at h
            · have := ih k j _ _ e bb hk h2 h
              omega
            · cases h
        · rw [if_neg hc] at h
          split at h
          · rename_i hcc
            rw [hd, show k + 1 + j = (k + j) + 1 by omega, f_wf_c, hcc, show k + j + ar c = k + ar c + j by omega] at hs
            have := ih (k + ar c) j (a + 1) b e bb hk hs h
            rw [hd, f_tk_c, hcc]
            omega
          · cases h
      · rw [dif_neg ha] at h
        cases h
