/-! the reference's trees: the nodes stand in the order of the row -/
theorem f_tk_pre (ar : Int → Nat) {u r : List Int} {k m : Nat} (h : f_wf ar (k + m) u) : f_tk ar k (u ++ r) = f_tk ar k u := by
  have hs := f_split ar u k m h
  have ht := f_wf_tk ar h
  have h9 := f_tk_app ar _ (u.drop (f_tk ar k u) ++ r) k 0 hs.1
  rw [← List.append_assoc, List.take_append_drop, f_tk_0, ht.2] at h9
  exact h9
/-- where the i-th term behind a place begins -/
def ap (ar : Int → Nat) (cs : List Int) (p i : Nat) : Nat := p + 1 + f_tk ar i (cs.drop (p + 1))
theorem ap_0 (ar : Int → Nat) (cs : List Int) (p : Nat) : ap ar cs p 0 = p + 1 := by unfold ap; rw [f_tk_0]
theorem ap_lt (ar : Int → Nat) {cs : List Int} {k p i : Nat} (h : f_wf ar k cs) (hp : p < cs.length) (hi : i < ar cs[p]) : p < ap ar cs p i ∧ ap ar cs p i < cs.length := by
  obtain ⟨m, -, -, h2⟩ := f_at ar h hp
  have h3 := f_tk_lt ar (k := i) (n := m + ar cs[p] - i - 1) (l := cs.drop (p + 1)) (by rw [show i + (m + ar cs[p] - i - 1 + 1) = m + ar cs[p] by omega]; exact h2)
  rw [List.length_drop] at h3
  unfold ap
  omega
theorem ap_s (ar : Int → Nat) {cs : List Int} {k p i : Nat} (h : f_wf ar k cs) (hp : p < cs.length) (hi : i < ar cs[p]) : ap ar cs p (i + 1) = ap ar cs p i + f_tk ar 1 (cs.drop (ap ar cs p i)) := by
  obtain ⟨m, -, -, h2⟩ := f_at ar h hp
  unfold ap
  rw [f_tk_add ar (k := i) (j := 1) ⟨m + ar cs[p] - i - 1, by rw [show i + 1 + (m + ar cs[p] - i - 1) = m + ar cs[p] by omega]; exact h2⟩, List.drop_drop]
  omega
theorem ap_end (ar : Int → Nat) {cs : List Int} {k p : Nat} (h : f_wf ar k cs) (hp : p < cs.length) : ap ar cs p (ar cs[p]) = p + f_tk ar 1 (cs.drop p) := by
  unfold ap
  rw [f_tk_1 ar h hp]
  omega
theorem ap_le (ar : Int → Nat) {cs : List Int} {k p : Nat} (h : f_wf ar k cs) (hp : p < cs.length) : ∀ {i j : Nat}, i ≤ j → j ≤ ar cs[p] → ap ar cs p i ≤ ap ar cs p j := by
  intro i j hij
  induction j with
  | zero => intro _; rw [show i = 0 by omega]; exact Nat.le_refl _
  | succ j ih =>
    intro hj
    by_cases e : i = j + 1
    · rw [e]; exact Nat.le_refl _
    · have := ih (by omega) (by omega)
      have := ap_s ar h hp (i := j) (by omega)
      omega
/-- the kid's size is less; it ends inside -/
theorem ap_kid (ar : Int → Nat) {cs : List Int} {k p i : Nat} (h : f_wf ar k cs) (hp : p < cs.length) (hi : i < ar cs[p]) : 0 < f_tk ar 1 (cs.drop (ap ar cs p i)) ∧ f_tk ar 1 (cs.drop (ap ar cs p i)) < f_tk ar 1 (cs.drop p) ∧ ap ar cs p i + f_tk ar 1 (cs.drop (ap ar cs p i)) ≤ p + f_tk ar 1 (cs.drop p) := by
  have h1 := ap_lt ar h hp hi
  have h2 := ap_s ar h hp hi
  have h3 := ap_le ar h hp (i := i + 1) (j := ar cs[p]) (by omega) (Nat.le_refl _)
  have h4 := ap_end ar h hp
  have h5 := f_s_pos ar h h1.2
  omega
/-- a row of terms as nodes, from a place on: sign, weight, first term behind it, and how the terms behind it hang together -/
def tr (ar : Int → Nat) (I : sI) (b : Int) (cs : List Int) : Prop := ∀ p : Nat, (h : p < cs.length) → I 114 (b + p) = cs[p] ∧ I 117 (b + p) = f_tk ar 1 (cs.drop p) ∧ I 115 (b + p) = (if ar cs[p] = 0 then -1 else b + p + 1) ∧ ∀ i : Nat, i < ar cs[p] → I 116 (b + ap ar cs p i) = if i + 1 < ar cs[p] then b + ap ar cs p (i + 1) else -1
theorem tr_upd {ar : Int → Nat} {I I' : sI} {b : Int} {cs : List Int} {k : Nat} (hw : f_wf ar k cs) (h : tr ar I b cs) (he : ∀ w, 114 ≤ w → w ≤ 117 → ∀ j, b ≤ j → j < b + cs.length → I' w j = I w j) : tr ar I' b cs := by
  intro p hp
  obtain ⟨h1, h2, h3, h4⟩ := h p hp
  refine ⟨by rw [he 114 (by omega) (by omega) _ (by omega) (by omega)]; exact h1, by rw [he 117 (by omega) (by omega) _ (by omega) (by omega)]; exact h2, by rw [he 115 (by omega) (by omega) _ (by omega) (by omega)]; exact h3, fun i hi => ?_⟩
  have := ap_lt ar hw hp hi
  rw [he 116 (by omega) (by omega) _ (by omega) (by omega)]
  exact h4 i hi
theorem tr_nil (ar : Int → Nat) (I : sI) (b : Int) : tr ar I b [] := by
  intro p hp
  simp at hp
theorem f_tk_at (ar : Int → Nat) {u r : List Int} {k p : Nat} (h : f_wf ar k u) (hp : p < u.length) : f_tk ar 1 ((u ++ r).drop p) = f_tk ar 1 (u.drop p) ∧ ∀ i, i ≤ ar u[p] → ap ar (u ++ r) p i = ap ar u p i := by
  obtain ⟨m, h1, h2, h3⟩ := f_at ar h hp
  refine ⟨?_, fun i hi => ?_⟩
  · rw [List.drop_append_of_le_length (by omega)]
    exact f_tk_pre ar (m := m) (by rw [Nat.add_comm]; exact h2)
  · unfold ap
    rw [List.drop_append_of_le_length (by omega), f_tk_pre ar (m := m + ar u[p] - i) (by rw [show i + (m + ar u[p] - i) = m + ar u[p] by omega]; exact h3)]
theorem tr_app {ar : Int → Nat} {I : sI} {b : Int} {l X : List Int} {k : Nat} (hw : f_wf ar k l) (h1 : tr ar I b l) (h2 : tr ar I (b + l.length) X) : tr ar I b (l ++ X) := by
  intro p hp
  by_cases hl : p < l.length
  · obtain ⟨g1, g2, g3, g4⟩ := h1 p hl
    have e : (l ++ X)[p] = l[p] := List.getElem_append_left hl
    obtain ⟨e1, e2⟩ := f_tk_at ar (r := X) hw hl
    rw [e, e1]
    refine ⟨g1, g2, g3, fun i hi => ?_⟩
    rw [e2 i (by omega), g4 i hi]
    by_cases hi2 : i + 1 < ar l[p]
    · rw [if_pos hi2, if_pos hi2, e2 (i + 1) (by omega)]
    · rw [if_neg hi2, if_neg hi2]
  · rw [List.length_append] at hp
    obtain ⟨g1, g2, g3, g4⟩ := h2 (p - l.length) (by omega)
    have e : (l ++ X)[p]'(by rw [List.length_append]; exact hp) = X[p - l.length]'(by omega) := List.getElem_append_right (by omega)
    have e0 : b + (l.length : Int) + ((p - l.length : Nat) : Int) = b + p := by omega
    have e1 : ∀ j, p ≤ j → (l ++ X).drop j = X.drop (j - l.length) := fun j hj => by
      rw [List.drop_append, List.drop_eq_nil_of_le (by omega), List.nil_append]
    have e2 : ∀ i, ap ar (l ++ X) p i = l.length + ap ar X (p - l.length) i := fun i => by
      unfold ap
      rw [e1 (p + 1) (by omega), show p + 1 - l.length = p - l.length + 1 by omega]
      omega
    rw [e, e1 p (Nat.le_refl _)]
    rw [e0] at g1 g2 g3
    refine ⟨g1, g2, g3, fun i hi => ?_⟩
    have := g4 i hi
    rw [e2, e2]
    rw [show b + ((l.length + ap ar X (p - l.length) i : Nat) : Int) = b + (l.length : Int) + (ap ar X (p - l.length) i : Nat) by omega, this]
    by_cases hi2 : i + 1 < ar X[p - l.length]
    · rw [if_pos hi2, if_pos hi2]
      omega
    · rw [if_neg hi2, if_neg hi2]
theorem f_tk_in (ar : Int → Nat) {l : List Int} {k m p : Nat} (h : f_wf ar (k + m) l) (hp : p < f_tk ar k l) : p + f_tk ar 1 (l.drop p) ≤ f_tk ar k l := by
  have hs := f_split ar l k m h
  have ht := f_wf_tk ar h
  have hp2 : p < (l.take (f_tk ar k l)).length := by rw [ht.2]; exact hp
  have h1 := (f_tk_at ar (r := l.drop (f_tk ar k l)) hs.1 hp2).1
  rw [List.take_append_drop] at h1
  have h2 := f_s_pos ar hs.1 hp2
  rw [ht.2] at h2
  rw [h1]
  exact h2.2
theorem f_tk_mono (ar : Int → Nat) {l : List Int} {k m j : Nat} (h : f_wf ar (k + m) l) (hj : j < k) : f_tk ar j l < f_tk ar k l := by
  have e := f_tk_add ar (k := j) (j := k - j) (l := l) ⟨m, by rw [show j + (k - j) + m = k + m by omega]; exact h⟩
  rw [show j + (k - j) = k by omega] at e
  have h2 := (f_split ar l j (k - j - 1 + m + 1) (by rw [show j + (k - j - 1 + m + 1) = k + m by omega]; exact h)).2
  cases hd : l.drop (f_tk ar j l) with
  | nil => exact absurd hd (f_wf_ne ar h2)
  | cons c r =>
    rw [hd, show k - j = (k - j - 1) + 1 by omega, f_tk_c] at e
    omega
/-- a node whose first i terms are there -/
def pt (ar : Int → Nat) (I : sI) (b c : Int) (i : Nat) (l : List Int) (la : Int) : Prop := I 114 b = c ∧ I 117 b = 1 + l.length ∧ I 115 b = (if i = 0 then -1 else b + 1) ∧ I 116 b = -1 ∧ f_wf ar i l ∧ tr ar I (b + 1) l ∧ (∀ j : Nat, j < i → I 116 (b + 1 + f_tk ar j l) = if j + 1 < i then b + 1 + f_tk ar (j + 1) l else -1) ∧ la = (if i = 0 then -1 else b + 1 + f_tk ar (i - 1) l)
def un (I : sI) (t la k : Int) : sI := sU (if la < 0 then sU I 115 t k else sU I 116 la k) 117 t (I 117 t + I 117 k)
theorem un_114 (I : sI) (t la k : Int) : un I t la k 114 = I 114 := by
  unfold un
  rw [sU_ne (by omega)]
  split <;> rw [sU_ne (by omega)]
theorem un_o (I : sI) (t la k : Int) {w : Nat} (h : w < 115 ∨ 117 < w) : un I t la k w = I w := by
  unfold un
  rw [sU_ne (by omega)]
  split <;> rw [sU_ne (by omega)]
theorem un_117 (I : sI) (t la k j : Int) : un I t la k 117 j = if j = t then I 117 t + I 117 k else I 117 j := by
  unfold un
  by_cases h : j = t
  · rw [if_pos h, h, hU_eq]
  · rw [if_neg h, hU_nj h]
    split <;> rw [sU_ne (by omega)]
theorem un_115 (I : sI) (t la k j : Int) : un I t la k 115 j = if la < 0 ∧ j = t then k else I 115 j := by
  unfold un
  rw [sU_ne (by omega)]
  by_cases hl : la < 0
  · rw [if_pos hl]
    by_cases h : j = t
    · rw [if_pos ⟨hl, h⟩, h, hU_eq]
    · rw [if_neg (fun x => h x.2), hU_nj h]
  · rw [if_neg hl, if_neg (fun x => hl x.1), sU_ne (by omega)]
theorem un_116 (I : sI) (t la k j : Int) : un I t la k 116 j = if 0 ≤ la ∧ j = la then k else I 116 j := by
  unfold un
  rw [sU_ne (by omega)]
  by_cases hl : la < 0
  · rw [if_pos hl, if_neg (fun x => by omega), sU_ne (by omega)]
  · rw [if_neg hl]
    by_cases h : j = la
    · rw [if_pos ⟨by omega, h⟩, h, hU_eq]
    · rw [if_neg (fun x => h x.2), hU_nj h]
theorem pt_done {ar : Int → Nat} {I : sI} {b c : Int} {l : List Int} {la : Int} (h : pt ar I b c (ar c) l la) : tr ar I b (c :: l) ∧ f_wf ar 1 (c :: l) ∧ I 116 b = -1 := by
  obtain ⟨h1, h2, h3, h4, h5, h6, h7, h8⟩ := h
  refine ⟨?_, ?_, h4⟩
  · intro p hp
    cases p with
    | zero =>
      refine ⟨by simpa using h1, ?_, ?_, ?_⟩
      · rw [List.drop_zero, show (1 : Nat) = 0 + 1 from rfl, f_tk_c, Nat.zero_add, f_wf_len ar _ _ h5]
        simpa using h2
      · simpa using h3
      · intro i hi
        have hi' : i < ar c := hi
        have := h7 i hi'
        unfold ap
        simp only [List.getElem_cons_zero, Nat.zero_add, List.drop_succ_cons, List.drop_zero] at *
        rw [show b + ((1 + f_tk ar i l : Nat) : Int) = b + 1 + f_tk ar i l by omega, this]
        by_cases hi2 : i + 1 < ar c
        · rw [if_pos hi2, if_pos hi2]
          omega
        · rw [if_neg hi2, if_neg hi2]
    | succ p =>
      have hp' : p < l.length := by simpa using hp
      obtain ⟨g1, g2, g3, g4⟩ := h6 p hp'
      have e0 : b + ((p + 1 : Nat) : Int) = b + 1 + p := by omega
      have e2 : ∀ i, ap ar (c :: l) (p + 1) i = 1 + ap ar l p i := fun i => by
        unfold ap
        rw [List.drop_succ_cons]
        omega
      rw [e0, List.drop_succ_cons, List.getElem_cons_succ]
      refine ⟨g1, g2, g3, fun i hi => ?_⟩
      have := g4 i hi
      rw [e2, e2, show b + ((1 + ap ar l p i : Nat) : Int) = b + 1 + ap ar l p i by omega, this]
      by_cases hi2 : i + 1 < ar l[p]
      · rw [if_pos hi2, if_pos hi2]
        omega
      · rw [if_neg hi2, if_neg hi2]
  · rw [f_wf_c, Nat.zero_add]
    exact h5
theorem pt_step {ar : Int → Nat} {I I1 : sI} {b c : Int} {i : Nat} {l X : List Int} {la : Int} (hb : 0 ≤ b) (h : pt ar I b c i l la) (he : ∀ w, 114 ≤ w → w ≤ 117 → ∀ j, b ≤ j → j < b + 1 + l.length → I1 w j = I w j)
    (hX : tr ar I1 (b + 1 + l.length) X) (hw : f_wf ar 1 X) (hr : I1 116 (b + 1 + l.length) = -1) : pt ar (un I1 b la (b + 1 + l.length)) b c (i + 1) (l ++ X) (b + 1 + l.length) := by
  obtain ⟨h1, h2, h3, h4, h5, h6, h7, h8⟩ := h
  have hXl : 0 < X.length := List.length_pos_iff.mpr (f_wf_ne ar hw)
  have hla : (i = 0 ∧ la < 0) ∨ (0 < i ∧ 0 ≤ la ∧ b + 1 ≤ la ∧ la < b + 1 + l.length) := by
    by_cases hi : i = 0
    · left; rw [if_pos hi] at h8; omega
    · right
      rw [if_neg hi] at h8
      have := f_tk_lt ar (k := i - 1) (n := 0) (l := l) (by rw [show i - 1 + (0 + 1) = i by omega]; exact h5)
      omega
  have hXw : I1 117 (b + 1 + l.length) = X.length := by
    have := (hX 0 hXl).2.1
    rw [List.drop_zero, f_wf_len ar _ _ hw] at this
    simpa using this
  have h5' : f_wf ar (i + 1) (l ++ X) := f_wf_app ar _ _ _ _ h5 hw
  refine ⟨?_, ?_, ?_, ?_, h5', ?_, ?_, ?_⟩
  · rw [un_114, he 114 (by omega) (by omega) b (by omega) (by omega)]; exact h1
  · rw [un_117, if_pos rfl, he 117 (by omega) (by omega) b (by omega) (by omega), h2, hXw, List.length_append]; omega
  · rw [un_115, if_neg (show ¬ i + 1 = 0 by omega)]
    rcases hla with ⟨g1, g2⟩ | ⟨g1, g2, g3, g4⟩
    · rw [if_pos ⟨g2, rfl⟩]
      subst g1
      rw [f_wf_0] at h5
      subst h5
      simp
    · rw [if_neg (fun x => by omega), he 115 (by omega) (by omega) b (by omega) (by omega), h3, if_neg (by omega)]
  · rw [un_116, if_neg (fun x => by omega), he 116 (by omega) (by omega) b (by omega) (by omega)]; exact h4
  · refine tr_app h5 ?_ ?_
    · intro p hp
      obtain ⟨g1, g2, g3, g4⟩ := h6 p hp
      refine ⟨?_, ?_, ?_, fun j hj => ?_⟩
      · rw [un_114, he 114 (by omega) (by omega) _ (by omega) (by omega)]; exact g1
      · rw [un_117, if_neg (by omega), he 117 (by omega) (by omega) _ (by omega) (by omega)]; exact g2
      · rw [un_115, if_neg (fun x => by omega), he 115 (by omega) (by omega) _ (by omega) (by omega)]; exact g3
      · have hj2 := ap_lt ar h5 hp hj
        have hne : ¬ (0 ≤ la ∧ b + 1 + (ap ar l p j : Nat) = la) := by
          rintro ⟨q1, q2⟩
          rcases hla with ⟨q3, q4⟩ | ⟨q3, -, -, -⟩
          · omega
          · rw [if_neg (show ¬ i = 0 by omega)] at h8
            have hx : f_tk ar (i - 1) l = ap ar l p j := by omega
            have h9 := f_tk_in ar (k := i - 1) (m := 1) (l := l) (p := p) (by rw [show i - 1 + 1 = i by omega]; exact h5) (by omega)
            have h10 := ap_kid ar h5 hp hj
            omega
        rw [un_116, if_neg hne, he 116 (by omega) (by omega) _ (by omega) (by omega)]
        exact g4 j hj
    · refine tr_upd hw hX (fun w g1 g2 j g3 g4 => ?_)
      rcases Nat.lt_or_ge w 115 with q | q
      · rw [un_o _ _ _ _ (by omega)]
      · rcases (show w = 115 ∨ w = 116 ∨ w = 117 by omega) with rfl | rfl | rfl
        · rw [un_115, if_neg (fun x => by omega)]
        · rw [un_116, if_neg (fun x => by omega)]
        · rw [un_117, if_neg (by omega)]
  · intro j hj
    by_cases e : j = i
    · subst e
      rw [f_tk_pre ar (m := 0) (by simpa using h5), f_wf_len ar _ _ h5, if_neg (by omega), un_116, if_neg (fun x => by omega)]
      exact hr
    · have e1 : f_tk ar j (l ++ X) = f_tk ar j l := f_tk_pre ar (m := i - j) (by rw [show j + (i - j) = i by omega]; exact h5)
      have e2 : f_tk ar (j + 1) (l ++ X) = f_tk ar (j + 1) l := f_tk_pre ar (m := i - j - 1) (by rw [show j + 1 + (i - j - 1) = i by omega]; exact h5)
      have hl := f_tk_lt ar (k := j) (n := i - j - 1) (l := l) (by rw [show j + (i - j - 1 + 1) = i by omega]; exact h5)
      rw [e1, e2, if_pos (by omega), un_116]
      rw [if_neg (show ¬ i = 0 by omega)] at h8
      by_cases e3 : j + 1 = i
      · rw [if_pos (by rw [h8, show i - 1 = j by omega]; omega), e3, f_wf_len ar _ _ h5]
      · have := f_tk_mono ar (l := l) (k := i - 1) (m := 1) (j := j) (by rw [show i - 1 + 1 = i by omega]; exact h5) (by omega)
        rw [if_neg (fun x => by omega), he 116 (by omega) (by omega) _ (by omega) (by omega), h7 j (by omega), if_pos (by omega)]
  · rw [if_neg (by omega)]
    have : f_tk ar i (l ++ X) = l.length := by
      rw [f_tk_pre ar (m := 0) (by simpa using h5), f_wf_len ar _ _ h5]
    rw [show i + 1 - 1 = i by omega, this]
