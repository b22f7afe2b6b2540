/-! rows that differ in the names of their variables alone -/
theorem f_tk_arc (ar : Int → Nat) : ∀ (l l' : List Int) (k : Nat), l.map ar = l'.map ar → f_tk ar k l = f_tk ar k l' := by
  intro l
  induction l with
  | nil =>
    intro l' k h
    cases l' with
    | nil => rfl
    | cons c l' => simp at h
  | cons c l ih =>
    intro l' k h
    cases l' with
    | nil => simp at h
    | cons c' l' =>
      simp only [List.map_cons, List.cons.injEq] at h
      cases k with
      | zero => rw [f_tk_0, f_tk_0]
      | succ k => rw [f_tk_c, f_tk_c, h.1, ih l' _ h.2]
theorem f_wf_arc (ar : Int → Nat) : ∀ (l l' : List Int) (k : Nat), l.map ar = l'.map ar → f_wf ar k l → f_wf ar k l' := by
  intro l
  induction l with
  | nil =>
    intro l' k h hw
    cases l' with
    | nil => exact hw
    | cons c l' => simp at h
  | cons c l ih =>
    intro l' k h hw
    cases l' with
    | nil => simp at h
    | cons c' l' =>
      simp only [List.map_cons, List.cons.injEq] at h
      cases k with
      | zero => rw [f_wf_0] at hw; cases hw
      | succ k =>
        rw [f_wf_c] at hw ⊢
        rw [← h.1]
        exact ih l' _ h.2 hw
theorem tr_arc {ar : Int → Nat} {I I' : sI} {cs cs' : List Int} {k : Nat} (hw : f_wf ar k cs) (h : tr ar I 0 cs) (ha : cs.map ar = cs'.map ar) (h1 : ∀ w, 115 ≤ w → w ≤ 117 → I' w = I w) (h2 : ∀ p : Nat, (hp : p < cs'.length) → I' 114 p = cs'[p]) : tr ar I' 0 cs' := by
  have hl : cs.length = cs'.length := by have := congrArg List.length ha; simpa using this
  intro p hp
  have hp' : p < cs.length := by omega
  obtain ⟨g1, g2, g3, g4⟩ := h p hp'
  have e : ar cs'[p] = ar cs[p] := by
    have h3 : (cs.map ar)[p]'(by rw [List.length_map]; exact hp') = (cs'.map ar)[p]'(by rw [List.length_map]; exact hp) := by simp only [ha]
    rw [List.getElem_map, List.getElem_map] at h3
    exact h3.symm
  have ed : ∀ j, (cs.drop j).map ar = (cs'.drop j).map ar := fun j => by rw [List.map_drop, List.map_drop, ha]
  have ea : ∀ i, ap ar cs' p i = ap ar cs p i := fun i => by
    unfold ap
    rw [f_tk_arc ar _ _ i (ed (p + 1))]
  refine ⟨by rw [Int.zero_add]; exact h2 p hp, ?_, ?_, fun i hi => ?_⟩
  · rw [h1 117 (by omega) (by omega), g2, f_tk_arc ar _ _ 1 (ed p)]
  · rw [h1 115 (by omega) (by omega), g3, e]
  · rw [e] at hi ⊢
    rw [ea, ea, h1 116 (by omega) (by omega)]
    exact g4 i hi
theorem nml_app : ∀ (u v S : List Int), nml S (u ++ v) = nml (nml S u) v := by
  intro u
  induction u with
  | nil => intro v S; rfl
  | cons c u ih =>
    intro v S
    simp only [List.cons_append, nml]
    split
    · exact ih v _
    · exact ih v _
theorem cv_app {S R : List Int} {c : Int} (h : c < 0 → c ∈ S) : cv (S ++ R) c = cv S c := by
  unfold cv
  by_cases hc : c < 0
  · rw [if_pos hc, if_pos hc, idx_app (h hc)]
  · rw [if_neg hc, if_neg hc]
theorem cv_nml (S l : List Int) {c : Int} (h : c < 0 → c ∈ S) : cv (nml S l) c = cv S c := by
  obtain ⟨R, hR⟩ := nml_pre l S
  rw [hR]
  exact cv_app h
theorem cv_arr {ar : Int → Nat} (hv : ∀ c, c < 0 → ar c = 0) (S : List Int) (c : Int) : ar (cv S c) = ar c := by
  unfold cv
  by_cases hc : c < 0
  · rw [if_pos hc, hv c hc, hv _ (by omega)]
  · rw [if_neg hc]
/-- the searched name's place -/
theorem idx_first {S : List Int} {c : Int} {j : Nat} (hj : j < S.length) (h1 : S[j] = c) (h2 : ∀ i, (h : i < j) → S[i]'(by omega) ≠ c) : S.idxOf c = j := by
  induction S generalizing j with
  | nil => simp at hj
  | cons e S ih =>
    cases j with
    | zero =>
      simp only [List.getElem_cons_zero] at h1
      subst h1
      simp
    | succ j =>
      have h0 : e ≠ c := by
        have := h2 0 (by omega)
        simpa using this
      have := ih (j := j) (by simpa using hj) (by simpa using h1) (fun i hi => by
        have := h2 (i + 1) (by omega)
        simpa using this)
      have hb : (e == c) = false := by simpa using h0
      rw [List.idxOf_cons, hb, this]
      rfl
