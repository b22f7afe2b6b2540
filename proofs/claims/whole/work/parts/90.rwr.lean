/-! rewriting: the rows one after the other -/
def rwR (ar : Int → Nat) (pr : Int → Bool) (ls ts : List Int) : Nat → List Int → Nat → List Int → Prop
  | 0, ss, n, w => n = 0 ∧ w = ss
  | f + 1, ss, n, w => (n = 0 ∧ w = ss ∧ ∀ p bb, p < ss.length → ¬ apX ar pr ls ts ss p bb) ∨ ∃ p bb m, p < ss.length ∧ (∀ q b2, q < p → ¬ apX ar pr ls ts ss q b2) ∧ apX ar pr ls ts ss p bb ∧ n = m + 1 ∧ rwR ar pr ls ts f (spl ar ss p (f_sub (vl ar ss bb) ts)) m w
theorem apX_uniq {ar : Int → Nat} {pr : Int → Bool} {ls ts ss : List Int} {p : Nat} {b b2 : Int → Int} (h : apX ar pr ls ts ss p b) (h2 : apX ar pr ls ts ss p b2) : b = b2 := by
  obtain ⟨⟨e, h3, -⟩, -⟩ := h
  obtain ⟨⟨e2, h4, -⟩, -⟩ := h2
  rw [h3] at h4
  cases h4
  rfl
theorem rwR_uniq {ar : Int → Nat} {pr : Int → Bool} {ls ts : List Int} : ∀ {f : Nat} {ss : List Int} {n n2 : Nat} {w w2 : List Int}, rwR ar pr ls ts f ss n w → rwR ar pr ls ts f ss n2 w2 → n = n2 ∧ w = w2 := by
  intro f
  induction f with
  | zero =>
    intro ss n n2 w w2 h h2
    exact ⟨h.1.trans h2.1.symm, h.2.trans h2.2.symm⟩
  | succ f ih =>
    intro ss n n2 w w2 h h2
    rcases h with ⟨a1, a2, a3⟩ | ⟨p, bb, m, a1, a2, a3, a4, a5⟩
    · rcases h2 with ⟨b1, b2, b3⟩ | ⟨p2, bb2, m2, b1, b2, b3, b4, b5⟩
      · exact ⟨a1.trans b1.symm, a2.trans b2.symm⟩
      · exact absurd b3 (a3 p2 bb2 b1)
    · rcases h2 with ⟨b1, b2, b3⟩ | ⟨p2, bb2, m2, b1, b2, b3, b4, b5⟩
      · exact absurd a3 (b3 p bb a1)
      · have hpp : p = p2 := by
          rcases Nat.lt_trichotomy p p2 with h | h | h
          · exact absurd a3 (b2 p bb h)
          · exact h
          · exact absurd b3 (a2 p2 bb2 h)
        subst hpp
        have hbb := apX_uniq a3 b3
        subst hbb
        obtain ⟨e1, e2⟩ := ih a5 b5
        exact ⟨by omega, e2⟩
theorem mf_free (ar : Int → Nat) (pr : Int → Bool) (ss : List Int) : ∀ (ps : List Int) (a : Nat) (b : Int → Int) (e : Nat) (bb : Int → Int) (v : Int), mf ar pr ss ps a b = some (e, bb) → b v = -1 → (-1 - v) ∉ ps → bb v = -1 := by
  intro ps
  induction ps with
  | nil =>
    intro a b e bb v h h1 _
    simp only [mf, Option.some.injEq, Prod.mk.injEq] at h
    rw [← h.2]
    exact h1
  | cons c ps ih =>
    intro a b e bb v h h1 h2
    have h3 : (-1 - v) ∉ ps := fun h => h2 (List.mem_cons_of_mem _ h)
    have h4 : v ≠ -1 - c := fun h => h2 (by rw [h, show -1 - (-1 - c) = c by omega]; exact List.mem_cons_self)
    simp only [mf] at h
    split at h
    · split at h
      · split at h
        · split at h
          · cases h
          · exact ih _ _ e bb v h (by unfold bU; rw [if_neg h4]; exact h1) h3
        · split at h
          · exact ih _ _ e bb v h h1 h3
          · cases h
      · split at h
        · exact ih _ _ e bb v h h1 h3
        · cases h
    · cases h
/-- a variable on the right that isn't on the left: no use -/
theorem apX_no {ar : Int → Nat} {pr : Int → Bool} {ls ts ss : List Int} {c : Int} (hc : c ∈ ts) (hn : c < 0) (hl : c ∉ ls) (p : Nat) (bb : Int → Int) : ¬ apX ar pr ls ts ss p bb := by
  rintro ⟨⟨e, h, -⟩, h2⟩
  exact h2 c hc hn (mf_free ar pr ss ls p _ e bb (-1 - c) h rfl (by rw [show -1 - (-1 - c) = c by omega]; exact hl))
theorem rwR_no {ar : Int → Nat} {pr : Int → Bool} {ls ts : List Int} (h : ∀ ss p bb, ¬ apX ar pr ls ts ss p bb) (f : Nat) (ss : List Int) : rwR ar pr ls ts f ss 0 ss := by
  cases f with
  | zero => exact ⟨rfl, rfl⟩
  | succ f => exact Or.inl ⟨rfl, rfl, fun p bb _ => h ss p bb⟩
/-- rows stay rows: wellformed, not longer, signs from before -/
theorem apX_ok {ar : Int → Nat} {pr : Int → Bool} {ls ts ss : List Int} (hv : ∀ c, c < 0 → ar c = 0) (htw : f_wf ar 1 ts) (hsw : f_wf ar 1 ss) {p : Nat} {bb : Int → Int} (hp : p < ss.length) (h : apX ar pr ls ts ss p bb) (hb : ∀ v, bb v = -1 ∨ (0 ≤ bb v ∧ bb v < ss.length)) : f_wf ar 1 (f_sub (vl ar ss bb) ts) ∧ f_wf ar 1 (spl ar ss p (f_sub (vl ar ss bb) ts)) ∧ (spl ar ss p (f_sub (vl ar ss bb) ts)).length ≤ ss.length ∧ ∀ c ∈ spl ar ss p (f_sub (vl ar ss bb) ts), c ∈ ss ∨ c ∈ ts := by
  obtain ⟨⟨e, h1, h2⟩, h3⟩ := h
  have hX : f_wf ar 1 (f_sub (vl ar ss bb) ts) := f_sub_wfr ar hv (fun c hc hn => by
    have h4 := h3 c hc hn
    have h5 := hb (-1 - c)
    exact f_s_wf ar hsw (by omega)) htw
  have hl := gt_len h2
  rw [f_s_len] at hl
  have hs := spl_len ar (ds := f_sub (vl ar ss bb) ts) hsw hp
  refine ⟨hX, spl_wf ar hsw hp hX, by omega, fun c hc => ?_⟩
  unfold spl at hc
  rcases List.mem_append.mp hc with h6 | h6
  · exact Or.inl (List.mem_of_mem_take h6)
  · rcases List.mem_append.mp h6 with h6 | h6
    · rcases f_sub_mem h6 with h7 | ⟨q, hq, hn, h7⟩
      · exact Or.inr h7.2
      · exact Or.inl (f_s_mem h7)
    · exact Or.inl (List.mem_of_mem_drop h6)
theorem mf_bb (ar : Int → Nat) (pr : Int → Bool) (ss : List Int) : ∀ (ps : List Int) (a : Nat) (b : Int → Int) (e : Nat) (bb : Int → Int), mf ar pr ss ps a b = some (e, bb) → (∀ v, b v = -1 ∨ (0 ≤ b v ∧ b v < ss.length)) → ∀ v, bb v = -1 ∨ (0 ≤ bb v ∧ bb v < ss.length) := by
  intro ps
  induction ps with
  | nil =>
    intro a b e bb h hb v
    simp only [mf, Option.some.injEq, Prod.mk.injEq] at h
    rw [← h.2]
    exact hb v
  | cons c ps ih =>
    intro a b e bb h hb
    simp only [mf] at h
    split at h
    · rename_i ha
      split at h
      · split at h
        · split at h
          · cases h
          · refine ih _ _ e bb h (fun v => ?_)
            unfold bU
            by_cases hv : v = -1 - c
            · rw [if_pos hv]; right; omega
            · rw [if_neg hv]; exact hb v
        · split at h
          · exact ih _ _ e bb h hb
          · cases h
      · split at h
        · exact ih _ _ e bb h hb
        · cases h
    · cases h
theorem apX_bb {ar : Int → Nat} {pr : Int → Bool} {ls ts ss : List Int} {p : Nat} {bb : Int → Int} (h : apX ar pr ls ts ss p bb) : ∀ v, bb v = -1 ∨ (0 ≤ bb v ∧ bb v < ss.length) := by
  obtain ⟨⟨e, h1, -⟩, -⟩ := h
  exact mf_bb ar pr ss ls p _ e bb h1 (fun v => Or.inl rfl)
theorem rwR_ok {ar : Int → Nat} {pr : Int → Bool} {ls ts : List Int} (hv : ∀ c, c < 0 → ar c = 0) (htw : f_wf ar 1 ts) : ∀ {f : Nat} {ss : List Int} {n : Nat} {w : List Int}, f_wf ar 1 ss → rwR ar pr ls ts f ss n w → f_wf ar 1 w ∧ w.length ≤ ss.length ∧ n ≤ f ∧ ∀ c ∈ w, c ∈ ss ∨ c ∈ ts := by
  intro f
  induction f with
  | zero =>
    intro ss n w hs h
    have h0 := h.1
    rw [h.2]
    exact ⟨hs, Nat.le_refl _, by omega, fun c hc => Or.inl hc⟩
  | succ f ih =>
    intro ss n w hs h
    rcases h with ⟨a1, a2, a3⟩ | ⟨p, bb, m, a1, a2, a3, a4, a5⟩
    · rw [a2]
      exact ⟨hs, Nat.le_refl _, by omega, fun c hc => Or.inl hc⟩
    · obtain ⟨q1, q2, q3, q4⟩ := apX_ok hv htw hs a1 a3 (apX_bb a3)
      obtain ⟨u1, u2, u3, u4⟩ := ih q2 a5
      refine ⟨u1, by omega, by omega, fun c hc => ?_⟩
      rcases u4 c hc with h1 | h1
      · exact q4 c h1
      · exact Or.inr h1
