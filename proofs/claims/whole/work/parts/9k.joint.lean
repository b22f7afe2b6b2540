/-! both benches: what holds between two calls -/
theorem f_tk_ar {ar ar' : Int → Nat} : ∀ (l : List Int) (k : Nat), (∀ c ∈ l, ar' c = ar c) → f_tk ar' k l = f_tk ar k l := by
  intro l
  induction l with
  | nil => intro k _; rw [f_tk_nil, f_tk_nil]
  | cons c l ih =>
    intro k h
    cases k with
    | zero => rw [f_tk_0, f_tk_0]
    | succ k => rw [f_tk_c, f_tk_c, h c List.mem_cons_self, ih _ (fun d hd => h d (List.mem_cons_of_mem _ hd))]
theorem f_wf_ar {ar ar' : Int → Nat} : ∀ (l : List Int) (k : Nat), (∀ c ∈ l, ar' c = ar c) → f_wf ar k l → f_wf ar' k l := by
  intro l
  induction l with
  | nil => intro k _ h; rw [f_wf_nil] at h ⊢; exact h
  | cons c l ih =>
    intro k h h2
    cases k with
    | zero => rw [f_wf_0] at h2; cases h2
    | succ k =>
      rw [f_wf_c] at h2 ⊢
      rw [h c List.mem_cons_self]
      exact ih _ (fun d hd => h d (List.mem_cons_of_mem _ hd)) h2
theorem f_s_ar {ar ar' : Int → Nat} (l : List Int) (p : Nat) (h : ∀ c ∈ l, ar' c = ar c) : f_s ar' l p = f_s ar l p := by
  unfold f_s
  rw [f_tk_ar (l.drop p) 1 (fun c hc => h c (List.mem_of_mem_drop hc))]
/-- k terms were lacking ahead of the row, m are lacking behind it -/
def f_pr (ar : Int → Nat) : List Int → Nat → Nat → Prop
  | [], k, m => k = m
  | c :: l, k, m => ∃ k', k = k' + 1 ∧ f_pr ar l (k' + ar c) m
theorem f_pr_ar {ar ar' : Int → Nat} : ∀ (l : List Int) (k m : Nat), (∀ c ∈ l, ar' c = ar c) → f_pr ar l k m → f_pr ar' l k m := by
  intro l
  induction l with
  | nil => intro k m _ h; exact h
  | cons c l ih =>
    intro k m h h2
    obtain ⟨k', e, h3⟩ := h2
    refine ⟨k', e, ?_⟩
    rw [h c List.mem_cons_self]
    exact ih _ _ (fun d hd => h d (List.mem_cons_of_mem _ hd)) h3
theorem f_pr_wf {ar : Int → Nat} : ∀ (l : List Int) (k : Nat), f_pr ar l k 0 → f_wf ar k l := by
  intro l
  induction l with
  | nil => intro k h; rw [f_wf_nil]; exact h
  | cons c l ih =>
    intro k h
    obtain ⟨k', e, h3⟩ := h
    subst e
    rw [f_wf_c]
    exact ih _ h3
theorem f_pr_app {ar : Int → Nat} {c : Int} : ∀ (l : List Int) (k m : Nat), f_pr ar l k (m + 1) → f_pr ar (l ++ [c]) k (m + ar c) := by
  intro l
  induction l with
  | nil =>
    intro k m h
    exact ⟨m, h, rfl⟩
  | cons d l ih =>
    intro k m h
    obtain ⟨k', e, h3⟩ := h
    exact ⟨k', e, ih _ _ h3⟩
def JB (c : Nat) (I : sI) (rw : List Int) (sl : Int → List Int) (sub : List Int) (mo : Int) (lv : Int → List Int) : Prop :=
  alf I ∧ (∀ e, I 2 2 ≤ e → I 3 e = 0) ∧ hSl I sl ∧ (tm I 54 rw ∧ f_pr (hArt I) rw 1 (I 1 3).toNat ∧ 0 ≤ I 1 3 ∧ I 54 2 + I 1 3 ≤ 100 ∧ cOkc I rw) ∧ (tw I 70 sub ∧ cOkc I sub ∧ bOk (I 69) sub.length) ∧ ((mo = 0 ∨ mo = 1) ∧ (mo = 0 → ∀ v, 0 ≤ v → v < 6 → I 69 v = -1) ∧ ∀ v, 0 ≤ v → v < 6 → lv v = lvO (hArt I) sub (I 69) v) ∧ (0 ≤ I 1 12 ∧ I 1 12 ≤ 60 * c)
def J (c : Nat) (I : sI) : Prop := ∃ rw sl sub mo lv, JB c I rw sl sub mo lv ∧ rS I (hArt I) (hPr I) (I 2 2) rw (I 1 3) (I 1 12) mo sl lv
section CJ
variable {c : Nat} {I I' : sI} {rw : List Int} {sl : Int → List Int} {sub : List Int} {mo : Int} {lv : Int → List Int} {ar : Int → Nat} {pr : Int → Bool} {ns lk nr : Int}
theorem hSl_fr (h : hSl I sl) (h2 : I' 2 = I 2) (h3 : I' 3 = I 3) (hw : ∀ w, 6 ≤ w → w < 54 → I' w = I w) : hSl I' sl := by
  intro a ha
  have hb := ha
  unfold okS at hb
  obtain ⟨g1, g2⟩ := h a ha
  refine ⟨tw_upd g1 (hw _ (by omega) (by omega)) (hw _ (by omega) (by omega)) (hw _ (by omega) (by omega)) h3, ?_⟩
  unfold cOkc
  rw [h2]
  exact g2
theorem hSl_set (h : hSl I sl) (h2 : I' 2 = I 2) (h3 : I' 3 = I 3) {z : Int} (hz : okS z) {o : List Int} (hw : ∀ w, 6 ≤ w → w < 54 → w ≠ 6 + 3 * z.toNat → w ≠ 6 + 3 * z.toNat + 1 → w ≠ 6 + 3 * z.toNat + 2 → I' w = I w) (ho : tw I' (6 + 3 * z.toNat) o) (hc : cOkc I o) : hSl I' (slU sl z o) := by
  intro a ha
  have hb := ha
  have hz' := hz
  unfold okS at hb hz'
  unfold slU
  by_cases haz : a = z
  · rw [if_pos haz, haz]
    refine ⟨ho, ?_⟩
    unfold cOkc
    rw [h2]
    exact hc
  · rw [if_neg haz]
    obtain ⟨g1, g2⟩ := h a ha
    refine ⟨tw_upd g1 (hw _ (by omega) (by omega) (by omega) (by omega) (by omega)) (hw _ (by omega) (by omega) (by omega) (by omega) (by omega)) (hw _ (by omega) (by omega) (by omega) (by omega) (by omega)) h3, ?_⟩
    unfold cOkc
    rw [h2]
    exact g2
theorem alf_fr (h : alf I) (h2 : I' 2 = I 2) (h3 : I' 3 = I 3) (h4 : I' 4 = I 4) : alf I' := by
  unfold alf
  rw [h2, h3, h4]
  exact h
theorem JB_mono (h : JB c I rw sl sub mo lv) : JB (c + 1) I rw sl sub mo lv := by
  obtain ⟨h1, h2, h3, h4, h5, h6, h7⟩ := h
  exact ⟨h1, h2, h3, h4, h5, h6, h7.1, by have := h7.2; omega⟩
/-- cells of the bench that carry what is between two calls -/
theorem JB_fr (h : JB c I rw sl sub mo lv) (h1 : I' 1 = I 1) (h2 : I' 2 = I 2) (h3 : I' 3 = I 3) (h4 : I' 4 = I 4) (hw : ∀ w, 6 ≤ w → w < 54 → I' w = I w) (h54 : I' 54 = I 54) (h55 : I' 55 = I 55) (h69 : I' 69 = I 69) (h70 : I' 70 = I 70) (h71 : I' 71 = I 71) (h72 : I' 72 = I 72) : JB c I' rw sl sub mo lv := by
  obtain ⟨g1, g2, g3, g4, g5, g6, g7⟩ := h
  have ha := hArt_eq h3
  refine ⟨alf_fr g1 h2 h3 h4, by rw [h2, h3]; exact g2, hSl_fr g3 h2 h3 hw, ⟨tm_upd g4.1 h54 h55, by rw [ha, h1]; exact g4.2.1, by rw [h1]; exact g4.2.2.1, by rw [h1, h54]; exact g4.2.2.2.1, ?_⟩, ⟨tw_upd g5.1 h70 h71 h72 h3, ?_, by rw [h69]; exact g5.2.2⟩, by rw [h69, ha]; exact g6, by rw [h1]; exact g7⟩
  · unfold cOkc
    rw [h2]
    exact g4.2.2.2.2
  · unfold cOkc
    rw [h2]
    exact g5.2.1
theorem JB_84 (h : JB c I rw sl sub mo lv) (hw : ∀ w, w < 84 → I' w = I w) : JB c I' rw sl sub mo lv :=
  JB_fr h (hw _ (by omega)) (hw _ (by omega)) (hw _ (by omega)) (hw _ (by omega)) (fun w _ h => hw w (by omega)) (hw _ (by omega)) (hw _ (by omega)) (hw _ (by omega)) (hw _ (by omega)) (hw _ (by omega)) (hw _ (by omega))
theorem rS_fr (h : rS I ar pr ns rw lk nr mo sl lv) (hw : ∀ w, 84 ≤ w → w ≤ 123 → I' w = I w) : rS I' ar pr ns rw lk nr mo sl lv := by
  obtain ⟨h1, h2, h3, h4, h5, h6, h7, h8, h9⟩ := h
  have e84 := hw 84 (by omega) (by omega)
  refine ⟨by rw [e84]; exact h1, ⟨h2.1, fun c g1 g2 => by rw [hw 85 (by omega) (by omega)]; exact h2.2 c g1 g2⟩, ⟨h3.1, fun c g1 g2 => by rw [hw 87 (by omega) (by omega)]; exact h3.2 c g1 g2⟩, ?_, by rw [e84]; exact h5, by rw [e84]; exact h6, by rw [e84]; exact h7, fun a ha => ?_, fun v g1 g2 => ?_⟩
  · unfold rL
    rw [e84, hw 86 (by omega) (by omega)]
    exact h4
  · have hb := ha
    unfold okS at hb
    unfold rL
    rw [hw 105 (by omega) (by omega), hw (89 + a.toNat) (by omega) (by omega)]
    exact h8 a ha
  · unfold rL
    rw [hw 113 (by omega) (by omega), hw (107 + v.toNat) (by omega) (by omega)]
    exact h9 v g1 g2
theorem JB_wS (h : JB c I rw sl sub mo lv) : wS (hArt I) sl := by
  intro a ha
  obtain ⟨g1, g2⟩ := h.2.2.1 a ha
  refine ⟨g1.2.2, g1.1.2.1, fun e he => ?_⟩
  have := g2 e he
  have := h.1.1
  omega
end CJ
/-! one call of the law, at both benches -/
section COP
variable {l : Launch} {G : sG} {L : Nat} {c : Nat} {I : sI}
def opQ (l : Launch) (G : sG) (L c : Nat) (I : sI) (M : sM) (as : List sV) : Int → sI → Prop := fun k I1 => I1 0 = I 0 ∧ sCall l G M (sRm 404 0) (.inr (.inl 84) :: as) (hS L 1 I1) (qE L 1 (fun q I2 => I2 84 0 = k ∧ (k = 0 → I2 124 0 = q) ∧ J (c + 1) I2 ∧ I2 0 = I 0))
/-- what the reference answers where the bench has answered r -/
def anQ (f : Nat → Int) (r : Int ⊕ Nat) (q t : Int) : Prop := match r with
  | .inl v => t = 0 ∧ q = v
  | .inr n => t = f n
def stQ (f : Nat → Int) (c : Nat) (r : Int ⊕ Nat) (I0 I1 : sI) : Int → sI → Prop := fun q I2 => anQ f r q (I2 84 0) ∧ fR I1 I2 ∧ ∃ rw sl sub mo lv, JB (c + 1) I0 rw sl sub mo lv ∧ rS I2 (hArt I0) (hPr I0) (I0 2 2) rw (I0 1 3) (I0 1 12) mo sl lv
theorem op_of {M ML : sM} {as as2 : List sV} {kk : Nat} {f : Nat → Int} {P : Int ⊕ Nat → sI → Prop} (hf : ∀ n, f n ≠ 0) (hcall : sCall l G ML (sRm 8 kk) as (hS L 1 I) (qE L 1 (wQ f P)))
    (hst : ∀ r I0, P r I0 → I0 0 = I 0 ∧ ∀ I1, (∀ w, w ≠ 124 → I1 w = I0 w) → sCall l G M (sRm 404 0) (.inr (.inl 84) :: as2) (hS L 1 I1) (qE L 1 (stQ f c r I0 I1))) : sCall l G ML (sRm 8 kk) as (hS L 1 I) (qE L 1 (opQ l G L c I M as2)) := by
  refine sCall_mono hcall (fun r S' h => ?_)
  obtain ⟨k, I1, rfl, rfl, r0, I0, hP, hk⟩ := h
  obtain ⟨h0, h1⟩ := hst r0 I0 hP
  refine ⟨k, I1, rfl, rfl, ?_⟩
  have h124 : ∀ w, w ≠ 124 → I1 w = I0 w := fun w hw => by
    rcases hk with ⟨v, -, -, e⟩ | ⟨n, -, -, e⟩
    · rw [e, sU_ne hw]
    · rw [e]
  refine ⟨by rw [h124 0 (by omega)]; exact h0, sCall_mono (h1 I1 h124) (fun r2 S2 h2 => ?_)⟩
  obtain ⟨q, I2, rfl, rfl, a1, a2, rw, sl, sub, mo, lv, b1, b2⟩ := h2
  have e2 : ∀ w, w < 84 → I2 w = I0 w := fun w hw => by rw [a2 w (by omega), h124 w (by omega)]
  refine ⟨q, I2, rfl, rfl, ?_, fun hk0 => ?_, ⟨rw, sl, sub, mo, lv, JB_84 b1 e2, ?_⟩, by rw [e2 0 (by omega)]; exact h0⟩
  · rcases hk with ⟨v, e, ek, -⟩ | ⟨n, e, ek, -⟩
    · subst e
      rw [ek]
      exact a1.1
    · subst e
      rw [ek]
      exact a1
  · rcases hk with ⟨v, e, ek, ei⟩ | ⟨n, e, ek, -⟩
    · subst e
      rw [a2 124 (by omega), ei, hU_eq]
      exact a1.2.symm
    · exact absurd (ek.symm.trans hk0) (hf n)
  · rw [hArt_eq (e2 3 (by omega)), hPr_eq (e2 4 (by omega)), e2 2 (by omega), e2 1 (by omega)]
    exact b2
end COP
