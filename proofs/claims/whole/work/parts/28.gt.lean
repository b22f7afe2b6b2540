/-! which of two rows is greater -/
def gtL (R : List Int → List Int → Prop) : List (List Int) → List (List Int) → Prop
  | a :: as, b :: bs => (a = b ∧ gtL R as bs) ∨ (a ≠ b ∧ R a b)
  | _, _ => False
def gtF (ar : Int → Nat) : Nat → List Int → List Int → Prop
  | n + 1, c :: w, e :: u => 0 ≤ c ∧ u.length ≤ w.length ∧ vle (e :: u) (c :: w) ∧ (u.length < w.length ∨ e < c ∨ (e = c ∧ gtL (gtF ar n) (f_args ar (ar c) w) (f_args ar (ar c) u)))
  | _, _, _ => False
theorem gtL_congr {R R' : List Int → List Int → Prop} : ∀ {as bs : List (List Int)}, (∀ a ∈ as, ∀ b, R a b ↔ R' a b) → (gtL R as bs ↔ gtL R' as bs) := by
  intro as
  induction as with
  | nil => intro bs _; cases bs <;> exact Iff.rfl
  | cons a as ih =>
    intro bs h
    cases bs with
    | nil => exact Iff.rfl
    | cons b bs =>
      simp only [gtL]
      rw [ih (fun c hc => h c (List.mem_cons_of_mem _ hc)), h a List.mem_cons_self]
theorem f_args_len (ar : Int → Nat) : ∀ (k : Nat) (l : List Int), ∀ a ∈ f_args ar k l, a.length ≤ l.length := by
  intro k
  induction k with
  | zero => intro l a ha; simp [f_args] at ha
  | succ k ih =>
    intro l a ha
    simp only [f_args, List.mem_cons] at ha
    rcases ha with rfl | ha
    · rw [List.length_take]; omega
    · have := ih _ a ha
      rw [List.length_drop] at this
      omega
theorem gtF_fuel (ar : Int → Nat) : ∀ (n m : Nat) (w u : List Int), w.length ≤ n → w.length ≤ m → (gtF ar n w u ↔ gtF ar m w u) := by
  intro n
  induction n with
  | zero =>
    intro m w u h1 h2
    have : w = [] := List.length_eq_zero_iff.mp (by omega)
    subst this
    cases m <;> simp [gtF]
  | succ n ih =>
    intro m w u h1 h2
    cases w with
    | nil => cases m <;> simp [gtF]
    | cons c w =>
      cases u with
      | nil => cases m <;> simp [gtF]
      | cons e u =>
        cases m with
        | zero => simp at h2
        | succ m =>
          simp only [List.length_cons] at h1 h2
          simp only [gtF]
          rw [gtL_congr (R := gtF ar n) (R' := gtF ar m) (fun a ha b => ih m a b (by have := f_args_len ar _ _ a ha; omega) (by have := f_args_len ar _ _ a ha; omega))]
def gt (ar : Int → Nat) (w u : List Int) : Prop := gtF ar w.length w u
theorem gt_c (ar : Int → Nat) (c e : Int) (w u : List Int) : gt ar (c :: w) (e :: u) ↔ 0 ≤ c ∧ u.length ≤ w.length ∧ vle (e :: u) (c :: w) ∧ (u.length < w.length ∨ e < c ∨ (e = c ∧ gtL (gt ar) (f_args ar (ar c) w) (f_args ar (ar c) u))) := by
  show gtF ar (w.length + 1) (c :: w) (e :: u) ↔ _
  simp only [gtF]
  rw [gtL_congr (R := gtF ar w.length) (R' := gt ar) (fun a ha b => gtF_fuel ar _ _ a b (by have := f_args_len ar _ _ a ha; omega) (Nat.le_refl _))]
theorem gtL_irr {R : List Int → List Int → Prop} : ∀ (as : List (List Int)), ¬ gtL R as as := by
  intro as
  induction as with
  | nil => exact fun h => h
  | cons a as ih =>
    simp only [gtL]
    rintro (h | h)
    · exact ih h.2
    · exact h.1 rfl
theorem gt_irr (ar : Int → Nat) (w : List Int) : ¬ gt ar w w := by
  cases w with
  | nil => exact fun h => h
  | cons c w =>
    rw [gt_c]
    rintro ⟨-, -, -, h | h | h⟩
    · omega
    · omega
    · exact gtL_irr _ h.2
theorem f_args_app (ar : Int → Nat) : ∀ (k : Nat) (l r : List Int), f_wf ar k l → f_args ar k (l ++ r) = f_args ar k l := by
  intro k
  induction k with
  | zero => intro l r _; rfl
  | succ k ih =>
    intro l r h
    rw [Nat.add_comm] at h
    have hs := f_split ar l 1 k h
    have ht := f_wf_tk ar h
    have e1 : f_tk ar 1 (l ++ r) = f_tk ar 1 l := by
      have h9 := f_tk_app ar _ (l.drop (f_tk ar 1 l) ++ r) 1 0 hs.1
      rw [← List.append_assoc, List.take_append_drop, f_tk_0, ht.2] at h9
      exact h9
    simp only [f_args]
    rw [e1, List.take_append_of_le_length ht.1, List.drop_append_of_le_length ht.1, ih _ _ hs.2]
/-- the path down to the first difference -/
theorem gtL_path (ar : Int → Nat) (R : List Int → List Int → Prop) {w u : List Int} {d : Nat} (hw0 : f_wf ar 1 w) (hd : w[d]? ≠ u[d]?) (hlt : ∀ i, i < d → w[i]? = u[i]?) : ∀ (m m1 m2 q : Nat), f_wf ar (m + m1) (w.drop q) → f_wf ar (m + m2) (u.drop q) → q ≤ d → d < q + f_tk ar m (w.drop q) →
    ∃ j, q ≤ j ∧ j ≤ d ∧ d < j + f_tk ar 1 (w.drop j) ∧ (∀ i, q ≤ i → i < j → i + f_tk ar 1 (w.drop i) ≤ d) ∧ (gtL R (f_args ar m (w.drop q)) (f_args ar m (u.drop q)) ↔ R (f_s ar w j) (f_s ar u j)) := by
  intro m
  induction m with
  | zero =>
    intro m1 m2 q _ _ hq hdq
    rw [f_tk_0] at hdq
    omega
  | succ m ih =>
    intro m1 m2 q hw hu hq hdq
    have hw1 : f_wf ar (1 + (m + m1)) (w.drop q) := by rw [show 1 + (m + m1) = m + 1 + m1 by omega]; exact hw
    have hu1 : f_wf ar (1 + (m + m2)) (u.drop q) := by rw [show 1 + (m + m2) = m + 1 + m2 by omega]; exact hu
    have sw := f_split ar _ _ _ hw1
    have su := f_split ar _ _ _ hu1
    have tw1 := f_wf_tk ar hw1
    have tu1 := f_wf_tk ar hu1
    rw [List.length_drop] at tw1 tu1
    by_cases hc : q + f_tk ar 1 (w.drop q) ≤ d
    · -- the first ones are the same
      have heq : f_s ar w q = f_s ar u q := by
        refine f_same ar sw.1 su.1 (fun i h1 h2 => ?_)
        have h1' : i < f_tk ar 1 (w.drop q) := by rw [← tw1.2]; exact h1
        have h2' : i < f_tk ar 1 (u.drop q) := by rw [← tu1.2]; exact h2
        unfold f_s
        rw [List.getElem?_take_of_lt h1', List.getElem?_take_of_lt h2', List.getElem?_drop, List.getElem?_drop]
        exact hlt _ (by omega)
      have htk : f_tk ar 1 (u.drop q) = f_tk ar 1 (w.drop q) := by rw [← f_s_len, ← f_s_len, heq]
      have ek : f_tk ar (1 + m) (w.drop q) = f_tk ar 1 (w.drop q) + f_tk ar m ((w.drop q).drop (f_tk ar 1 (w.drop q))) := f_tk_add ar ⟨m1, by rw [show 1 + m + m1 = m + 1 + m1 by omega]; exact hw⟩
      rw [show m + 1 = 1 + m by omega, ek, List.drop_drop] at hdq
      have sw2 := sw.2
      have su2 := su.2
      rw [List.drop_drop] at sw2
      rw [htk, List.drop_drop] at su2
      obtain ⟨j, j1, j2, j3, j4, j5⟩ := ih m1 m2 (q + f_tk ar 1 (w.drop q)) sw2 su2 hc (by omega)
      refine ⟨j, by omega, j2, j3, fun i i1 i2 => ?_, ?_⟩
      · by_cases hi : q + f_tk ar 1 (w.drop q) ≤ i
        · exact j4 i hi i2
        · have hql : q < w.length := by
            have : 0 < (w.drop q).length := List.length_pos_iff.mpr (f_wf_ne ar (k := m + m1) (by rw [Nat.add_comm]; exact hw1))
            rw [List.length_drop] at this
            omega
          have hin : i - q < (f_s ar w q).length := by rw [f_s_len]; omega
          have g6 := (f_s_s ar hw0 hql hin).1
          rw [show q + (i - q) = i by omega] at g6
          obtain ⟨m9, g1, g2, g3⟩ := f_at ar sw.1 hin
          rw [Nat.add_comm] at g2
          have g5 := f_wf_tk ar g2
          have g7 : f_tk ar 1 ((f_s ar w q).drop (i - q)) ≤ ((f_s ar w q).drop (i - q)).length := g5.1
          rw [List.length_drop, f_s_len] at g7
          omega
      · simp only [f_args]
        rw [show (w.drop q).take (f_tk ar 1 (w.drop q)) = f_s ar w q from rfl, show (u.drop q).take (f_tk ar 1 (u.drop q)) = f_s ar u q from rfl, htk, List.drop_drop, List.drop_drop, heq]
        simp only [gtL, ne_eq, not_true_eq_false, false_and, or_false, true_and]
        exact j5
    · refine ⟨q, Nat.le_refl _, hq, by omega, fun i i1 i2 => by omega, ?_⟩
      have hne : f_s ar w q ≠ f_s ar u q := by
        intro h
        have h1 : d - q < (f_s ar w q).length := by rw [f_s_len]; omega
        have h2 : d - q < (f_s ar u q).length := by rw [← h]; exact h1
        rw [f_s_len] at h1 h2
        have e1 : (f_s ar w q)[d - q]? = w[d]? := by
          unfold f_s
          rw [List.getElem?_take_of_lt h1, List.getElem?_drop, show q + (d - q) = d by omega]
        have e2 : (f_s ar u q)[d - q]? = u[d]? := by
          unfold f_s
          rw [List.getElem?_take_of_lt h2, List.getElem?_drop, show q + (d - q) = d by omega]
        rw [← e1, ← e2, h] at hd
        exact hd rfl
      simp only [f_args]
      rw [show (w.drop q).take (f_tk ar 1 (w.drop q)) = f_s ar w q from rfl, show (u.drop q).take (f_tk ar 1 (u.drop q)) = f_s ar u q from rfl]
      simp only [gtL, ne_eq, hne, false_and, false_or, not_false_eq_true, true_and]
