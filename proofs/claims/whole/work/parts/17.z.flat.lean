/-! Terms as rows of codes: ar gives how many terms a code has behind it. -/
def f_tk (ar : Int → Nat) : Nat → List Int → Nat
  | 0, _ => 0
  | _ + 1, [] => 0
  | k + 1, c :: l => 1 + f_tk ar (k + ar c) l
def f_wf (ar : Int → Nat) : Nat → List Int → Prop
  | 0, l => l = []
  | _ + 1, [] => False
  | k + 1, c :: l => f_wf ar (k + ar c) l
theorem f_tk_0 (ar : Int → Nat) (l : List Int) : f_tk ar 0 l = 0 := by cases l <;> rfl
theorem f_tk_nil (ar : Int → Nat) (k : Nat) : f_tk ar k [] = 0 := by cases k <;> rfl
theorem f_tk_c (ar : Int → Nat) (k : Nat) (c : Int) (l : List Int) : f_tk ar (k + 1) (c :: l) = 1 + f_tk ar (k + ar c) l := rfl
theorem f_wf_0 (ar : Int → Nat) (l : List Int) : f_wf ar 0 l ↔ l = [] := by cases l <;> simp [f_wf]
theorem f_wf_nil (ar : Int → Nat) (k : Nat) : f_wf ar k [] ↔ k = 0 := by cases k <;> simp [f_wf]
theorem f_wf_c (ar : Int → Nat) (k : Nat) (c : Int) (l : List Int) : f_wf ar (k + 1) (c :: l) ↔ f_wf ar (k + ar c) l := Iff.rfl
theorem f_tk_le (ar : Int → Nat) : ∀ (l : List Int) (k : Nat), f_tk ar k l ≤ l.length := by
  intro l
  induction l with
  | nil => intro k; rw [f_tk_nil]; exact Nat.zero_le _
  | cons c l ih =>
    intro k
    cases k with
    | zero => rw [f_tk_0]; exact Nat.zero_le _
    | succ k =>
      have := ih (k + ar c)
      rw [f_tk_c, List.length_cons]
      omega
theorem f_wf_len (ar : Int → Nat) : ∀ (l : List Int) (k : Nat), f_wf ar k l → f_tk ar k l = l.length := by
  intro l
  induction l with
  | nil => intro k _; rw [f_tk_nil]; rfl
  | cons c l ih =>
    intro k h
    cases k with
    | zero => rw [f_wf_0] at h; cases h
    | succ k =>
      rw [f_wf_c] at h
      rw [f_tk_c, ih _ h, List.length_cons]
      omega
theorem f_wf_app (ar : Int → Nat) : ∀ (l r : List Int) (k j : Nat), f_wf ar k l → f_wf ar j r → f_wf ar (k + j) (l ++ r) := by
  intro l
  induction l with
  | nil =>
    intro r k j h h2
    rw [f_wf_nil] at h
    subst h
    simpa using h2
  | cons c l ih =>
    intro r k j h h2
    cases k with
    | zero => rw [f_wf_0] at h; cases h
    | succ k =>
      rw [f_wf_c] at h
      have := ih r (k + ar c) j h h2
      rw [show k + 1 + j = (k + j) + 1 by omega, List.cons_append, f_wf_c, show k + j + ar c = k + ar c + j by omega]
      exact this
theorem f_tk_app (ar : Int → Nat) : ∀ (l r : List Int) (k j : Nat), f_wf ar k l → f_tk ar (k + j) (l ++ r) = l.length + f_tk ar j r := by
  intro l
  induction l with
  | nil =>
    intro r k j h
    rw [f_wf_nil] at h
    subst h
    simp
  | cons c l ih =>
    intro r k j h
    cases k with
    | zero => rw [f_wf_0] at h; cases h
    | succ k =>
      rw [f_wf_c] at h
      rw [show k + 1 + j = (k + j) + 1 by omega, List.cons_append, f_tk_c, show k + j + ar c = k + ar c + j by omega, ih r _ j h, List.length_cons]
      omega
theorem f_split (ar : Int → Nat) : ∀ (l : List Int) (k j : Nat), f_wf ar (k + j) l → f_wf ar k (l.take (f_tk ar k l)) ∧ f_wf ar j (l.drop (f_tk ar k l)) := by
  intro l
  induction l with
  | nil =>
    intro k j h
    rw [f_wf_nil] at h
    have hk : k = 0 := by omega
    have hj : j = 0 := by omega
    subst hk; subst hj
    exact ⟨rfl, rfl⟩
  | cons c l ih =>
    intro k j h
    cases k with
    | zero =>
      rw [f_tk_0]
      refine ⟨rfl, ?_⟩
      simpa using h
    | succ k =>
      rw [show k + 1 + j = (k + j) + 1 by omega, f_wf_c, show k + j + ar c = (k + ar c) + j by omega] at h
      obtain ⟨h1, h2⟩ := ih _ _ h
      rw [f_tk_c, Nat.add_comm 1, List.take_succ_cons, List.drop_succ_cons, f_wf_c]
      exact ⟨h1, h2⟩
theorem f_uniq (ar : Int → Nat) {k : Nat} {l1 l2 r1 r2 : List Int} (h1 : f_wf ar k l1) (h2 : f_wf ar k l2) (h : l1 ++ r1 = l2 ++ r2) : l1 = l2 ∧ r1 = r2 := by
  have e1 := f_tk_app ar l1 r1 k 0 h1
  have e2 := f_tk_app ar l2 r2 k 0 h2
  rw [h, e2, f_tk_0, f_tk_0] at e1
  exact List.append_inj h (by omega)
theorem f_wf_ne (ar : Int → Nat) {k : Nat} {l : List Int} (h : f_wf ar (k + 1) l) : l ≠ [] := by
  rintro rfl
  rw [f_wf_nil] at h
  omega
theorem f_wf_tk (ar : Int → Nat) {k j : Nat} {l : List Int} (h : f_wf ar (k + j) l) : f_tk ar k l ≤ l.length ∧ (l.take (f_tk ar k l)).length = f_tk ar k l := by
  have := f_tk_le ar l k
  exact ⟨this, by rw [List.length_take]; omega⟩
/-- the first k terms, then j more -/
theorem f_tk_add (ar : Int → Nat) {k j : Nat} {l : List Int} (h : ∃ n, f_wf ar (k + j + n) l) : f_tk ar (k + j) l = f_tk ar k l + f_tk ar j (l.drop (f_tk ar k l)) := by
  obtain ⟨n, h⟩ := h
  rw [show k + j + n = k + (j + n) by omega] at h
  obtain ⟨h1, h2⟩ := f_split ar l k (j + n) h
  have e := f_tk_app ar (l.take (f_tk ar k l)) (l.drop (f_tk ar k l)) k j h1
  rw [List.take_append_drop, (f_wf_tk ar h).2] at e
  exact e
/-- values for variables -/
def f_sub (σ : Int → List Int) (l : List Int) : List Int := l.flatMap (fun c => if c < 0 then σ c else [c])
theorem f_sub_nil (σ : Int → List Int) : f_sub σ [] = [] := rfl
theorem f_sub_c (σ : Int → List Int) (c : Int) (l : List Int) : f_sub σ (c :: l) = (if c < 0 then σ c else [c]) ++ f_sub σ l := by simp [f_sub]
theorem f_sub_app (σ : Int → List Int) (l r : List Int) : f_sub σ (l ++ r) = f_sub σ l ++ f_sub σ r := by simp [f_sub]
theorem f_sub_wf (ar : Int → Nat) (σ : Int → List Int) (hv : ∀ c, c < 0 → ar c = 0) (hσ : ∀ c, c < 0 → f_wf ar 1 (σ c)) : ∀ (l : List Int) (k : Nat), f_wf ar k l → f_wf ar k (f_sub σ l) := by
  intro l
  induction l with
  | nil => intro k h; exact h
  | cons c l ih =>
    intro k h
    cases k with
    | zero => rw [f_wf_0] at h; cases h
    | succ k =>
      rw [f_wf_c] at h
      rw [f_sub_c]
      by_cases hc : c < 0
      · rw [if_pos hc, Nat.add_comm k 1]
        rw [hv c hc] at h
        exact f_wf_app ar _ _ 1 k (hσ c hc) (ih k h)
      · rw [if_neg hc, List.singleton_append, f_wf_c]
        exact ih _ h
theorem f_sub_sub (σ τ : Int → List Int) (l : List Int) : f_sub τ (f_sub σ l) = f_sub (fun c => f_sub τ (σ c)) l := by
  induction l with
  | nil => rfl
  | cons c l ih =>
    rw [f_sub_c, f_sub_app, ih, f_sub_c]
    by_cases hc : c < 0
    · simp [hc]
    · simp [hc, f_sub]
theorem f_sub_congr {σ τ : Int → List Int} {l : List Int} (h : ∀ c ∈ l, c < 0 → σ c = τ c) : f_sub σ l = f_sub τ l := by
  induction l with
  | nil => rfl
  | cons c l ih =>
    rw [f_sub_c, f_sub_c, ih (fun d hd => h d (List.mem_cons_of_mem _ hd))]
    by_cases hc : c < 0
    · rw [if_pos hc, if_pos hc, h c List.mem_cons_self hc]
    · rw [if_neg hc, if_neg hc]
/-- a row of k terms, cut -/
def f_args (ar : Int → Nat) : Nat → List Int → List (List Int)
  | 0, _ => []
  | k + 1, l => l.take (f_tk ar 1 l) :: f_args ar k (l.drop (f_tk ar 1 l))
theorem f_args_ok (ar : Int → Nat) : ∀ (k : Nat) (l : List Int), f_wf ar k l → (f_args ar k l).flatten = l ∧ (f_args ar k l).length = k ∧ ∀ a ∈ f_args ar k l, f_wf ar 1 a := by
  intro k
  induction k with
  | zero =>
    intro l h
    rw [f_wf_0] at h
    subst h
    exact ⟨rfl, rfl, fun a ha => by cases ha⟩
  | succ k ih =>
    intro l h
    rw [Nat.add_comm] at h
    obtain ⟨h1, h2⟩ := f_split ar l 1 k h
    obtain ⟨g1, g2, g3⟩ := ih _ h2
    refine ⟨?_, ?_, ?_⟩
    · show (l.take _ :: f_args ar k _).flatten = l
      rw [List.flatten_cons, g1, List.take_append_drop]
    · show (l.take _ :: f_args ar k _).length = _
      rw [List.length_cons, g2]
    · intro a ha
      rcases List.mem_cons.mp ha with rfl | ha
      · exact h1
      · exact g3 a ha
theorem f_wf_flatten (ar : Int → Nat) : ∀ (as : List (List Int)), (∀ a ∈ as, f_wf ar 1 a) → f_wf ar as.length as.flatten := by
  intro as
  induction as with
  | nil => intro _; rfl
  | cons a as ih =>
    intro h
    rw [List.flatten_cons, List.length_cons, Nat.add_comm]
    exact f_wf_app ar _ _ 1 _ (h a List.mem_cons_self) (ih fun b hb => h b (List.mem_cons_of_mem _ hb))
/-- a term is a code and the terms behind it -/
theorem f_cut (ar : Int → Nat) {t : List Int} (h : f_wf ar 1 t) : ∃ (c : Int) (as : List (List Int)), t = c :: as.flatten ∧ as.length = ar c ∧ ∀ a ∈ as, f_wf ar 1 a := by
  cases t with
  | nil => exact absurd rfl (f_wf_ne ar h)
  | cons c l =>
    rw [f_wf_c, Nat.zero_add] at h
    obtain ⟨g1, g2, g3⟩ := f_args_ok ar _ _ h
    exact ⟨c, f_args ar (ar c) l, by rw [g1], g2, g3⟩
theorem f_mk (ar : Int → Nat) {c : Int} {as : List (List Int)} (hl : as.length = ar c) (h : ∀ a ∈ as, f_wf ar 1 a) : f_wf ar 1 (c :: as.flatten) := by
  rw [f_wf_c, Nat.zero_add, ← hl]
  exact f_wf_flatten ar as h
theorem f_mem_len {as : List (List Int)} {a : List Int} (h : a ∈ as) : a.length ≤ as.flatten.length := by
  induction as with
  | nil => cases h
  | cons b as ih =>
    rw [List.flatten_cons, List.length_append]
    rcases List.mem_cons.mp h with rfl | h
    · omega
    · have := ih h
      omega
theorem f_ind (ar : Int → Nat) (P : List Int → Prop) (step : ∀ (c : Int) (as : List (List Int)), as.length = ar c → (∀ a ∈ as, f_wf ar 1 a) → (∀ a ∈ as, P a) → P (c :: as.flatten)) : ∀ t, f_wf ar 1 t → P t := by
  have key : ∀ n t, t.length ≤ n → f_wf ar 1 t → P t := by
    intro n
    induction n with
    | zero =>
      intro t hl h
      exact absurd (List.eq_nil_of_length_eq_zero (by omega)) (f_wf_ne ar h)
    | succ n ih =>
      intro t hl h
      obtain ⟨c, as, rfl, h1, h2⟩ := f_cut ar h
      refine step c as h1 h2 fun a ha => ih a ?_ (h2 a ha)
      have := f_mem_len ha
      rw [List.length_cons] at hl
      omega
  exact fun t h => key t.length t (Nat.le_refl _) h
theorem f_cut_inj (ar : Int → Nat) : ∀ {as bs : List (List Int)}, as.length = bs.length → (∀ a ∈ as, f_wf ar 1 a) → (∀ b ∈ bs, f_wf ar 1 b) → as.flatten = bs.flatten → as = bs := by
  intro as
  induction as with
  | nil =>
    intro bs hl _ _ _
    exact (List.eq_nil_of_length_eq_zero (by simpa using hl.symm)).symm
  | cons a as ih =>
    intro bs hl h1 h2 h
    cases bs with
    | nil => simp at hl
    | cons b bs =>
      rw [List.flatten_cons, List.flatten_cons] at h
      obtain ⟨e1, e2⟩ := f_uniq ar (h1 a List.mem_cons_self) (h2 b List.mem_cons_self) h
      rw [e1, ih (by simpa using hl) (fun c hc => h1 c (List.mem_cons_of_mem _ hc)) (fun c hc => h2 c (List.mem_cons_of_mem _ hc)) e2]
theorem f_drop (ar : Int → Nat) : ∀ (l : List Int) (k p : Nat), f_wf ar k l → p ≤ l.length → ∃ m, f_wf ar m (l.drop p) := by
  intro l
  induction l with
  | nil =>
    intro k p h hp
    exact ⟨k, by simpa using h⟩
  | cons c l ih =>
    intro k p h hp
    cases p with
    | zero => exact ⟨k, by simpa using h⟩
    | succ p =>
      cases k with
      | zero => rw [f_wf_0] at h; cases h
      | succ k =>
        rw [f_wf_c] at h
        exact ih _ p h (by simpa using hp)
/-- at a place of a term: the code there, and what stands behind it -/
theorem f_at (ar : Int → Nat) {l : List Int} {k p : Nat} (h : f_wf ar k l) (hp : p < l.length) : ∃ m, l.drop p = l[p] :: l.drop (p + 1) ∧ f_wf ar (m + 1) (l.drop p) ∧ f_wf ar (m + ar l[p]) (l.drop (p + 1)) := by
  obtain ⟨m, hm⟩ := f_drop ar l k p h (by omega)
  have e : l.drop p = l[p] :: l.drop (p + 1) := List.drop_eq_getElem_cons hp
  cases m with
  | zero => rw [e, f_wf_0] at hm; cases hm
  | succ m =>
    refine ⟨m, e, hm, ?_⟩
    rw [e, f_wf_c] at hm
    exact hm
theorem f_tk_lt (ar : Int → Nat) {k n : Nat} {l : List Int} (h : f_wf ar (k + (n + 1)) l) : f_tk ar k l < l.length := by
  obtain ⟨h1, h2⟩ := f_split ar l k (n + 1) h
  have h3 := f_wf_ne ar h2
  have h4 := f_tk_le ar l k
  by_cases h5 : f_tk ar k l = l.length
  · rw [h5, List.drop_length] at h3
    exact absurd rfl h3
  · omega
theorem f_tk_1 (ar : Int → Nat) {l : List Int} {k p : Nat} (h : f_wf ar k l) (hp : p < l.length) : f_tk ar 1 (l.drop p) = 1 + f_tk ar (ar l[p]) (l.drop (p + 1)) := by
  rw [List.drop_eq_getElem_cons hp, show (1 : Nat) = 0 + 1 from rfl, f_tk_c, Nat.zero_add]
