/-! most general values are one up to names -/
theorem f_sub_map {σ : Int → List Int} : ∀ {l : List Int}, (∀ c ∈ l, c < 0 → 0 < (σ c).length) → (f_sub σ l).length ≤ l.length → f_sub σ l = l.map (fun c => if c < 0 then (σ c).headD 0 else c) := by
  intro l
  induction l with
  | nil => intro _ _; rfl
  | cons e l ih =>
    intro h hl
    have h1 := f_sub_len_ge (σ := σ) (l := l) (fun c hc => h c (List.mem_cons_of_mem _ hc))
    rw [f_sub_c, List.length_append, List.length_cons] at hl
    rw [f_sub_c, List.map_cons]
    by_cases he : e < 0
    · rw [if_pos he] at hl ⊢
      have h2 := h e List.mem_cons_self he
      rw [if_pos he, ih (fun c hc => h c (List.mem_cons_of_mem _ hc)) (by omega)]
      have h3 : (σ e).length = 1 := by omega
      obtain ⟨a, ha⟩ := List.length_eq_one_iff.mp h3
      rw [ha]
      rfl
    · rw [if_neg he] at hl ⊢
      rw [List.length_singleton] at hl
      rw [if_neg he, ih (fun c hc => h c (List.mem_cons_of_mem _ hc)) (by omega)]
      rfl
theorem nml_map {g : Int → Int} {D : Int → Prop} (hin : ∀ a b, D a → D b → g a = g b → a = b) : ∀ (l S : List Int), (∀ c ∈ S, D c) → (∀ c ∈ l, c < 0 → D c ∧ g c < 0) → (∀ c ∈ l, ¬ c < 0 → ¬ g c < 0) → nml (S.map g) (l.map g) = (nml S l).map g := by
  intro l
  induction l with
  | nil => intro S _ _ _; rfl
  | cons e l ih =>
    intro S hS h1 h2
    have t1 : ∀ c ∈ l, c < 0 → D c ∧ g c < 0 := fun c hc => h1 c (List.mem_cons_of_mem _ hc)
    have t2 : ∀ c ∈ l, ¬ c < 0 → ¬ g c < 0 := fun c hc => h2 c (List.mem_cons_of_mem _ hc)
    rw [List.map_cons]
    simp only [nml]
    by_cases he : e < 0
    · obtain ⟨d1, d2⟩ := h1 e List.mem_cons_self he
      have hmem : g e ∈ S.map g ↔ e ∈ S := by
        constructor
        · intro h
          obtain ⟨a, ha, hae⟩ := List.mem_map.mp h
          rw [← hin a e (hS a ha) d1 hae]
          exact ha
        · exact fun h => List.mem_map.mpr ⟨e, h, rfl⟩
      by_cases hm : e ∈ S
      · rw [if_neg (fun h => h.2 (hmem.mpr hm)), if_neg (fun h => h.2 hm)]
        exact ih S hS t1 t2
      · rw [if_pos ⟨d2, fun h => hm (hmem.mp h)⟩, if_pos ⟨he, hm⟩]
        have := ih (S ++ [e]) (fun c hc => by
          rcases List.mem_append.mp hc with h | h
          · exact hS c h
          · rw [List.mem_singleton] at h; subst h; exact d1) t1 t2
        rw [List.map_append, List.map_cons, List.map_nil] at this
        exact this
    · rw [if_neg (fun h => h2 e List.mem_cons_self he h.1), if_neg (fun h => he h.1)]
      exact ih S hS t1 t2
theorem idx_map {g : Int → Int} {D : Int → Prop} (hin : ∀ a b, D a → D b → g a = g b → a = b) {c : Int} (hc : D c) : ∀ (S : List Int), (∀ e ∈ S, D e) → (S.map g).idxOf (g c) = S.idxOf c := by
  intro S
  induction S with
  | nil => intro _; rfl
  | cons e S ih =>
    intro h
    rw [List.map_cons, List.idxOf_cons, List.idxOf_cons, ih (fun x hx => h x (List.mem_cons_of_mem _ hx))]
    by_cases he : e = c
    · simp [he]
    · have h1 : ¬ g e = g c := fun h9 => he (hin e c (h e List.mem_cons_self) hc h9)
      have e1 : (e == c) = false := by simpa using he
      have e2 : (g e == g c) = false := by simpa using h1
      rw [e1, e2]
theorem canon_map {g : Int → Int} {X : List Int} (hin : ∀ a b, (a ∈ X ∧ a < 0) → (b ∈ X ∧ b < 0) → g a = g b → a = b) (h1 : ∀ c ∈ X, c < 0 → g c < 0) (h2 : ∀ c ∈ X, ¬ c < 0 → g c = c) : canon (X.map g) = canon X ∧ (nml [] (X.map g)).length = (nml [] X).length := by
  have e := nml_map (g := g) (D := fun c => c ∈ X ∧ c < 0) hin X [] (fun c hc => by cases hc) (fun c hc hn => ⟨⟨hc, hn⟩, h1 c hc hn⟩) (fun c hc hn => by rw [h2 c hc hn]; exact hn)
  rw [List.map_nil] at e
  refine ⟨?_, by rw [e, List.length_map]⟩
  unfold canon
  rw [e, List.map_map]
  refine List.map_congr_left (fun c hc => ?_)
  show cv ((nml [] X).map g) (g c) = cv (nml [] X) c
  unfold cv
  by_cases hn : c < 0
  · rw [if_pos hn, if_pos (h1 c hc hn), idx_map (g := g) (D := fun c => c ∈ X ∧ c < 0) hin ⟨hc, hn⟩ (nml [] X) (fun x hx => by
      rcases (nml_mem _ _ _).mp hx with h | h
      · cases h
      · exact h)]
  · rw [if_neg hn, if_neg (by rw [h2 c hc hn]; exact hn), h2 c hc hn]
theorem mgu_uniq {ar : Int → Nat} {pr : Int → Bool} {s t : List Int} {θ τ : Int → List Int} (h1 : mgu ar pr s t θ) (h2 : mgu ar pr s t τ) (hb : ∀ c ∈ s, -12 ≤ c) : (f_sub θ s).length = (f_sub τ s).length ∧ canon (f_sub θ s) = canon (f_sub τ s) ∧ (nml [] (f_sub θ s)).length = (nml [] (f_sub τ s)).length := by
  have e1 : f_sub τ (f_sub θ s) = f_sub τ s := by
    rw [f_sub_sub]
    exact f_sub_congr (fun c hc hn => h1.2 τ h2.1 c (hb c hc) hn)
  have e2 : f_sub θ (f_sub τ s) = f_sub θ s := by
    rw [f_sub_sub]
    exact f_sub_congr (fun c hc hn => h2.2 θ h1.1 c (hb c hc) hn)
  have p1 : ∀ c, c < 0 → 0 < (θ c).length := fun c hc => List.length_pos_iff.mpr (f_wf_ne ar (h1.1.1 c hc).1)
  have p2 : ∀ c, c < 0 → 0 < (τ c).length := fun c hc => List.length_pos_iff.mpr (f_wf_ne ar (h2.1.1 c hc).1)
  have l1 := f_sub_len_ge (σ := τ) (l := f_sub θ s) (fun c _ hc => p2 c hc)
  have l2 := f_sub_len_ge (σ := θ) (l := f_sub τ s) (fun c _ hc => p1 c hc)
  rw [e1] at l1
  rw [e2] at l2
  have m1 := f_sub_map (σ := τ) (l := f_sub θ s) (fun c _ hc => p2 c hc) (by rw [e1]; exact l2)
  have m2 := f_sub_map (σ := θ) (l := f_sub τ s) (fun c _ hc => p1 c hc) (by rw [e2]; exact l1)
  rw [e1] at m1
  rw [e2] at m2
  generalize f_sub θ s = X at *
  generalize f_sub τ s = Y at *
  have back : ∀ c ∈ X, (fun c => if c < 0 then (θ c).headD 0 else c) ((fun c => if c < 0 then (τ c).headD 0 else c) c) = c := by
    intro c hc
    obtain ⟨k, hk, rfl⟩ := List.getElem_of_mem hc
    have h9 : (Y.map (fun c => if c < 0 then (θ c).headD 0 else c))[k]? = X[k]? := by rw [← m2]
    rw [m1, List.map_map, List.getElem?_map, List.getElem?_eq_getElem hk] at h9
    exact Option.some.inj h9
  have hneg : ∀ c ∈ X, c < 0 → (fun c => if c < 0 then (τ c).headD 0 else c) c < 0 := by
    intro c hc hn
    have h9 := back c hc
    refine Decidable.byContradiction (fun h => ?_)
    dsimp only at h9 h
    rw [if_neg h] at h9
    omega
  have := canon_map (g := fun c => if c < 0 then (τ c).headD 0 else c) (X := X) (fun a b ha hb h => by
    have x1 := back a ha.1
    have x2 := back b hb.1
    exact x1.symm.trans ((congrArg (fun c => if c < 0 then (θ c).headD 0 else c) h).trans x2)) hneg (fun c _ hn => by show (if c < 0 then _ else c) = c; rw [if_neg hn])
  rw [← m1] at this
  exact ⟨by omega, this.1.symm, this.2.symm⟩
/-- the answer of unify: no values; too large; the row -/
def uAns (ar : Int → Nat) (pr : Int → Bool) (s t : List Int) (r : Int) (out : List Int) : Prop :=
  (r = 0 ∧ ∀ σ, ¬ gu ar pr s t σ) ∨ ∃ θ, mgu ar pr s t θ ∧ ((r = -1 ∧ (100 < (f_sub θ s).length ∨ 6 < (nml [] (f_sub θ s)).length)) ∨ (r = 1 ∧ (f_sub θ s).length ≤ 100 ∧ (nml [] (f_sub θ s)).length ≤ 6 ∧ out = canon (f_sub θ s)))
theorem uAns_uniq {ar : Int → Nat} {pr : Int → Bool} {s t : List Int} {r r' : Int} {o o' : List Int} (hb : ∀ c ∈ s, -12 ≤ c) (h : uAns ar pr s t r o) (h' : uAns ar pr s t r' o') : r = r' ∧ (r = 1 → o = o') := by
  rcases h with ⟨h1, h2⟩ | ⟨θ, h1, h2⟩
  · rcases h' with ⟨g1, g2⟩ | ⟨τ, g1, g2⟩
    · exact ⟨by omega, fun h => by omega⟩
    · exact absurd g1.1 (h2 τ)
  · rcases h' with ⟨g1, g2⟩ | ⟨τ, g1, g2⟩
    · exact absurd h1.1 (g2 θ)
    · obtain ⟨u1, u2, u3⟩ := mgu_uniq h1 g1 hb
      rcases h2 with ⟨a1, a2⟩ | ⟨a1, a2, a3, a4⟩
      · rcases g2 with ⟨b1, b2⟩ | ⟨b1, b2, b3, b4⟩
        · exact ⟨by omega, fun h => by omega⟩
        · exact absurd a2 (by omega)
      · rcases g2 with ⟨b1, b2⟩ | ⟨b1, b2, b3, b4⟩
        · exact absurd b2 (by omega)
        · exact ⟨by omega, fun _ => by rw [a4, b4, u2]⟩
