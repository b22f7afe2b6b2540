/-! a row inside a longer one -/
theorem em_at (ar : Int → Nat) {A ss C : List Int} {k p : Nat} (h : f_wf ar k ss) (hp : p < ss.length) : ∃ hq : A.length + p < (A ++ (ss ++ C)).length, (A ++ (ss ++ C))[A.length + p] = ss[p] ∧ f_tk ar 1 ((A ++ (ss ++ C)).drop (A.length + p)) = f_tk ar 1 (ss.drop p) ∧ f_s ar (A ++ (ss ++ C)) (A.length + p) = f_s ar ss p ∧ ∀ i, i ≤ ar ss[p] → ap ar (A ++ (ss ++ C)) (A.length + p) i = A.length + ap ar ss p i := by
  have hq : A.length + p < (A ++ (ss ++ C)).length := by rw [List.length_append, List.length_append]; omega
  have hd : ∀ j, j ≤ ss.length → (A ++ (ss ++ C)).drop (A.length + j) = ss.drop j ++ C := fun j hj => by
    rw [List.drop_append, List.drop_eq_nil_of_le (by omega), List.nil_append, show A.length + j - A.length = j by omega, List.drop_append_of_le_length hj]
  obtain ⟨e1, e2⟩ := f_tk_at ar (r := C) h hp
  rw [List.drop_append_of_le_length (by omega)] at e1
  refine ⟨hq, ?_, ?_, ?_, fun i hi => ?_⟩
  · rw [List.getElem_append_right (by omega)]
    simp only [show A.length + p - A.length = p by omega]
    exact List.getElem_append_left hp
  · rw [hd p (by omega), e1]
  · unfold f_s
    rw [hd p (by omega), e1, List.take_append_of_le_length (f_tk_le ar _ _)]
  · have := e2 i hi
    unfold ap at this ⊢
    rw [show A.length + p + 1 = A.length + (p + 1) by omega, hd (p + 1) (by omega)]
    rw [List.drop_append_of_le_length (by omega)] at this
    omega
theorem mf_emb (ar : Int → Nat) (pr : Int → Bool) {A ss C : List Int} {kk : Nat} (hwf : f_wf ar kk ss) (hv : ∀ c, c < 0 → ar c = 0) : ∀ (ps : List Int) (k j a : Nat) (b b' : Int → Int), f_wf ar k ps → f_wf ar (k + j) (ss.drop a) → a ≤ ss.length → (∀ v, (b v = -1 ∧ b' v = -1) ∨ (0 ≤ b v ∧ b v < ss.length ∧ b' v = A.length + b v)) →
    (mf ar pr ss ps a b = none ∧ mf ar pr (A ++ (ss ++ C)) ps (A.length + a) b' = none) ∨ ∃ e bb bb', mf ar pr ss ps a b = some (e, bb) ∧ mf ar pr (A ++ (ss ++ C)) ps (A.length + a) b' = some (A.length + e, bb') ∧ ∀ v, (bb v = -1 ∧ bb' v = -1) ∨ (0 ≤ bb v ∧ bb v < ss.length ∧ bb' v = A.length + bb v) := by
  intro ps
  induction ps with
  | nil =>
    intro k j a b b' hk hs ha hb
    exact Or.inr ⟨a, b, b', rfl, rfl, hb⟩
  | cons c ps ih =>
    intro k j a b b' hk hs ha hb
    cases k with
    | zero => rw [f_wf_0] at hk; cases hk
    | succ k =>
      rw [f_wf_c] at hk
      have hal : a < ss.length := by
        have := f_wf_ne ar (k := k + j) (l := ss.drop a) (by rw [show k + j + 1 = k + 1 + j by omega]; exact hs)
        by_cases h : a < ss.length
        · exact h
        · exact absurd (List.drop_eq_nil_of_le (by omega)) this
      obtain ⟨hq, e1, e2, e3, e4⟩ := em_at ar (A := A) (C := C) hwf hal
      have hd := List.drop_eq_getElem_cons hal
      simp only [mf]
      rw [dif_pos hal, dif_pos hq, e1, e2]
      by_cases hc : c < 0
      · rw [if_pos hc, if_pos hc]
        rw [hv c hc, Nat.add_zero] at hk
        have hs' : f_wf ar (1 + (k + j)) (ss.drop a) := by rw [show 1 + (k + j) = k + 1 + j by omega]; exact hs
        have h2 := (f_split ar _ 1 (k + j) hs').2
        rw [List.drop_drop] at h2
        have hle := (f_s_pos ar hwf hal).2
        rcases hb (-1 - c) with ⟨g1, g2⟩ | ⟨g1, g2, g3⟩
        · rw [if_pos g1, if_pos g2]
          by_cases hpr : pr ss[a] = true
          · rw [if_pos hpr, if_pos hpr]
            exact Or.inl ⟨rfl, rfl⟩
          · rw [if_neg hpr, if_neg hpr, Nat.add_assoc]
            refine ih k j _ _ _ hk h2 hle (fun v => ?_)
            unfold bU
            by_cases hvv : v = -1 - c
            · rw [if_pos hvv, if_pos hvv]
              right
              omega
            · rw [if_neg hvv, if_neg hvv]
              exact hb v
        · rw [if_neg (show ¬ b (-1 - c) = -1 by omega), if_neg (show ¬ b' (-1 - c) = -1 by omega)]
          obtain ⟨-, -, -, e5, -⟩ := em_at ar (A := A) (C := C) hwf (p := (b (-1 - c)).toNat) (by omega)
          rw [show (b' (-1 - c)).toNat = A.length + (b (-1 - c)).toNat by omega, e5, e3]
          by_cases he : f_s ar ss (b (-1 - c)).toNat = f_s ar ss a
          · rw [if_pos he, if_pos he, Nat.add_assoc]
            exact ih k j _ _ _ hk h2 hle hb
          · rw [if_neg he, if_neg he]
            exact Or.inl ⟨rfl, rfl⟩
      · rw [if_neg hc, if_neg hc]
        by_cases hcc : ss[a] = c
        · rw [if_pos hcc, if_pos hcc, Nat.add_assoc]
          rw [hd, show k + 1 + j = (k + j) + 1 by omega, f_wf_c, hcc, show k + j + ar c = k + ar c + j by omega] at hs
          exact ih (k + ar c) j (a + 1) b b' hk hs (by omega) hb
        · rw [if_neg hcc, if_neg hcc]
          exact Or.inl ⟨rfl, rfl⟩
/-- the rule's use, each variable on the right having a value -/
def apX (ar : Int → Nat) (pr : Int → Bool) (ls ts ss : List Int) (p : Nat) (bb : Int → Int) : Prop := (∃ e, mf ar pr ss ls p (fun _ => -1) = some (e, bb) ∧ gt ar (f_s ar ss p) (f_sub (vl ar ss bb) ts)) ∧ ∀ c ∈ ts, c < 0 → bb (-1 - c) ≠ -1
theorem gt_len {ar : Int → Nat} {w u : List Int} (h : gt ar w u) : u.length ≤ w.length := by
  cases w with
  | nil => exact h.elim
  | cons c w =>
    cases u with
    | nil => exact Nat.zero_le _
    | cons e u =>
      rw [gt_c] at h
      simp only [List.length_cons]
      omega
def tri : Nat → Nat
  | 0 => 0
  | n + 1 => tri n + (n + 1)
theorem tri_add (a b : Nat) : tri a + tri b ≤ tri (a + b) := by
  induction b with
  | zero => exact Nat.le_refl _
  | succ b ih =>
    show tri a + (tri b + (b + 1)) ≤ tri (a + b) + (a + b + 1)
    omega
theorem tri_mono {a b : Nat} (h : a ≤ b) : tri a ≤ tri b := by
  have := tri_add a (b - a)
  rw [show a + (b - a) = b by omega] at this
  omega
theorem tri_100 : tri 100 = 5050 := by decide
/-- a piece of a row, with another row in the place of one of its terms -/
def sgm (cs : List Int) (a b : Nat) : List Int := (cs.drop a).take (b - a)
def rep (ar : Int → Nat) (cs : List Int) (q : Nat) (X : List Int) (a b : Nat) : List Int := if a ≤ q ∧ q < b then sgm cs a q ++ (X ++ sgm cs (q + f_tk ar 1 (cs.drop q)) b) else sgm cs a b
theorem sgm_app (cs : List Int) {a b c : Nat} (h1 : a ≤ b) (h2 : b ≤ c) : sgm cs a b ++ sgm cs b c = sgm cs a c := by
  unfold sgm
  rw [show c - a = (b - a) + (c - b) by omega, List.take_add, List.drop_drop, show a + (b - a) = b by omega]
theorem sgm_self (cs : List Int) (a : Nat) : sgm cs a a = [] := by unfold sgm; rw [Nat.sub_self, List.take_zero]
theorem rep_app (ar : Int → Nat) (cs X : List Int) {q a b c : Nat} (h1 : a ≤ b) (h2 : b ≤ c) (hb : q < b → a ≤ q → q + f_tk ar 1 (cs.drop q) ≤ b) (hc : q < c → b ≤ q → q + f_tk ar 1 (cs.drop q) ≤ c) : rep ar cs q X a b ++ rep ar cs q X b c = rep ar cs q X a c := by
  unfold rep
  by_cases g1 : a ≤ q ∧ q < b
  · rw [if_pos g1, if_neg (by omega), if_pos (by omega), List.append_assoc, List.append_assoc, sgm_app cs (hb g1.2 g1.1) h2]
  · rw [if_neg g1]
    by_cases g2 : b ≤ q ∧ q < c
    · rw [if_pos g2, if_pos (by omega), ← List.append_assoc, sgm_app cs h1 g2.1]
    · rw [if_neg g2, if_neg (by omega), sgm_app cs h1 h2]
theorem rep_spl (ar : Int → Nat) {cs : List Int} {k p q : Nat} (X : List Int) (h : f_wf ar k cs) (hp : p < cs.length) (h1 : p ≤ q) (h2 : q < p + f_tk ar 1 (cs.drop p)) : rep ar cs q X p (p + f_tk ar 1 (cs.drop p)) = spl ar (f_s ar cs p) (q - p) X := by
  have hl := f_s_len ar cs p
  obtain ⟨e1, -⟩ := f_s_s ar h hp (i := q - p) (by omega)
  rw [show p + (q - p) = q by omega] at e1
  unfold rep spl
  rw [if_pos ⟨h1, h2⟩, e1]
  unfold sgm f_s
  congr 1
  · rw [List.take_take, show min (q - p) (f_tk ar 1 (cs.drop p)) = q - p by omega]
  · congr 1
    generalize f_tk ar 1 (cs.drop q) = w
    generalize f_tk ar 1 (cs.drop p) = W
    rw [List.drop_take, List.drop_drop, show p + (q - p + w) = q + w by omega, show p + W - (q + w) = W - (q - p + w) by omega]
theorem rep_no (ar : Int → Nat) {cs : List Int} {p q : Nat} (X : List Int) (h : ¬ (p ≤ q ∧ q < p + f_tk ar 1 (cs.drop p))) : rep ar cs q X p (p + f_tk ar 1 (cs.drop p)) = f_s ar cs p := by
  unfold rep sgm f_s
  rw [if_neg h, show p + f_tk ar 1 (cs.drop p) - p = f_tk ar 1 (cs.drop p) by omega]
theorem rep_wf (ar : Int → Nat) {cs X : List Int} {k p q : Nat} (h : f_wf ar k cs) (hp : p < cs.length) (hX : f_wf ar 1 X) : f_wf ar 1 (rep ar cs q X p (p + f_tk ar 1 (cs.drop p))) := by
  by_cases g : p ≤ q ∧ q < p + f_tk ar 1 (cs.drop p)
  · rw [rep_spl ar X h hp g.1 g.2]
    exact spl_wf ar (f_s_wf ar h hp) (by rw [f_s_len]; omega) hX
  · rw [rep_no ar X g]
    exact f_s_wf ar h hp
theorem ap_in (ar : Int → Nat) {cs : List Int} {k p q i : Nat} (h : f_wf ar k cs) (hp : p < cs.length) (hi : i ≤ ar cs[p]) (h1 : p + 1 ≤ q) (h2 : q < ap ar cs p i) : q + f_tk ar 1 (cs.drop q) ≤ ap ar cs p i := by
  obtain ⟨m, -, -, h3⟩ := f_at ar h hp
  have := f_tk_in ar (l := cs.drop (p + 1)) (k := i) (m := m + ar cs[p] - i) (p := q - (p + 1)) (by rw [show i + (m + ar cs[p] - i) = m + ar cs[p] by omega]; exact h3) (by unfold ap at h2; omega)
  rw [List.drop_drop, show p + 1 + (q - (p + 1)) = q by omega] at this
  unfold ap
  omega
theorem rep_0 (ar : Int → Nat) (cs : List Int) (p q : Nat) (X : List Int) : rep ar cs q X (p + 1) (ap ar cs p 0) = [] := by
  unfold rep
  rw [ap_0, if_neg (by omega), sgm_self]
theorem rep_s (ar : Int → Nat) {cs : List Int} {k p q i : Nat} (X : List Int) (h : f_wf ar k cs) (hp : p < cs.length) (hi : i < ar cs[p]) : rep ar cs q X (p + 1) (ap ar cs p (i + 1)) = rep ar cs q X (p + 1) (ap ar cs p i) ++ rep ar cs q X (ap ar cs p i) (ap ar cs p i + f_tk ar 1 (cs.drop (ap ar cs p i))) := by
  rw [← ap_s ar h hp hi]
  have h1 := ap_lt ar h hp hi
  have h2 := ap_le ar h hp (i := i) (j := i + 1) (by omega) (by omega)
  exact (rep_app ar cs X (by omega) h2 (fun g1 g2 => ap_in ar h hp (by omega) g2 g1) (fun g1 g2 => ap_in ar h hp (by omega) (by omega) g1)).symm
theorem rep_end (ar : Int → Nat) {cs : List Int} {k p q : Nat} (X : List Int) (h : f_wf ar k cs) (hp : p < cs.length) (hne : p ≠ q) : rep ar cs q X p (p + f_tk ar 1 (cs.drop p)) = cs[p] :: rep ar cs q X (p + 1) (ap ar cs p (ar cs[p])) := by
  rw [ap_end ar h hp]
  have h1 := f_tk_1 ar h hp
  have hs : ∀ b, p < b → sgm cs p b = cs[p] :: sgm cs (p + 1) b := fun b hb => by
    unfold sgm
    rw [List.drop_eq_getElem_cons hp, show b - p = (b - (p + 1)) + 1 by omega, List.take_succ_cons]
  unfold rep
  by_cases g : p ≤ q ∧ q < p + f_tk ar 1 (cs.drop p)
  · rw [if_pos g, if_pos (by omega), hs q (by omega), List.cons_append]
  · rw [if_neg g, if_neg (by omega), hs _ (by omega)]
