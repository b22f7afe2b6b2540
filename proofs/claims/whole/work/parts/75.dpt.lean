/-! depth, term by term -/
def en (ar : Int → Nat) (cs : List Int) (p : Nat) : Int → Int := fun q => q + f_tk ar 1 (cs.drop (p + q.toNat))
theorem lvl_one (ar : Int → Nat) {cs : List Int} {kk p i : Nat} (h : f_wf ar kk cs) (hp : p < cs.length) (hi : i < ar cs[p]) {r : Int} (h1 : (ap ar cs p i : Int) - p ≤ r) (h2 : r < f_tk ar 1 (cs.drop p)) : ∀ k : Nat, 1 ≤ k → p + k ≤ ap ar cs p i → lvl (en ar cs p) r k = 1 := by
  intro k
  induction k with
  | zero => intro h0; omega
  | succ k ih =>
    intro _ hk
    simp only [lvl]
    by_cases hz : k = 0
    · subst hz
      have e : en ar cs p ((0 : Nat) : Int) = f_tk ar 1 (cs.drop p) := by
        unfold en
        simp
      rw [e, if_pos h2]
      rfl
    · rw [ih (by omega) (by omega)]
      have hin := ap_in ar h hp (q := p + k) (i := i) (by omega) (by omega) (by omega)
      have e : en ar cs p (k : Int) = k + f_tk ar 1 (cs.drop (p + k)) := rfl
      rw [e, if_neg (by omega)]
      rfl
theorem lvl_in (ar : Int → Nat) {cs : List Int} {kk p i : Nat} (h : f_wf ar kk cs) (hp : p < cs.length) (hi : i < ar cs[p]) {j : Nat} (hj : j < f_tk ar 1 (cs.drop (ap ar cs p i))) : ∀ m : Nat, lvl (en ar cs p) ((ap ar cs p i - p + j : Nat) : Int) (ap ar cs p i - p + m) = 1 + lvl (en ar cs (ap ar cs p i)) j m := by
  have hlt := ap_lt ar h hp hi
  have hkd := ap_kid ar h hp hi
  intro m
  induction m with
  | zero =>
    rw [Nat.add_zero, lvl_one ar h hp hi (by omega) (by omega) _ (by omega) (by omega)]
    rfl
  | succ m ih =>
    rw [← Nat.add_assoc]
    simp only [lvl]
    rw [ih]
    have e1 : en ar cs p ((ap ar cs p i - p + m : Nat) : Int) = ((ap ar cs p i - p + m : Nat) : Int) + f_tk ar 1 (cs.drop (ap ar cs p i + m)) := by
      unfold en
      rw [show p + ((ap ar cs p i - p + m : Nat) : Int).toNat = ap ar cs p i + m by omega]
    have e2 : en ar cs (ap ar cs p i) (m : Int) = m + f_tk ar 1 (cs.drop (ap ar cs p i + m)) := rfl
    rw [e1, e2]
    by_cases hc : (j : Int) < m + f_tk ar 1 (cs.drop (ap ar cs p i + m))
    · rw [if_pos hc, if_pos (by omega)]
      omega
    · rw [if_neg hc, if_neg (by omega)]
      omega
theorem dpt_s (e : Int → Int) (n : Nat) : dpt e (n + 1) = max (dpt e n) (lvl e n (n + 1)) := by
  show (if dpt e n < lvl e n (n + 1) then lvl e n (n + 1) else dpt e n) = _
  split <;> omega
theorem dpt_in (ar : Int → Nat) {cs : List Int} {kk p i : Nat} (h : f_wf ar kk cs) (hp : p < cs.length) (hi : i < ar cs[p]) : ∀ m : Nat, 1 ≤ m → m ≤ f_tk ar 1 (cs.drop (ap ar cs p i)) → dpt (en ar cs p) (ap ar cs p i - p + m) = max (dpt (en ar cs p) (ap ar cs p i - p)) (1 + dpt (en ar cs (ap ar cs p i)) m) := by
  intro m
  induction m with
  | zero => intro h0; omega
  | succ m ih =>
    intro _ hm
    have hl := lvl_in ar h hp hi (j := m) (by omega) (m + 1)
    have hb := dpt_b (en ar cs (ap ar cs p i)) m
    have hb2 := lvl_b (en ar cs (ap ar cs p i)) m (m + 1)
    have hs := dpt_s (en ar cs p) (ap ar cs p i - p + m)
    rw [Nat.add_assoc, hl] at hs
    rw [hs, dpt_s (en ar cs (ap ar cs p i)) m]
    by_cases hz : m = 0
    · subst hz
      have h0 : dpt (en ar cs (ap ar cs p i)) 0 = 0 := rfl
      rw [Nat.add_zero, h0]
      omega
    · rw [ih (by omega) (by omega)]
      omega
theorem dpt_first (ar : Int → Nat) {cs : List Int} {kk p : Nat} (h : f_wf ar kk cs) (hp : p < cs.length) : dpt (en ar cs p) (ap ar cs p 0 - p) = 1 := by
  rw [ap_0, show p + 1 - p = 0 + 1 by omega]
  have hpos := (f_s_pos ar h hp).1
  have e : en ar cs p ((0 : Nat) : Int) = f_tk ar 1 (cs.drop p) := by
    unfold en
    simp
  have h2 : lvl (en ar cs p) ((0 : Nat) : Int) (0 + 1) = 1 := by
    show 0 + (if ((0 : Nat) : Int) < en ar cs p ((0 : Nat) : Int) then (1 : Int) else 0) = 1
    rw [e, if_pos (show ((0 : Nat) : Int) < (f_tk ar 1 (cs.drop p) : Int) by omega)]
    rfl
  rw [dpt_s, h2]
  rfl
theorem lvl_congr {e e' : Int → Int} {p : Int} : ∀ {n : Nat}, (∀ k : Nat, k < n → e k = e' k) → lvl e p n = lvl e' p n := by
  intro n
  induction n with
  | zero => intro _; rfl
  | succ n ih =>
    intro h
    simp only [lvl]
    rw [ih (fun k hk => h k (by omega)), h n (by omega)]
theorem dpt_congr {e e' : Int → Int} : ∀ {n : Nat}, (∀ k : Nat, k < n → e k = e' k) → dpt e n = dpt e' n := by
  intro n
  induction n with
  | zero => intro _; rfl
  | succ n ih =>
    intro h
    rw [dpt_s, dpt_s, ih (fun k hk => h k (by omega)), lvl_congr h]
