/-! matching by nodes -/
theorem pre_le (ar : Int → Nat) {cs : List Int} {k p : Nat} (h : f_wf ar k cs) (hp : p < cs.length) : ∀ {i n : Nat}, i ≤ n → n ≤ ar cs[p] → ∃ r, pre ar cs p n = pre ar cs p i ++ r := by
  intro i n hin
  induction n with
  | zero => intro _; exact ⟨[], by rw [show i = 0 by omega, List.append_nil]⟩
  | succ n ih =>
    intro hn
    by_cases e : i = n + 1
    · exact ⟨[], by rw [e, List.append_nil]⟩
    · obtain ⟨r, hr⟩ := ih (by omega) (by omega)
      exact ⟨r ++ f_s ar cs (ap ar cs p n), by rw [pre_s ar h hp (by omega), hr, List.append_assoc]⟩
/-- begins as far as the six variables go -/
def aB (b b' : Int → Int) : Prop := ∀ k, 0 ≤ k → k < 6 → b k = b' k
theorem mf_none (ar : Int → Nat) (pr : Int → Bool) {ss u : List Int} (v : List Int) {a : Nat} {b : Int → Int} (h : mf ar pr ss u a b = none) : mf ar pr ss (u ++ v) a b = none := by
  rw [mf_app, h]
  rfl
theorem mf_some (ar : Int → Nat) (pr : Int → Bool) {ss u : List Int} (v : List Int) {a e : Nat} {b bb : Int → Int} (h : mf ar pr ss u a b = some (e, bb)) : mf ar pr ss (u ++ v) a b = mf ar pr ss v e bb := by
  rw [mf_app, h]
  rfl
theorem f_wf_at (ar : Int → Nat) {cs : List Int} {k a : Nat} (h : f_wf ar k cs) (ha : a < cs.length) : ∃ j, f_wf ar (1 + j) (cs.drop a) := by
  obtain ⟨m, -, h2, -⟩ := f_at ar h ha
  exact ⟨m, by rw [Nat.add_comm]; exact h2⟩
/-- the values' rows, put together, are bounded -/
theorem f_sub_len_le {σ : Int → List Int} {B : Nat} (hB : 1 ≤ B) : ∀ {w : List Int}, (∀ c ∈ w, c < 0 → (σ c).length ≤ B) → (f_sub σ w).length ≤ B * w.length := by
  intro w
  induction w with
  | nil => intro _; simp [f_sub]
  | cons c w ih =>
    intro h
    have h1 := ih (fun e he => h e (List.mem_cons_of_mem _ he))
    rw [f_sub_c, List.length_append, List.length_cons, Nat.mul_add, Nat.mul_one]
    by_cases hc : c < 0
    · rw [if_pos hc]
      have := h c List.mem_cons_self hc
      omega
    · rw [if_neg hc, List.length_singleton]
      omega
theorem f_s_memp (ar : Int → Nat) {cs : List Int} {k p i : Nat} (h : f_wf ar k cs) (hp : p < cs.length) (hi : i < ar cs[p]) {c : Int} (hc : c ∈ f_s ar cs (ap ar cs p i)) : c ∈ f_s ar cs p := by
  rw [pre_end ar h hp]
  obtain ⟨r, hr⟩ := pre_le ar h hp (i := i + 1) (n := ar cs[p]) (by omega) (Nat.le_refl _)
  rw [hr, pre_s ar h hp hi]
  simp only [List.mem_cons, List.mem_append]
  exact Or.inr (Or.inl (Or.inr hc))
theorem f_sub_wfr (ar : Int → Nat) {σ : Int → List Int} (hv : ∀ c, c < 0 → ar c = 0) : ∀ {w : List Int} {k : Nat}, (∀ c ∈ w, c < 0 → f_wf ar 1 (σ c)) → f_wf ar k w → f_wf ar k (f_sub σ w) := by
  intro w
  induction w with
  | nil => intro k _ h; exact h
  | cons c w ih =>
    intro k hs h
    cases k with
    | zero => rw [f_wf_0] at h; cases h
    | succ k =>
      rw [f_wf_c] at h
      rw [f_sub_c]
      have hs' : ∀ e ∈ w, e < 0 → f_wf ar 1 (σ e) := fun e he => hs e (List.mem_cons_of_mem _ he)
      by_cases hc : c < 0
      · rw [if_pos hc, Nat.add_comm k 1]
        rw [hv c hc] at h
        exact f_wf_app ar _ _ 1 k (hs c List.mem_cons_self hc) (ih hs' h)
      · rw [if_neg hc, List.singleton_append, f_wf_c]
        exact ih hs' h
theorem mf_v (ar : Int → Nat) (pr : Int → Bool) {ss : List Int} {c : Int} {a : Nat} (b : Int → Int) (hc : c < 0) (ha : a < ss.length) : mf ar pr ss [c] a b = if b (-1 - c) = -1 then (if pr ss[a] = true then none else some (a + f_tk ar 1 (ss.drop a), bU b (-1 - c) a)) else if f_s ar ss (b (-1 - c)).toNat = f_s ar ss a then some (a + f_tk ar 1 (ss.drop a), b) else none := by
  simp only [mf]
  rw [dif_pos ha, if_pos hc]
theorem mf_c (ar : Int → Nat) (pr : Int → Bool) {ss : List Int} {c : Int} {a : Nat} (w : List Int) (b : Int → Int) (hc : ¬ c < 0) (ha : a < ss.length) : mf ar pr ss (c :: w) a b = if ss[a] = c then mf ar pr ss w (a + 1) b else none := by
  simp only [mf]
  rw [dif_pos ha, if_neg hc]
