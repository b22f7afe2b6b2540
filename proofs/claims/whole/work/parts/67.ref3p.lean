/-! what writing and counting leave -/
def wrt (I : sI) (f : Nat) (a : Int) (w : List Int) : sI := fun b k => if b = f ∧ a ≤ k ∧ k < a + w.length then w.getD (k - a).toNat 0 else if b = 84 ∧ k = 18 then a + w.length else I b k
theorem wrt_one (I : sI) {f : Nat} (a c : Int) (hf : f ≠ 84) : sU (sU I 84 18 (a + 1)) f a c = wrt I f a [c] := by
  funext b k
  unfold sU wrt
  simp only [List.length_singleton]
  by_cases h1 : b = f ∧ k = a
  · rw [if_pos h1, if_pos ⟨h1.1, by omega, by omega⟩, h1.2]
    simp
  · have h2 : ¬ (b = f ∧ a ≤ k ∧ k < a + ((1 : Nat) : Int)) := fun h => h1 ⟨h.1, by omega⟩
    rw [if_neg h1, if_neg h2]
    rfl
theorem wrt_app (I : sI) {f : Nat} (a : Int) (u v : List Int) (hf : f ≠ 84) : wrt (wrt I f a u) f (a + u.length) v = wrt I f a (u ++ v) := by
  funext b k
  unfold wrt
  rw [List.length_append]
  by_cases hb : b = f
  · subst hb
    by_cases h1 : a ≤ k ∧ k < a + ((u.length + v.length : Nat) : Int)
    · by_cases h2 : k < a + u.length
      · rw [if_neg (fun h => by omega), if_neg (fun h => hf h.1), if_pos ⟨rfl, h1.1, h2⟩, if_pos ⟨rfl, h1⟩]
        rw [List.getD_eq_getElem?_getD, List.getD_eq_getElem?_getD, List.getElem?_append_left (by omega)]
      · rw [if_pos ⟨rfl, by omega, by omega⟩, if_pos ⟨rfl, h1⟩]
        rw [List.getD_eq_getElem?_getD, List.getD_eq_getElem?_getD, List.getElem?_append_right (by omega)]
        congr 2
        omega
    · have q1 : ¬ (b = b ∧ a + (u.length : Int) ≤ k ∧ k < a + u.length + v.length) := fun h => h1 ⟨by omega, by omega⟩
      have q2 : ¬ (b = b ∧ a ≤ k ∧ k < a + (u.length : Int)) := fun h => h1 ⟨by omega, by omega⟩
      have q3 : ¬ (b = b ∧ a ≤ k ∧ k < a + ((u.length + v.length : Nat) : Int)) := fun h => h1 h.2
      have q4 : ¬ (b = 84 ∧ k = 18) := fun h => hf h.1
      rw [if_neg q1, if_neg q2, if_neg q3, if_neg q4, if_neg q4, if_neg q4]
  · have q : ∀ P : Prop, ¬ (b = f ∧ P) := fun P h => hb h.1
    by_cases h2 : b = 84 ∧ k = 18
    · simp only [if_neg (q _), if_pos h2]
      omega
    · simp only [if_neg (q _), if_neg h2]
theorem wrt_o (I : sI) (f : Nat) (a : Int) (w : List Int) {b : Nat} (h1 : b ≠ f) (h2 : b ≠ 84) : wrt I f a w b = I b := by
  funext k
  unfold wrt
  rw [if_neg (fun h => h1 h.1), if_neg (fun h => h2 h.1)]
theorem wrt_84 (I : sI) {f : Nat} (a : Int) (w : List Int) (hf : f ≠ 84) {j : Int} (h : j ≠ 18) : wrt I f a w 84 j = I 84 j := by
  unfold wrt
  rw [if_neg (fun h => hf h.1.symm), if_neg (fun q => h q.2)]
theorem wrt_18 (I : sI) {f : Nat} (a : Int) (w : List Int) (hf : f ≠ 84) : wrt I f a w 84 18 = a + w.length := by
  unfold wrt
  rw [if_neg (fun h => hf h.1.symm), if_pos ⟨rfl, rfl⟩]
theorem wrt_f (I : sI) {f : Nat} (w : List Int) {k : Nat} (h : k < w.length) : wrt I f 0 w f k = w[k] := by
  unfold wrt
  rw [if_pos ⟨rfl, by omega, by omega⟩, List.getD_eq_getElem?_getD, show ((k : Int) - 0).toNat = k by omega, List.getElem?_eq_getElem h]
  rfl
def tms (I : sI) (y : Int) (w : List Int) : sI := fun b k => if b = 118 ∧ 0 ≤ k ∧ k < 6 then I b k + y * (w.count (-1 - k) : Nat) else I b k
theorem tms_app (I : sI) (y : Int) (u v : List Int) : tms (tms I y u) y v = tms I y (u ++ v) := by
  funext b k
  unfold tms
  by_cases h : b = 118 ∧ 0 ≤ k ∧ k < 6
  · rw [if_pos h, if_pos h, if_pos h, List.count_append, Int.natCast_add, Int.mul_add]
    omega
  · rw [if_neg h, if_neg h, if_neg h]
theorem tms_nil (I : sI) (y : Int) : tms I y [] = I := by
  funext b k
  unfold tms
  simp
theorem tms_o (I : sI) (y : Int) (w : List Int) {b : Nat} (h : b ≠ 118) : tms I y w b = I b := by
  funext k
  unfold tms
  rw [if_neg (fun q => h q.1)]
theorem tms_v (I : sI) (y c : Int) (h : c < 0) (h6 : -6 ≤ c) : sU I 118 (-1 - c) (I 118 (-1 - c) + y) = tms I y [c] := by
  funext b k
  unfold sU tms
  by_cases h1 : b = 118 ∧ k = -1 - c
  · rw [if_pos h1, if_pos ⟨h1.1, by omega, by omega⟩, h1.1, h1.2]
    have : (-1 - (-1 - c)) = c := by omega
    rw [this]
    simp
  · rw [if_neg h1]
    by_cases h2 : b = 118 ∧ 0 ≤ k ∧ k < 6
    · rw [if_pos h2]
      have : ¬ c = -1 - k := fun q => h1 ⟨h2.1, by omega⟩
      simp [this]
    · rw [if_neg h2]
theorem tms_c (I : sI) (y c : Int) (h : 0 ≤ c) : tms I y [c] = I := by
  funext b k
  unfold tms
  by_cases h2 : b = 118 ∧ 0 ≤ k ∧ k < 6
  · rw [if_pos h2]
    have : ¬ c = -1 - k := by omega
    simp [this]
  · rw [if_neg h2]
theorem tms_b (I : sI) {y : Int} (hy : y = 1 ∨ y = -1) (w : List Int) {j : Int} : -((w.length : Nat) : Int) + I 118 j ≤ tms I y w 118 j ∧ tms I y w 118 j ≤ I 118 j + w.length := by
  have := List.count_le_length (a := -1 - j) (l := w)
  unfold tms
  split
  · rcases hy with rfl | rfl <;> omega
  · omega
