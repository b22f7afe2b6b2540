/-! TermBench: rewrite; the bits of the variables -/
theorem vb_tb : ∀ (cs : List Int) (k : Nat), k < 6 → (∀ c ∈ cs, -6 ≤ c) → ((vb cs).testBit k = true ↔ (-1 - (k : Int)) ∈ cs) := by
  intro cs k hk h6
  have key : ∀ (l : List Int) (a : Nat), (∀ c ∈ l, -6 ≤ c) → ((l.foldl (fun (a : Nat) (c : Int) => if c < 0 then a ||| (1 <<< (-1 - c).toNat) else a) a).testBit k = true ↔ a.testBit k = true ∨ (-1 - (k : Int)) ∈ l) := by
    intro l
    induction l with
    | nil => intro a _; simp
    | cons c l ih =>
      intro a hl
      rw [List.foldl_cons, ih _ (fun d hd => hl d (List.mem_cons_of_mem _ hd)), List.mem_cons]
      by_cases hc : c < 0
      · rw [if_pos hc, Nat.testBit_or, Bool.or_eq_true, Nat.one_shiftLeft, Nat.testBit_two_pow]
        have : ((-1 - c).toNat = k) ↔ (-1 - (k : Int)) = c := by omega
        rw [decide_eq_true_eq, this]
        constructor
        · rintro ((h | h) | h)
          · exact Or.inl h
          · exact Or.inr (Or.inl h)
          · exact Or.inr (Or.inr h)
        · rintro (h | h | h)
          · exact Or.inl (Or.inl h)
          · exact Or.inl (Or.inr h)
          · exact Or.inr h
      · rw [if_neg hc]
        have : ¬ (-1 - (k : Int)) = c := by omega
        simp [this]
  have := key cs 0 h6
  simpa [vb] using this
theorem vb_no : ∀ a, a < 64 → ∀ b, b < 64 → ((Int32.ofInt (a : Nat) &&& Int32.ofInt (Int32.ofInt (b : Nat) ^^^ Int32.ofInt (-1)).toInt).toInt = 0 ↔ ∀ k, k < 6 → Nat.testBit a k = true → Nat.testBit b k = true) := by decide +kernel
