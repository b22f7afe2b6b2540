/-! what the cells are once both benches are made: 1 the bench, 2 its alphabet, 5 its slots, 6 + 3 k its terms (54 row, 57 work, 60 spare, 63 filled), 66 trial, 68 latest, 70 the latest subject, 73 the ordering, 75 the unifier, 84 the reference, 124 the answer -/
def hTl : List (Nat × Nat) := [(5, 13), (6, 3), (0, 40), (1, 40), (3, 16), (7, 3), (0, 100), (0, 100), (7, 3), (0, 100), (0, 100), (7, 3), (0, 100), (0, 100), (7, 3), (0, 100), (0, 100), (7, 3), (0, 100), (0, 100), (7, 3), (0, 100), (0, 100), (7, 3), (0, 100), (0, 100), (7, 3), (0, 100), (0, 100), (7, 3), (0, 100), (0, 100), (7, 3), (0, 100), (0, 100), (7, 3), (0, 100), (0, 100), (7, 3), (0, 100), (0, 100), (7, 3), (0, 100), (0, 100), (7, 3), (0, 100), (0, 100), (7, 3), (0, 100), (0, 100), (7, 3), (0, 100), (0, 100), (7, 3), (0, 100), (0, 100), (7, 3), (0, 100), (0, 100), (7, 3), (0, 100), (0, 100), (7, 3), (0, 100), (0, 100), (8, 1), (0, 6), (8, 1), (0, 6), (7, 3), (0, 100), (0, 100), (9, 1), (0, 6), (10, 9), (0, 200), (0, 200), (0, 212), (0, 212), (0, 201), (0, 201), (0, 12), (0, 12), (11, 28), (0, 40), (0, 100), (1, 40), (4, 16), (0, 100), (0, 100), (0, 100), (0, 100), (0, 100), (0, 100), (0, 100), (0, 100), (0, 100), (0, 100), (0, 100), (0, 100), (0, 100), (0, 100), (0, 100), (0, 100), (0, 16), (4, 6), (0, 100), (0, 100), (0, 100), (0, 100), (0, 100), (0, 100), (0, 6), (0, 6000), (0, 6000), (0, 6000), (0, 6000), (0, 6), (0, 12), (0, 12), (0, 12), (0, 6), (0, 100), (2, 1)]
def hSh (L : Nat) : List (Nat × Nat) := (0, L) :: hTl
def hRF (a : Nat) (j : Int) : Nat :=
  if a = 1 then (match j with | 0 => 2 | 1 => 5 | 2 => 54 | 4 => 57 | 5 => 60 | 6 => 63 | 7 => 66 | 8 => 68 | 9 => 70 | 10 => 73 | 11 => 75 | _ => 0)
  else if a = 5 then 6 + 3 * j.toNat
  else if a = 75 then (if j ≤ 5 then 76 + j.toNat else 75 + j.toNat)
  else if a = 84 then (match j with | 5 => 85 | 6 => 86 | 7 => 87 | 8 => 88 | 9 => 105 | 10 => 106 | 11 => 113 | 13 => 114 | 14 => 115 | 15 => 116 | 16 => 117 | 19 => 118 | 20 => 119 | 21 => 120 | 22 => 121 | 24 => 122 | 27 => 123 | _ => 0)
  else if a = 88 then 89 + j.toNat
  else if a = 106 then 107 + j.toNat
  else a + 1 + j.toNat
/-- a term's place -/
def hT (a : Nat) : Prop := (∃ k, k < 20 ∧ a = 6 + 3 * k) ∨ a = 70
theorem hK_s (L a : Nat) : sKd (hSh L) (a + 1) = sKd hTl a := rfl
theorem hT_0 : ∀ k, k < 20 → sKd hTl (5 + 3 * k) = (7, 3) ∧ sKd hTl (6 + 3 * k) = (0, 100) ∧ sKd hTl (7 + 3 * k) = (0, 100) := by decide +kernel
theorem hT_k (L : Nat) {a : Nat} (h : hT a) : sKd (hSh L) a = (7, 3) ∧ sKd (hSh L) (a + 1) = (0, 100) ∧ sKd (hSh L) (a + 2) = (0, 100) := by
  rcases h with ⟨k, hk, rfl⟩ | rfl
  · have := hT_0 k hk
    rw [show 6 + 3 * k = (5 + 3 * k) + 1 by omega, show (5 + 3 * k) + 1 + 1 = (6 + 3 * k) + 1 by omega, show (5 + 3 * k) + 1 + 2 = (7 + 3 * k) + 1 by omega, hK_s, hK_s, hK_s]
    exact this
  · exact ⟨rfl, rfl, rfl⟩
theorem hO {L a c n k : Nat} (h : sKd (hSh L) a = (c + 5, n)) (hk : k < n) : sObj (hSh L) c a k := by
  unfold sObj
  rw [h]
  exact ⟨rfl, hk⟩
theorem hO_T {L a k : Nat} (h : hT a) (hk : k < 3) : sObj (hSh L) 2 a k := hO (hT_k L h).1 hk
theorem hAr {L k a n : Nat} {j : Int} (h : sKd (hSh L) a = (k, n)) (h0 : 0 ≤ j) (h1 : j < n) : sArr (hSh L) k a j := by
  unfold sArr
  rw [h]
  exact ⟨rfl, h0, h1⟩
theorem hA_T1 {L a : Nat} {j : Int} (h : hT a) (h0 : 0 ≤ j) (h1 : j < 100) : sArr (hSh L) 0 (a + 1) j := hAr (hT_k L h).2.1 h0 h1
theorem hA_T2 {L a : Nat} {j : Int} (h : hT a) (h0 : 0 ≤ j) (h1 : j < 100) : sArr (hSh L) 0 (a + 2) j := hAr (hT_k L h).2.2 h0 h1
theorem hQ3 {L : Nat} {j : Int} (h0 : 0 ≤ j) (h1 : j < 16) : sArr (hSh L) 3 5 j ∨ sArr (hSh L) 4 5 j := Or.inl (hAr (n := 16) rfl h0 h1)
theorem hQ4 {L : Nat} {j : Int} (h0 : 0 ≤ j) (h1 : j < 16) : sArr (hSh L) 3 88 j ∨ sArr (hSh L) 4 88 j := Or.inr (hAr (n := 16) rfl h0 h1)
theorem hQ6 {L : Nat} {j : Int} (h0 : 0 ≤ j) (h1 : j < 6) : sArr (hSh L) 3 106 j ∨ sArr (hSh L) 4 106 j := Or.inr (hAr (n := 6) rfl h0 h1)
theorem hT_lt {a : Nat} (h : hT a) : 6 ≤ a ∧ ((a % 3 = 0 ∧ a ≤ 63) ∨ a = 70) := by
  rcases h with ⟨k, hk, rfl⟩ | rfl <;> omega
theorem hF_T {a : Nat} (h : hT a) (j : Int) : hRF a j = a + 1 + j.toNat := by
  have h1 := hT_lt h
  have h2 : a ≠ 5 := by omega
  unfold hRF
  rw [if_neg (by omega), if_neg (by omega), if_neg (by omega), if_neg (by omega), if_neg (by omega), if_neg (by omega)]
theorem hF_T0 {a : Nat} (h : hT a) : hRF a 0 = a + 1 := hF_T h 0
theorem hF_T1 {a : Nat} (h : hT a) : hRF a 1 = a + 2 := hF_T h 1
/-- different terms share no cell -/
theorem hT_ne {a b : Nat} (ha : hT a) (hb : hT b) (h : a ≠ b) : a ≠ b ∧ a ≠ b + 1 ∧ a ≠ b + 2 ∧ a + 1 ≠ b ∧ a + 1 ≠ b + 1 ∧ a + 1 ≠ b + 2 ∧ a + 2 ≠ b ∧ a + 2 ≠ b + 1 ∧ a + 2 ≠ b + 2 := by
  rcases ha with ⟨k, hk, rfl⟩ | rfl <;> rcases hb with ⟨k2, hk2, rfl⟩ | rfl <;> omega
theorem hT_slot {j : Int} (h0 : 0 ≤ j) (h1 : j < 16) : hT (6 + 3 * j.toNat) := Or.inl ⟨j.toNat, by omega, rfl⟩
theorem hT_54 : hT 54 := Or.inl ⟨16, by omega, rfl⟩
theorem hT_57 : hT 57 := Or.inl ⟨17, by omega, rfl⟩
theorem hT_60 : hT 60 := Or.inl ⟨18, by omega, rfl⟩
theorem hT_63 : hT 63 := Or.inl ⟨19, by omega, rfl⟩
theorem hT_70 : hT 70 := Or.inr rfl
