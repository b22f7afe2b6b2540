/-! Alphabet -/
section CA
variable {l : Launch} {G : sG} {L x d : Nat} {I : sI}
theorem sV1s_1 {a : Nat} : ∀ v ∈ ([.inr (.inl a)] : List sV), sV1 v := by
  intro v hv
  rw [List.mem_singleton] at hv
  subst hv
  trivial
theorem sV1s_c {v : sV} {as : List sV} (h : sV1 v) (hs : ∀ v ∈ as, sV1 v) : ∀ w ∈ v :: as, sV1 w := List.forall_mem_cons.mpr ⟨h, hs⟩
theorem sV1s_n : ∀ v ∈ ([] : List sV), sV1 v := fun v hv => by cases hv
theorem sV1_i {n : Int} (h0 : -2147483648 ≤ n) (h1 : n < 2147483648) : sV1 (.inl n) := ⟨h0, h1⟩
theorem c_A_termsOf {c : Int} (h0 : -100 ≤ c) (h1 : c < 40) : sCall l G mA_termsOf (sRm d 0) [.inr (.inl 2), .inl c] (hS L x I) (qI L x (if c < 0 then 0 else I 3 c) I) := by
  refine sCall_of (by decide) (Nat.le_of_ble_eq_true rfl) (sV1s_c trivial (sV1s_c (sV1_i (by omega) (by omega)) sV1s_n)) rfl ?_
  show sJ l G mA_termsOf _ _ 0 0 0 [some (.inr (.inl 2)), some (.inl c)] [] (hSh L, hRF, I, x)
  by_cases h : c < 0
  · refine sg_A_termsOf_n (k := ?_)
    exact sj_ret ct_A_termsOf rfl rfl (Nat.le_refl _) (Nat.le_refl _) ⟨by rw [if_pos h], rfl⟩
  · refine sg_A_termsOf_p (k := ?_)
    exact sj_ret ct_A_termsOf rfl rfl (Nat.le_refl _) (Nat.le_refl _) ⟨by rw [if_neg h], rfl⟩
theorem c_A_isPred {c : Int} (h0 : -100 ≤ c) (h1 : c < 40) : sCall l G mA_isPredicate (sRm d 0) [.inr (.inl 2), .inl c] (hS L x I) (qI L x (if c < 0 then 0 else if I 4 c = 0 then 0 else 1) I) := by
  refine sCall_of (by decide) (Nat.le_of_ble_eq_true rfl) (sV1s_c trivial (sV1s_c (sV1_i (by omega) (by omega)) sV1s_n)) rfl ?_
  show sJ l G mA_isPredicate _ _ 0 0 0 [some (.inr (.inl 2)), some (.inl c)] [] (hSh L, hRF, I, x)
  by_cases h : c < 0
  · refine sg_A_isPred_n (k := ?_)
    exact sj_retZ ct_A_isPredicate rfl rfl (Or.inl rfl) (Nat.le_refl _) (Nat.le_refl _) ⟨by rw [if_pos h], rfl⟩
  · by_cases h2 : I 4 c = 0
    · refine sg_A_isPred_f (k := ?_)
      exact sj_retZ ct_A_isPredicate rfl rfl (Or.inl rfl) (Nat.le_refl _) (Nat.le_refl _) ⟨by rw [if_neg h, if_pos h2], rfl⟩
    · refine sg_A_isPred_t (k := ?_)
      exact sj_retZ ct_A_isPredicate rfl rfl (Or.inr rfl) (Nat.le_refl _) (Nat.le_refl _) ⟨by rw [if_neg h, if_neg h2], rfl⟩
theorem c_A_enter {n p : Int} (h0 : 0 ≤ n) (h1 : n ≤ 5) (hp : p = 0 ∨ p = 1) (hs0 : 0 ≤ I 2 2) (hs1 : I 2 2 < 40) : sCall l G mA_enter (sRm d 0) [.inr (.inl 2), .inl n, .inl p] (hS L x I) (qI L x (I 2 2) (sU (sU (sU I 3 (I 2 2) n) 4 (I 2 2) p) 2 2 (I 2 2 + 1))) := by
  refine sCall_of (by decide) (Nat.le_of_ble_eq_true rfl) (sV1s_c trivial (sV1s_c (sV1_i (by omega) (by omega)) (sV1s_c (sV1_i (by omega) (by omega)) sV1s_n))) rfl ?_
  show sJ l G mA_enter _ _ 0 0 0 [some (.inr (.inl 2)), some (.inl n), some (.inl p), none] [] (hSh L, hRF, I, x)
  refine sg_A_enter (k := ?_)
  exact sj_ret ct_A_enter rfl rfl (Nat.le_refl _) (Nat.le_refl _) ⟨rfl, rfl⟩
/-! Term: small methods -/
theorem c_T_add {t : Nat} {c : Int} (ht : hT t) (h0 : -100 ≤ c) (h1 : c < 40) (hw0 : 0 ≤ I t 2) (hw1 : I t 2 < 100) : sCall l G mT_add (sRm d 0) [.inr (.inl t), .inl c] (hS L x I) (qV L x (sU (sU I (t + 1) (I t 2) c) t 2 (I t 2 + 1))) := by
  refine sCall_of (by decide) (Nat.le_of_ble_eq_true rfl) (sV1s_c trivial (sV1s_c (sV1_i (by omega) (by omega)) sV1s_n)) rfl ?_
  show sJ l G mT_add _ _ 0 0 0 [some (.inr (.inl t)), some (.inl c)] [] (hSh L, hRF, I, x)
  have := hT_lt ht
  refine sg_T_add_p (k := ?_)
  exact sj_retV ct_T_add rfl rfl (Nat.le_refl _) (Nat.le_refl _) ⟨rfl, rfl⟩
theorem c_T_weightAt {t : Nat} {p : Int} (ht : hT t) (h0 : 0 ≤ p) (h1 : p < 100) (he0 : -1000 ≤ I (t + 2) p) (he1 : I (t + 2) p ≤ 1000) : sCall l G mT_weightAt (sRm d 0) [.inr (.inl t), .inl p] (hS L x I) (qI L x (I (t + 2) p - p) I) := by
  refine sCall_of (by decide) (Nat.le_of_ble_eq_true rfl) (sV1s_c trivial (sV1s_c (sV1_i (by omega) (by omega)) sV1s_n)) rfl ?_
  show sJ l G mT_weightAt _ _ 0 0 0 [some (.inr (.inl t)), some (.inl p)] [] (hSh L, hRF, I, x)
  have := hT_lt ht
  refine sg_T_weightAt (k := ?_)
  exact sj_ret ct_T_weightAt rfl rfl (Nat.le_refl _) (Nat.le_refl _) ⟨rfl, rfl⟩
end CA
