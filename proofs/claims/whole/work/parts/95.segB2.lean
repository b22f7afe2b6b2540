theorem sg_B_to_0 {l : Launch} {G : sG} {rm : Room} {Q : sQ} {κ θ : Nat} {sh : List (Nat × Nat)} {RF : sF} {I : sI} {x : Nat} {a w : Int}  
    (k : sJ l G mB_told rm Q κ θ 1 [some (.inr (.inl 1)), some (.inl a), some (.inl w)] [.inl a] (sh, RF, I, x)) : sJ l G mB_told rm Q κ θ 0 [some (.inr (.inl 1)), some (.inl a), some (.inl w)] [] (sh, RF, I, x) := by
  exact sx_ok ct_B_told 1 [] 0 _ _ _ rfl ⟨trivial, trivial⟩ k
theorem sg_B_to_1 {l : Launch} {G : sG} {rm : Room} {Q : sQ} {κ θ : Nat} {sh : List (Nat × Nat)} {RF : sF} {I : sI} {x : Nat} {a w : Int}  
    (k : sJ l G mB_told rm Q κ θ 3 [some (.inr (.inl 1)), some (.inl a), some (.inl w)] [.inl w] (sh, RF, I, x)) : sJ l G mB_told rm Q κ θ 2 [some (.inr (.inl 1)), some (.inl a), some (.inl w)] [] (sh, RF, I, x) := by
  exact sx_ok ct_B_told 1 [] 2 _ _ _ rfl ⟨trivial, trivial⟩ k
theorem sg_B_to_w {l : Launch} {G : sG} {rm : Room} {Q : sQ} {κ θ : Nat} {sh : List (Nat × Nat)} {RF : sF} {I : sI} {x : Nat} {a w : Int} {c2 : Nat} {c5 : Nat} (o1 : sObj sh 0 1 1 := by first | assumption | exact hO rfl (by decide) | exact hO_T (by assumption) (by decide)) (e2 : RF 1 1 = c2 := by exact (show hRF 1 1 = 5 from rfl)) (h3 : c2 ≠ 0 := by first | assumption | omega) (q4 : sArr sh 3 c2 a ∨ sArr sh 4 c2 a := by first | assumption | exact hQ3 (by omega) (by omega) | exact hQ4 (by omega) (by omega) | exact hQ6 (by omega) (by omega)) (e5 : RF c2 a = c5 := by exact (show hRF 5 a = 6 + 3 * (a).toNat from rfl)) (h6 : c5 ≠ 0 := by first | assumption | omega) (o7 : sObj sh 2 c5 2 := by first | assumption | exact hO rfl (by decide) | exact hO_T (by assumption) (by decide))
    (k : sJ l G mB_told rm Q κ θ 9 [some (.inr (.inl 1)), some (.inl a), some (.inl w)] [.inl (I c5 2)] (sh, RF, I, x)) : sJ l G mB_told rm Q κ θ 4 [some (.inr (.inl 1)), some (.inl a), some (.inl w)] [] (sh, RF, I, x) := by
  subst e2
  subst e5
  exact sx_ok ct_B_told 5 [] 4 _ _ _ rfl ⟨trivial, ⟨o1, h3⟩, trivial, ⟨q4, h6⟩, o7, trivial⟩ k
theorem sg_B_to_v {l : Launch} {G : sG} {rm : Room} {Q : sQ} {κ θ : Nat} {sh : List (Nat × Nat)} {RF : sF} {I : sI} {x : Nat} {a w : Int} {c2 : Nat} {c5 : Nat} (o1 : sObj sh 0 1 1 := by first | assumption | exact hO rfl (by decide) | exact hO_T (by assumption) (by decide)) (e2 : RF 1 1 = c2 := by exact (show hRF 1 1 = 5 from rfl)) (h3 : c2 ≠ 0 := by first | assumption | omega) (q4 : sArr sh 3 c2 a ∨ sArr sh 4 c2 a := by first | assumption | exact hQ3 (by omega) (by omega) | exact hQ4 (by omega) (by omega) | exact hQ6 (by omega) (by omega)) (e5 : RF c2 a = c5 := by exact (show hRF 5 a = 6 + 3 * (a).toNat from rfl)) (h6 : c5 ≠ 0 := by first | assumption | omega)
    (k : sJ l G mB_told rm Q κ θ 14 [some (.inr (.inl 1)), some (.inl a), some (.inl w)] [.inr (.inl c5)] (sh, RF, I, x)) : sJ l G mB_told rm Q κ θ 10 [some (.inr (.inl 1)), some (.inl a), some (.inl w)] [] (sh, RF, I, x) := by
  subst e2
  subst e5
  exact sx_ok ct_B_told 4 [] 10 _ _ _ rfl ⟨trivial, ⟨o1, h3⟩, trivial, ⟨q4, h6⟩, trivial⟩ k
theorem sg_B_to_d {l : Launch} {G : sG} {rm : Room} {Q : sQ} {κ θ : Nat} {sh : List (Nat × Nat)} {RF : sF} {I : sI} {x : Nat} {a w : Int} {c2 : Nat} {c5 : Nat} (o1 : sObj sh 0 1 1 := by first | assumption | exact hO rfl (by decide) | exact hO_T (by assumption) (by decide)) (e2 : RF 1 1 = c2 := by exact (show hRF 1 1 = 5 from rfl)) (h3 : c2 ≠ 0 := by first | assumption | omega) (q4 : sArr sh 3 c2 a ∨ sArr sh 4 c2 a := by first | assumption | exact hQ3 (by omega) (by omega) | exact hQ4 (by omega) (by omega) | exact hQ6 (by omega) (by omega)) (e5 : RF c2 a = c5 := by exact (show hRF 5 a = 6 + 3 * (a).toNat from rfl)) (h6 : c5 ≠ 0 := by first | assumption | omega)
    (k : sJ l G mB_told rm Q κ θ 21 [some (.inr (.inl 1)), some (.inl a), some (.inl w)] [.inr (.inl c5)] (sh, RF, I, x)) : sJ l G mB_told rm Q κ θ 17 [some (.inr (.inl 1)), some (.inl a), some (.inl w)] [] (sh, RF, I, x) := by
  subst e2
  subst e5
  exact sx_ok ct_B_told 4 [] 17 _ _ _ rfl ⟨trivial, ⟨o1, h3⟩, trivial, ⟨q4, h6⟩, trivial⟩ k
theorem sg_B_ct_0 {l : Launch} {G : sG} {rm : Room} {Q : sQ} {κ θ : Nat} {sh : List (Nat × Nat)} {RF : sF} {I : sI} {x : Nat} {a : Int}  
    (k : sJ l G mB_count rm Q κ θ 1 [some (.inr (.inl 1)), some (.inl a)] [.inl a] (sh, RF, I, x)) : sJ l G mB_count rm Q κ θ 0 [some (.inr (.inl 1)), some (.inl a)] [] (sh, RF, I, x) := by
  exact sx_ok ct_B_count 1 [] 0 _ _ _ rfl ⟨trivial, trivial⟩ k
theorem sg_B_ct_1 {l : Launch} {G : sG} {rm : Room} {Q : sQ} {κ θ : Nat} {sh : List (Nat × Nat)} {RF : sF} {I : sI} {x : Nat} {a : Int} {c2 : Nat} (o1 : sObj sh 0 1 0 := by first | assumption | exact hO rfl (by decide) | exact hO_T (by assumption) (by decide)) (e2 : RF 1 0 = c2 := by exact (show hRF 1 0 = 2 from rfl)) (h3 : c2 ≠ 0 := by first | assumption | omega) (o4 : sObj sh 1 c2 2 := by first | assumption | exact hO rfl (by decide) | exact hO_T (by assumption) (by decide))
    (k : sJ l G mB_count rm Q κ θ 5 [some (.inr (.inl 1)), some (.inl a)] [.inl (I c2 2)] (sh, RF, I, x)) : sJ l G mB_count rm Q κ θ 2 [some (.inr (.inl 1)), some (.inl a)] [] (sh, RF, I, x) := by
  subst e2
  exact sx_ok ct_B_count 3 [] 2 _ _ _ rfl ⟨trivial, ⟨o1, h3⟩, o4, trivial⟩ k
theorem sg_B_ct_2 {l : Launch} {G : sG} {rm : Room} {Q : sQ} {κ θ : Nat} {sh : List (Nat × Nat)} {RF : sF} {I : sI} {x : Nat} {a : Int} {c2 : Nat} (o1 : sObj sh 0 1 2 := by first | assumption | exact hO rfl (by decide) | exact hO_T (by assumption) (by decide)) (e2 : RF 1 2 = c2 := by exact (show hRF 1 2 = 54 from rfl)) (h3 : c2 ≠ 0 := by first | assumption | omega) (o4 : sObj sh 2 c2 2 := by first | assumption | exact hO rfl (by decide) | exact hO_T (by assumption) (by decide))
    (k : sJ l G mB_count rm Q κ θ 9 [some (.inr (.inl 1)), some (.inl a)] [.inl (I c2 2)] (sh, RF, I, x)) : sJ l G mB_count rm Q κ θ 6 [some (.inr (.inl 1)), some (.inl a)] [] (sh, RF, I, x) := by
  subst e2
  exact sx_ok ct_B_count 3 [] 6 _ _ _ rfl ⟨trivial, ⟨o1, h3⟩, o4, trivial⟩ k
theorem sg_B_ct_3 {l : Launch} {G : sG} {rm : Room} {Q : sQ} {κ θ : Nat} {sh : List (Nat × Nat)} {RF : sF} {I : sI} {x : Nat} {a : Int}  (o1 : sObj sh 0 1 3 := by first | assumption | exact hO rfl (by decide) | exact hO_T (by assumption) (by decide))
    (k : sJ l G mB_count rm Q κ θ 12 [some (.inr (.inl 1)), some (.inl a)] [.inl (I 1 3)] (sh, RF, I, x)) : sJ l G mB_count rm Q κ θ 10 [some (.inr (.inl 1)), some (.inl a)] [] (sh, RF, I, x) := by
  exact sx_ok ct_B_count 2 [] 10 _ _ _ rfl ⟨trivial, o1, trivial⟩ k
theorem sg_B_ct_4 {l : Launch} {G : sG} {rm : Room} {Q : sQ} {κ θ : Nat} {sh : List (Nat × Nat)} {RF : sF} {I : sI} {x : Nat} {a : Int}  (o1 : sObj sh 0 1 12 := by first | assumption | exact hO rfl (by decide) | exact hO_T (by assumption) (by decide))
    (k : sJ l G mB_count rm Q κ θ 15 [some (.inr (.inl 1)), some (.inl a)] [.inl (I 1 12)] (sh, RF, I, x)) : sJ l G mB_count rm Q κ θ 13 [some (.inr (.inl 1)), some (.inl a)] [] (sh, RF, I, x) := by
  exact sx_ok ct_B_count 2 [] 13 _ _ _ rfl ⟨trivial, o1, trivial⟩ k
theorem sg_B_ct_5 {l : Launch} {G : sG} {rm : Room} {Q : sQ} {κ θ : Nat} {sh : List (Nat × Nat)} {RF : sF} {I : sI} {x : Nat} {a : Int}  
    (k : sJ l G mB_count rm Q κ θ 17 [some (.inr (.inl 1)), some (.inl a)] [.inl ((-1))] (sh, RF, I, x)) : sJ l G mB_count rm Q κ θ 16 [some (.inr (.inl 1)), some (.inl a)] [] (sh, RF, I, x) := by
  exact sx_ok ct_B_count 1 [] 16 _ _ _ rfl ⟨⟨by omega, by omega⟩, trivial⟩ k
