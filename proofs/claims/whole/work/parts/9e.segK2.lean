theorem sg_M_in_0 {l : Launch} {G : sG} {rm : Room} {Q : sQ} {κ θ : Nat} {sh : List (Nat × Nat)} {RF : sF} {I : sI} {x : Nat} {t : Nat}  
    (k : sJ l G mM_init rm Q κ θ 1 [some (.inr (.inl t)), none] [.inr (.inl t)] (sh, RF, I, x)) : sJ l G mM_init rm Q κ θ 0 [some (.inr (.inl t)), none] [] (sh, RF, I, x) := by
  exact sx_ok ct_M_init 1 [] 0 _ _ _ rfl ⟨trivial, trivial⟩ k
theorem sg_M_in_1 {l : Launch} {G : sG} {rm : Room} {Q : sQ} {κ θ : Nat} {sh : List (Nat × Nat)} {RF : sF} {I : sI} {x : Nat} {t : Nat}  (o1 : sObj sh 6 t 0 := by first | assumption | exact hO rfl (by decide) | exact hO_T (by assumption) (by decide)) (h2 : t ≠ 0 := by first | assumption | omega) (o3 : sObj sh 6 t 1 := by first | assumption | exact hO rfl (by decide) | exact hO_T (by assumption) (by decide)) (o4 : sObj sh 6 t 2 := by first | assumption | exact hO rfl (by decide) | exact hO_T (by assumption) (by decide)) (o5 : sObj sh 6 t 3 := by first | assumption | exact hO rfl (by decide) | exact hO_T (by assumption) (by decide)) (o6 : sObj sh 6 t 4 := by first | assumption | exact hO rfl (by decide) | exact hO_T (by assumption) (by decide))
    (k : sJ l G mM_init rm Q κ θ 19 [some (.inr (.inl t)), none] [.inl 40, .inr (.inl t)] (sh, RF, sU (sU (sU (sU (sU I t 0 0) t 1 0) t 2 0) t 3 1) t 4 0, x)) : sJ l G mM_init rm Q κ θ 2 [some (.inr (.inl t)), none] [] (sh, RF, I, x) := by
  exact sx_ok ct_M_init 17 [] 2 _ _ _ rfl ⟨trivial, ⟨by omega, by omega⟩, ⟨o1, h2, (fun h => absurd h (by decide))⟩, trivial, ⟨by omega, by omega⟩, ⟨o3, h2, (fun h => absurd h (by decide))⟩, trivial, ⟨by omega, by omega⟩, ⟨o4, h2, (fun h => absurd h (by decide))⟩, trivial, ⟨by omega, by omega⟩, ⟨o5, h2, (fun h => absurd h (by decide))⟩, trivial, ⟨by omega, by omega⟩, ⟨o6, h2, (fun h => absurd h (by decide))⟩, trivial, ⟨by omega, by omega⟩, trivial⟩ k
theorem sg_M_in_2 {l : Launch} {G : sG} {rm : Room} {Q : sQ} {κ θ : Nat} {sh : List (Nat × Nat)} {RF : sF} {I : sI} {x : Nat} {t : Nat}  
    (k : sJ l G mM_init rm Q κ θ 23 [some (.inr (.inl t)), none] [.inl 100, .inr (.inl t)] (sh, RF, I, x)) : sJ l G mM_init rm Q κ θ 21 [some (.inr (.inl t)), none] [] (sh, RF, I, x) := by
  exact sx_ok ct_M_init 2 [] 21 _ _ _ rfl ⟨trivial, ⟨by omega, by omega⟩, trivial⟩ k
theorem sg_M_in_3 {l : Launch} {G : sG} {rm : Room} {Q : sQ} {κ θ : Nat} {sh : List (Nat × Nat)} {RF : sF} {I : sI} {x : Nat} {t : Nat}  
    (k : sJ l G mM_init rm Q κ θ 27 [some (.inr (.inl t)), none] [.inl 40, .inr (.inl t)] (sh, RF, I, x)) : sJ l G mM_init rm Q κ θ 25 [some (.inr (.inl t)), none] [] (sh, RF, I, x) := by
  exact sx_ok ct_M_init 2 [] 25 _ _ _ rfl ⟨trivial, ⟨by omega, by omega⟩, trivial⟩ k
theorem sg_M_in_4 {l : Launch} {G : sG} {rm : Room} {Q : sQ} {κ θ : Nat} {sh : List (Nat × Nat)} {RF : sF} {I : sI} {x : Nat} {t : Nat}  
    (k : sJ l G mM_init rm Q κ θ 32 [some (.inr (.inl t)), none] [.inl 100, .inl 16, .inr (.inl t)] (sh, RF, I, x)) : sJ l G mM_init rm Q κ θ 29 [some (.inr (.inl t)), none] [] (sh, RF, I, x) := by
  exact sx_ok ct_M_init 3 [] 29 _ _ _ rfl ⟨trivial, ⟨by omega, by omega⟩, ⟨by omega, by omega⟩, trivial⟩ k
theorem sg_M_in_5 {l : Launch} {G : sG} {rm : Room} {Q : sQ} {κ θ : Nat} {sh : List (Nat × Nat)} {RF : sF} {I : sI} {x : Nat} {t : Nat}  
    (k : sJ l G mM_init rm Q κ θ 36 [some (.inr (.inl t)), none] [.inl 16, .inr (.inl t)] (sh, RF, I, x)) : sJ l G mM_init rm Q κ θ 34 [some (.inr (.inl t)), none] [] (sh, RF, I, x) := by
  exact sx_ok ct_M_init 2 [] 34 _ _ _ rfl ⟨trivial, ⟨by omega, by omega⟩, trivial⟩ k
theorem sg_M_in_6 {l : Launch} {G : sG} {rm : Room} {Q : sQ} {κ θ : Nat} {sh : List (Nat × Nat)} {RF : sF} {I : sI} {x : Nat} {t : Nat}  
    (k : sJ l G mM_init rm Q κ θ 41 [some (.inr (.inl t)), none] [.inl 100, .inl 6, .inr (.inl t)] (sh, RF, I, x)) : sJ l G mM_init rm Q κ θ 38 [some (.inr (.inl t)), none] [] (sh, RF, I, x) := by
  exact sx_ok ct_M_init 3 [] 38 _ _ _ rfl ⟨trivial, ⟨by omega, by omega⟩, ⟨by omega, by omega⟩, trivial⟩ k
theorem sg_M_in_7 {l : Launch} {G : sG} {rm : Room} {Q : sQ} {κ θ : Nat} {sh : List (Nat × Nat)} {RF : sF} {I : sI} {x : Nat} {t : Nat}  
    (k : sJ l G mM_init rm Q κ θ 45 [some (.inr (.inl t)), none] [.inl 6, .inr (.inl t)] (sh, RF, I, x)) : sJ l G mM_init rm Q κ θ 43 [some (.inr (.inl t)), none] [] (sh, RF, I, x) := by
  exact sx_ok ct_M_init 2 [] 43 _ _ _ rfl ⟨trivial, ⟨by omega, by omega⟩, trivial⟩ k
theorem sg_M_in_8 {l : Launch} {G : sG} {rm : Room} {Q : sQ} {κ θ : Nat} {sh : List (Nat × Nat)} {RF : sF} {I : sI} {x : Nat} {t : Nat}  (o1 : sObj sh 6 t 12 := by first | assumption | exact hO rfl (by decide) | exact hO_T (by assumption) (by decide)) (h2 : t ≠ 0 := by first | assumption | omega) (z3 : (0 : Int) = 0 ∨ (0 : Int) = 1 := by first | assumption | omega)
    (k : sJ l G mM_init rm Q κ θ 52 [some (.inr (.inl t)), none] [.inl 6000, .inr (.inl t)] (sh, RF, sU I t 12 0, x)) : sJ l G mM_init rm Q κ θ 47 [some (.inr (.inl t)), none] [] (sh, RF, I, x) := by
  exact sx_ok ct_M_init 5 [] 47 _ _ _ rfl ⟨trivial, ⟨by omega, by omega⟩, ⟨o1, h2, (fun _ => z3)⟩, trivial, ⟨by omega, by omega⟩, trivial⟩ k
theorem sg_M_in_9 {l : Launch} {G : sG} {rm : Room} {Q : sQ} {κ θ : Nat} {sh : List (Nat × Nat)} {RF : sF} {I : sI} {x : Nat} {t : Nat}  
    (k : sJ l G mM_init rm Q κ θ 56 [some (.inr (.inl t)), none] [.inl 6000, .inr (.inl t)] (sh, RF, I, x)) : sJ l G mM_init rm Q κ θ 54 [some (.inr (.inl t)), none] [] (sh, RF, I, x) := by
  exact sx_ok ct_M_init 2 [] 54 _ _ _ rfl ⟨trivial, ⟨by omega, by omega⟩, trivial⟩ k
theorem sg_M_in_10 {l : Launch} {G : sG} {rm : Room} {Q : sQ} {κ θ : Nat} {sh : List (Nat × Nat)} {RF : sF} {I : sI} {x : Nat} {t : Nat}  
    (k : sJ l G mM_init rm Q κ θ 60 [some (.inr (.inl t)), none] [.inl 6000, .inr (.inl t)] (sh, RF, I, x)) : sJ l G mM_init rm Q κ θ 58 [some (.inr (.inl t)), none] [] (sh, RF, I, x) := by
  exact sx_ok ct_M_init 2 [] 58 _ _ _ rfl ⟨trivial, ⟨by omega, by omega⟩, trivial⟩ k
theorem sg_M_in_11 {l : Launch} {G : sG} {rm : Room} {Q : sQ} {κ θ : Nat} {sh : List (Nat × Nat)} {RF : sF} {I : sI} {x : Nat} {t : Nat}  
    (k : sJ l G mM_init rm Q κ θ 64 [some (.inr (.inl t)), none] [.inl 6000, .inr (.inl t)] (sh, RF, I, x)) : sJ l G mM_init rm Q κ θ 62 [some (.inr (.inl t)), none] [] (sh, RF, I, x) := by
  exact sx_ok ct_M_init 2 [] 62 _ _ _ rfl ⟨trivial, ⟨by omega, by omega⟩, trivial⟩ k
theorem sg_M_in_12 {l : Launch} {G : sG} {rm : Room} {Q : sQ} {κ θ : Nat} {sh : List (Nat × Nat)} {RF : sF} {I : sI} {x : Nat} {t : Nat}  (o1 : sObj sh 6 t 17 := by first | assumption | exact hO rfl (by decide) | exact hO_T (by assumption) (by decide)) (h2 : t ≠ 0 := by first | assumption | omega) (o3 : sObj sh 6 t 18 := by first | assumption | exact hO rfl (by decide) | exact hO_T (by assumption) (by decide))
    (k : sJ l G mM_init rm Q κ θ 74 [some (.inr (.inl t)), none] [.inl 6, .inr (.inl t)] (sh, RF, sU (sU I t 17 0) t 18 0, x)) : sJ l G mM_init rm Q κ θ 66 [some (.inr (.inl t)), none] [] (sh, RF, I, x) := by
  exact sx_ok ct_M_init 8 [] 66 _ _ _ rfl ⟨trivial, ⟨by omega, by omega⟩, ⟨o1, h2, (fun h => absurd h (by decide))⟩, trivial, ⟨by omega, by omega⟩, ⟨o3, h2, (fun h => absurd h (by decide))⟩, trivial, ⟨by omega, by omega⟩, trivial⟩ k
theorem sg_M_in_13 {l : Launch} {G : sG} {rm : Room} {Q : sQ} {κ θ : Nat} {sh : List (Nat × Nat)} {RF : sF} {I : sI} {x : Nat} {t : Nat}  
    (k : sJ l G mM_init rm Q κ θ 78 [some (.inr (.inl t)), none] [.inl 12, .inr (.inl t)] (sh, RF, I, x)) : sJ l G mM_init rm Q κ θ 76 [some (.inr (.inl t)), none] [] (sh, RF, I, x) := by
  exact sx_ok ct_M_init 2 [] 76 _ _ _ rfl ⟨trivial, ⟨by omega, by omega⟩, trivial⟩ k
theorem sg_M_in_14 {l : Launch} {G : sG} {rm : Room} {Q : sQ} {κ θ : Nat} {sh : List (Nat × Nat)} {RF : sF} {I : sI} {x : Nat} {t : Nat}  
    (k : sJ l G mM_init rm Q κ θ 82 [some (.inr (.inl t)), none] [.inl 12, .inr (.inl t)] (sh, RF, I, x)) : sJ l G mM_init rm Q κ θ 80 [some (.inr (.inl t)), none] [] (sh, RF, I, x) := by
  exact sx_ok ct_M_init 2 [] 80 _ _ _ rfl ⟨trivial, ⟨by omega, by omega⟩, trivial⟩ k
theorem sg_M_in_15 {l : Launch} {G : sG} {rm : Room} {Q : sQ} {κ θ : Nat} {sh : List (Nat × Nat)} {RF : sF} {I : sI} {x : Nat} {t : Nat}  
    (k : sJ l G mM_init rm Q κ θ 86 [some (.inr (.inl t)), none] [.inl 12, .inr (.inl t)] (sh, RF, I, x)) : sJ l G mM_init rm Q κ θ 84 [some (.inr (.inl t)), none] [] (sh, RF, I, x) := by
  exact sx_ok ct_M_init 2 [] 84 _ _ _ rfl ⟨trivial, ⟨by omega, by omega⟩, trivial⟩ k
theorem sg_M_in_16 {l : Launch} {G : sG} {rm : Room} {Q : sQ} {κ θ : Nat} {sh : List (Nat × Nat)} {RF : sF} {I : sI} {x : Nat} {t : Nat}  (o1 : sObj sh 6 t 23 := by first | assumption | exact hO rfl (by decide) | exact hO_T (by assumption) (by decide)) (h2 : t ≠ 0 := by first | assumption | omega)
    (k : sJ l G mM_init rm Q κ θ 93 [some (.inr (.inl t)), none] [.inl 6, .inr (.inl t)] (sh, RF, sU I t 23 0, x)) : sJ l G mM_init rm Q κ θ 88 [some (.inr (.inl t)), none] [] (sh, RF, I, x) := by
  exact sx_ok ct_M_init 5 [] 88 _ _ _ rfl ⟨trivial, ⟨by omega, by omega⟩, ⟨o1, h2, (fun h => absurd h (by decide))⟩, trivial, ⟨by omega, by omega⟩, trivial⟩ k
theorem sg_M_in_17 {l : Launch} {G : sG} {rm : Room} {Q : sQ} {κ θ : Nat} {sh : List (Nat × Nat)} {RF : sF} {I : sI} {x : Nat} {t : Nat}  (o1 : sObj sh 6 t 25 := by first | assumption | exact hO rfl (by decide) | exact hO_T (by assumption) (by decide)) (h2 : t ≠ 0 := by first | assumption | omega) (o3 : sObj sh 6 t 26 := by first | assumption | exact hO rfl (by decide) | exact hO_T (by assumption) (by decide))
    (k : sJ l G mM_init rm Q κ θ 103 [some (.inr (.inl t)), none] [.inl 100, .inr (.inl t)] (sh, RF, sU (sU I t 25 0) t 26 0, x)) : sJ l G mM_init rm Q κ θ 95 [some (.inr (.inl t)), none] [] (sh, RF, I, x) := by
  exact sx_ok ct_M_init 8 [] 95 _ _ _ rfl ⟨trivial, ⟨by omega, by omega⟩, ⟨o1, h2, (fun h => absurd h (by decide))⟩, trivial, ⟨by omega, by omega⟩, ⟨o3, h2, (fun h => absurd h (by decide))⟩, trivial, ⟨by omega, by omega⟩, trivial⟩ k
theorem sg_M_in_18 {l : Launch} {G : sG} {rm : Room} {Q : sQ} {κ θ : Nat} {sh : List (Nat × Nat)} {RF : sF} {I : sI} {x : Nat} {t : Nat}  
    (k : sJ l G mM_init rm Q κ θ 107 [some (.inr (.inl t)), some (.inl 0)] [] (sh, RF, I, x)) : sJ l G mM_init rm Q κ θ 105 [some (.inr (.inl t)), none] [] (sh, RF, I, x) := by
  exact sx_ok ct_M_init 2 [] 105 _ _ _ rfl ⟨⟨by omega, by omega⟩, (Nat.le_of_ble_eq_true rfl), trivial⟩ k
theorem sg_M_in_l {l : Launch} {G : sG} {rm : Room} {Q : sQ} {κ θ : Nat} {sh : List (Nat × Nat)} {RF : sF} {I : sI} {x : Nat} {j : Int} {c3 : Nat} {c6 : Nat} {c10 : Nat} (b1 : ¬ 16 ≤ j := by first | assumption | omega) (o2 : sObj sh 6 84 8 := by first | assumption | exact hO rfl (by decide) | exact hO_T (by assumption) (by decide)) (e3 : RF 84 8 = c3 := by exact (show hRF 84 8 = 88 from rfl)) (h4 : c3 ≠ 0 := by first | assumption | omega) (q5 : sArr sh 3 c3 j ∨ sArr sh 4 c3 j := by first | assumption | exact hQ3 (by omega) (by omega) | exact hQ4 (by omega) (by omega) | exact hQ6 (by omega) (by omega)) (e6 : RF c3 j = c6 := by exact (show hRF 88 j = 89 + (j).toNat from rfl)) (h7 : c6 ≠ 0 := by first | assumption | omega) (a8 : sArr sh 0 c6 0 := by first | assumption | exact hAr rfl (by omega) (by omega) | exact hA_T1 (by assumption) (by omega) (by omega) | exact hA_T2 (by assumption) (by omega) (by omega)) (o9 : sObj sh 6 84 9 := by first | assumption | exact hO rfl (by decide) | exact hO_T (by assumption) (by decide)) (e10 : RF 84 9 = c10 := by exact (show hRF 84 9 = 105 from rfl)) (h11 : c10 ≠ 0 := by first | assumption | omega) (a12 : sArr sh 0 c10 j := by first | assumption | exact hAr rfl (by omega) (by omega) | exact hA_T1 (by assumption) (by omega) (by omega) | exact hA_T2 (by assumption) (by omega) (by omega)) (r13 : sR (j + 1) := by unfold sR; omega)
    (k : sJ l G mM_init rm Q κ θ 107 [some (.inr (.inl 84)), some (.inl (j + 1))] [] (sh, RF, sU (sU I c6 0 (-1)) c10 j 1, x)) : sJ l G mM_init rm Q κ θ 107 [some (.inr (.inl 84)), some (.inl j)] [] (sh, RF, I, x) := by
  subst e3
  subst e6
  subst e10
  exact sx_ok ct_M_init 17 [false] 107 _ _ _ rfl ⟨trivial, ⟨by omega, by omega⟩, b1, trivial, ⟨o2, h4⟩, trivial, ⟨q5, h7⟩, ⟨by omega, by omega⟩, ⟨by omega, by omega⟩, ⟨a8, h7⟩, trivial, ⟨o9, h11⟩, trivial, ⟨by omega, by omega⟩, ⟨a12, h11⟩, r13, trivial, trivial⟩ k
theorem sg_M_in_x {l : Launch} {G : sG} {rm : Room} {Q : sQ} {κ θ : Nat} {sh : List (Nat × Nat)} {RF : sF} {I : sI} {x : Nat} {j : Int}  (b1 : 16 ≤ j := by first | assumption | omega)
    (k : sJ l G mM_init rm Q κ θ 124 [some (.inr (.inl 84)), some (.inl j)] [] (sh, RF, I, x)) : sJ l G mM_init rm Q κ θ 107 [some (.inr (.inl 84)), some (.inl j)] [] (sh, RF, I, x) := by
  exact sx_ok ct_M_init 3 [true] 107 _ _ _ rfl ⟨trivial, ⟨by omega, by omega⟩, b1, trivial⟩ k
theorem sg_B_in_0 {l : Launch} {G : sG} {rm : Room} {Q : sQ} {κ θ : Nat} {sh : List (Nat × Nat)} {RF : sF} {I : sI} {x : Nat}   
    (k : sJ l G mB_init rm Q κ θ 1 [some (.inr (.inl 1)), none] [.inr (.inl 1)] (sh, RF, I, x)) : sJ l G mB_init rm Q κ θ 0 [some (.inr (.inl 1)), none] [] (sh, RF, I, x) := by
  exact sx_ok ct_B_init 1 [] 0 _ _ _ rfl ⟨trivial, trivial⟩ k
theorem sg_B_in_1 {l : Launch} {G : sG} {rm : Room} {Q : sQ} {κ θ : Nat} {sh : List (Nat × Nat)} {RF : sF} {I : sI} {x : Nat}   
    (k : sJ l G mB_init rm Q κ θ 3 [some (.inr (.inl 1)), none] [.inr (.inl 1)] (sh, RF, I, x)) : sJ l G mB_init rm Q κ θ 2 [some (.inr (.inl 1)), none] [] (sh, RF, I, x) := by
  exact sx_ok ct_B_init 1 [] 2 _ _ _ rfl ⟨trivial, trivial⟩ k
theorem sg_B_in_2 {l : Launch} {G : sG} {rm : Room} {Q : sQ} {κ θ : Nat} {sh : List (Nat × Nat)} {RF : sF} {I : sI} {x : Nat}   
    (k : sJ l G mB_init rm Q κ θ 9 [some (.inr (.inl 1)), none] [.inl 16, .inr (.inl 1)] (sh, RF, I, x)) : sJ l G mB_init rm Q κ θ 7 [some (.inr (.inl 1)), none] [] (sh, RF, I, x) := by
  exact sx_ok ct_B_init 2 [] 7 _ _ _ rfl ⟨trivial, ⟨by omega, by omega⟩, trivial⟩ k
theorem sg_B_in_d {l : Launch} {G : sG} {rm : Room} {Q : sQ} {κ θ : Nat} {sh : List (Nat × Nat)} {RF : sF} {I : sI} {x : Nat} {y : Nat}  
    (k : sJ l G mB_init rm Q κ θ 5 [some (.inr (.inl 1)), none] [.inr (.inl y), .inr (.inl y), .inr (.inl 1)] (sh, RF, I, x)) : sJ l G mB_init rm Q κ θ 4 [some (.inr (.inl 1)), none] [.inr (.inl y), .inr (.inl 1)] (sh, RF, I, x) := by
  exact sx_ok ct_B_init 1 [] 4 _ _ _ rfl ⟨trivial, trivial⟩ k
theorem sg_B_in_3 {l : Launch} {G : sG} {rm : Room} {Q : sQ} {κ θ : Nat} {sh : List (Nat × Nat)} {RF : sF} {I : sI} {x : Nat}   
    (k : sJ l G mB_init rm Q κ θ 13 [some (.inr (.inl 1)), some (.inl 0)] [] (sh, RF, I, x)) : sJ l G mB_init rm Q κ θ 11 [some (.inr (.inl 1)), none] [] (sh, RF, I, x) := by
  exact sx_ok ct_B_init 2 [] 11 _ _ _ rfl ⟨⟨by omega, by omega⟩, (Nat.le_of_ble_eq_true rfl), trivial⟩ k
theorem sg_B_in_x {l : Launch} {G : sG} {rm : Room} {Q : sQ} {κ θ : Nat} {sh : List (Nat × Nat)} {RF : sF} {I : sI} {x : Nat} {j : Int}  (b1 : 16 ≤ j := by first | assumption | omega)
    (k : sJ l G mB_init rm Q κ θ 26 [some (.inr (.inl 1)), some (.inl j)] [.inr (.inl 1)] (sh, RF, I, x)) : sJ l G mB_init rm Q κ θ 13 [some (.inr (.inl 1)), some (.inl j)] [] (sh, RF, I, x) := by
  exact sx_ok ct_B_init 4 [true] 13 _ _ _ rfl ⟨trivial, ⟨by omega, by omega⟩, b1, trivial, trivial⟩ k
theorem sg_B_in_l {l : Launch} {G : sG} {rm : Room} {Q : sQ} {κ θ : Nat} {sh : List (Nat × Nat)} {RF : sF} {I : sI} {x : Nat} {j : Int} {c3 : Nat} (b1 : ¬ 16 ≤ j := by first | assumption | omega) (o2 : sObj sh 0 1 1 := by first | assumption | exact hO rfl (by decide) | exact hO_T (by assumption) (by decide)) (e3 : RF 1 1 = c3 := by exact (show hRF 1 1 = 5 from rfl)) (h4 : c3 ≠ 0 := by first | assumption | omega)
    (k : sJ l G mB_init rm Q κ θ 19 [some (.inr (.inl 1)), some (.inl j)] [.inl j, .inr (.inl c3)] (sh, RF, I, x)) : sJ l G mB_init rm Q κ θ 13 [some (.inr (.inl 1)), some (.inl j)] [] (sh, RF, I, x) := by
  subst e3
  exact sx_ok ct_B_init 6 [false] 13 _ _ _ rfl ⟨trivial, ⟨by omega, by omega⟩, b1, trivial, ⟨o2, h4⟩, trivial, trivial⟩ k
theorem sg_B_in_ld {l : Launch} {G : sG} {rm : Room} {Q : sQ} {κ θ : Nat} {sh : List (Nat × Nat)} {RF : sF} {I : sI} {x : Nat} {j : Int} {y : Nat}  
    (k : sJ l G mB_init rm Q κ θ 21 [some (.inr (.inl 1)), some (.inl j)] [.inr (.inl y), .inr (.inl y), .inl j, .inr (.inl 5)] (sh, RF, I, x)) : sJ l G mB_init rm Q κ θ 20 [some (.inr (.inl 1)), some (.inl j)] [.inr (.inl y), .inl j, .inr (.inl 5)] (sh, RF, I, x) := by
  exact sx_ok ct_B_init 1 [] 20 _ _ _ rfl ⟨trivial, trivial⟩ k
theorem sg_B_in_ln {l : Launch} {G : sG} {rm : Room} {Q : sQ} {κ θ : Nat} {sh : List (Nat × Nat)} {RF : sF} {I : sI} {x : Nat} {j : Int}  (r1 : sR (j + 1) := by unfold sR; omega)
    (k : sJ l G mB_init rm Q κ θ 13 [some (.inr (.inl 1)), some (.inl (j + 1))] [] (sh, RF, I, x)) : sJ l G mB_init rm Q κ θ 23 [some (.inr (.inl 1)), some (.inl j)] [] (sh, RF, I, x) := by
  exact sx_ok ct_B_init 2 [] 23 _ _ _ rfl ⟨r1, trivial, trivial⟩ k
theorem sg_B_in_rd {l : Launch} {G : sG} {rm : Room} {Q : sQ} {κ θ : Nat} {sh : List (Nat × Nat)} {RF : sF} {I : sI} {x : Nat} {j : Int} {y : Nat}  
    (k : sJ l G mB_init rm Q κ θ 28 [some (.inr (.inl 1)), some (.inl j)] [.inr (.inl y), .inr (.inl y), .inr (.inl 1)] (sh, RF, I, x)) : sJ l G mB_init rm Q κ θ 27 [some (.inr (.inl 1)), some (.inl j)] [.inr (.inl y), .inr (.inl 1)] (sh, RF, I, x) := by
  exact sx_ok ct_B_init 1 [] 27 _ _ _ rfl ⟨trivial, trivial⟩ k
theorem sg_B_in_wd {l : Launch} {G : sG} {rm : Room} {Q : sQ} {κ θ : Nat} {sh : List (Nat × Nat)} {RF : sF} {I : sI} {x : Nat} {j : Int} {y : Nat}  
    (k : sJ l G mB_init rm Q κ θ 40 [some (.inr (.inl 1)), some (.inl j)] [.inr (.inl y), .inr (.inl y), .inr (.inl 1)] (sh, RF, I, x)) : sJ l G mB_init rm Q κ θ 39 [some (.inr (.inl 1)), some (.inl j)] [.inr (.inl y), .inr (.inl 1)] (sh, RF, I, x) := by
  exact sx_ok ct_B_init 1 [] 39 _ _ _ rfl ⟨trivial, trivial⟩ k
theorem sg_B_in_sd {l : Launch} {G : sG} {rm : Room} {Q : sQ} {κ θ : Nat} {sh : List (Nat × Nat)} {RF : sF} {I : sI} {x : Nat} {j : Int} {y : Nat}  
    (k : sJ l G mB_init rm Q κ θ 45 [some (.inr (.inl 1)), some (.inl j)] [.inr (.inl y), .inr (.inl y), .inr (.inl 1)] (sh, RF, I, x)) : sJ l G mB_init rm Q κ θ 44 [some (.inr (.inl 1)), some (.inl j)] [.inr (.inl y), .inr (.inl 1)] (sh, RF, I, x) := by
  exact sx_ok ct_B_init 1 [] 44 _ _ _ rfl ⟨trivial, trivial⟩ k
theorem sg_B_in_fd {l : Launch} {G : sG} {rm : Room} {Q : sQ} {κ θ : Nat} {sh : List (Nat × Nat)} {RF : sF} {I : sI} {x : Nat} {j : Int} {y : Nat}  
    (k : sJ l G mB_init rm Q κ θ 50 [some (.inr (.inl 1)), some (.inl j)] [.inr (.inl y), .inr (.inl y), .inr (.inl 1)] (sh, RF, I, x)) : sJ l G mB_init rm Q κ θ 49 [some (.inr (.inl 1)), some (.inl j)] [.inr (.inl y), .inr (.inl 1)] (sh, RF, I, x) := by
  exact sx_ok ct_B_init 1 [] 49 _ _ _ rfl ⟨trivial, trivial⟩ k
theorem sg_B_in_ud {l : Launch} {G : sG} {rm : Room} {Q : sQ} {κ θ : Nat} {sh : List (Nat × Nat)} {RF : sF} {I : sI} {x : Nat} {j : Int} {y : Nat}  
    (k : sJ l G mB_init rm Q κ θ 55 [some (.inr (.inl 1)), some (.inl j)] [.inr (.inl y), .inr (.inl y), .inr (.inl 1)] (sh, RF, I, x)) : sJ l G mB_init rm Q κ θ 54 [some (.inr (.inl 1)), some (.inl j)] [.inr (.inl y), .inr (.inl 1)] (sh, RF, I, x) := by
  exact sx_ok ct_B_init 1 [] 54 _ _ _ rfl ⟨trivial, trivial⟩ k
theorem sg_B_in_vd {l : Launch} {G : sG} {rm : Room} {Q : sQ} {κ θ : Nat} {sh : List (Nat × Nat)} {RF : sF} {I : sI} {x : Nat} {j : Int} {y : Nat}  
    (k : sJ l G mB_init rm Q κ θ 60 [some (.inr (.inl 1)), some (.inl j)] [.inr (.inl y), .inr (.inl y), .inr (.inl 1)] (sh, RF, I, x)) : sJ l G mB_init rm Q κ θ 59 [some (.inr (.inl 1)), some (.inl j)] [.inr (.inl y), .inr (.inl 1)] (sh, RF, I, x) := by
  exact sx_ok ct_B_init 1 [] 59 _ _ _ rfl ⟨trivial, trivial⟩ k
theorem sg_B_in_qd {l : Launch} {G : sG} {rm : Room} {Q : sQ} {κ θ : Nat} {sh : List (Nat × Nat)} {RF : sF} {I : sI} {x : Nat} {j : Int} {y : Nat}  
    (k : sJ l G mB_init rm Q κ θ 65 [some (.inr (.inl 1)), some (.inl j)] [.inr (.inl y), .inr (.inl y), .inr (.inl 1)] (sh, RF, I, x)) : sJ l G mB_init rm Q κ θ 64 [some (.inr (.inl 1)), some (.inl j)] [.inr (.inl y), .inr (.inl 1)] (sh, RF, I, x) := by
  exact sx_ok ct_B_init 1 [] 64 _ _ _ rfl ⟨trivial, trivial⟩ k
theorem sg_B_in_od {l : Launch} {G : sG} {rm : Room} {Q : sQ} {κ θ : Nat} {sh : List (Nat × Nat)} {RF : sF} {I : sI} {x : Nat} {j : Int} {y : Nat}  
    (k : sJ l G mB_init rm Q κ θ 70 [some (.inr (.inl 1)), some (.inl j)] [.inr (.inl y), .inr (.inl y), .inr (.inl 1)] (sh, RF, I, x)) : sJ l G mB_init rm Q κ θ 69 [some (.inr (.inl 1)), some (.inl j)] [.inr (.inl y), .inr (.inl 1)] (sh, RF, I, x) := by
  exact sx_ok ct_B_init 1 [] 69 _ _ _ rfl ⟨trivial, trivial⟩ k
theorem sg_B_in_id {l : Launch} {G : sG} {rm : Room} {Q : sQ} {κ θ : Nat} {sh : List (Nat × Nat)} {RF : sF} {I : sI} {x : Nat} {j : Int} {y : Nat}  
    (k : sJ l G mB_init rm Q κ θ 75 [some (.inr (.inl 1)), some (.inl j)] [.inr (.inl y), .inr (.inl y), .inr (.inl 1)] (sh, RF, I, x)) : sJ l G mB_init rm Q κ θ 74 [some (.inr (.inl 1)), some (.inl j)] [.inr (.inl y), .inr (.inl 1)] (sh, RF, I, x) := by
  exact sx_ok ct_B_init 1 [] 74 _ _ _ rfl ⟨trivial, trivial⟩ k
theorem sg_B_in_r2 {l : Launch} {G : sG} {rm : Room} {Q : sQ} {κ θ : Nat} {sh : List (Nat × Nat)} {RF : sF} {I : sI} {x : Nat} {j : Int} {c2 : Nat} (o1 : sObj sh 0 1 2 := by first | assumption | exact hO rfl (by decide) | exact hO_T (by assumption) (by decide)) (e2 : RF 1 2 = c2 := by exact (show hRF 1 2 = 54 from rfl)) (h3 : c2 ≠ 0 := by first | assumption | omega) (o4 : sObj sh 2 c2 2 := by first | assumption | exact hO rfl (by decide) | exact hO_T (by assumption) (by decide)) (o5 : sObj sh 0 1 3 := by first | assumption | exact hO rfl (by decide) | exact hO_T (by assumption) (by decide)) (h6 : 1 ≠ 0 := by first | assumption | omega)
    (k : sJ l G mB_init rm Q κ θ 38 [some (.inr (.inl 1)), some (.inl j)] [.inr (.inl 1)] (sh, RF, sU (sU I c2 2 0) 1 3 1, x)) : sJ l G mB_init rm Q κ θ 30 [some (.inr (.inl 1)), some (.inl j)] [] (sh, RF, I, x) := by
  subst e2
  exact sx_ok ct_B_init 8 [] 30 _ _ _ rfl ⟨trivial, ⟨o1, h3⟩, ⟨by omega, by omega⟩, ⟨o4, h3, (fun h => absurd h (by decide))⟩, trivial, ⟨by omega, by omega⟩, ⟨o5, h6, (fun h => absurd h (by decide))⟩, trivial, trivial⟩ k
theorem sg_B_in_s0 {l : Launch} {G : sG} {rm : Room} {Q : sQ} {κ θ : Nat} {sh : List (Nat × Nat)} {RF : sF} {I : sI} {x : Nat} {j : Int}  
    (k : sJ l G mB_init rm Q κ θ 43 [some (.inr (.inl 1)), some (.inl j)] [.inr (.inl 1)] (sh, RF, I, x)) : sJ l G mB_init rm Q κ θ 42 [some (.inr (.inl 1)), some (.inl j)] [] (sh, RF, I, x) := by
  exact sx_ok ct_B_init 1 [] 42 _ _ _ rfl ⟨trivial, trivial⟩ k
theorem sg_B_in_f0 {l : Launch} {G : sG} {rm : Room} {Q : sQ} {κ θ : Nat} {sh : List (Nat × Nat)} {RF : sF} {I : sI} {x : Nat} {j : Int}  
    (k : sJ l G mB_init rm Q κ θ 48 [some (.inr (.inl 1)), some (.inl j)] [.inr (.inl 1)] (sh, RF, I, x)) : sJ l G mB_init rm Q κ θ 47 [some (.inr (.inl 1)), some (.inl j)] [] (sh, RF, I, x) := by
  exact sx_ok ct_B_init 1 [] 47 _ _ _ rfl ⟨trivial, trivial⟩ k
theorem sg_B_in_u0 {l : Launch} {G : sG} {rm : Room} {Q : sQ} {κ θ : Nat} {sh : List (Nat × Nat)} {RF : sF} {I : sI} {x : Nat} {j : Int}  
    (k : sJ l G mB_init rm Q κ θ 53 [some (.inr (.inl 1)), some (.inl j)] [.inr (.inl 1)] (sh, RF, I, x)) : sJ l G mB_init rm Q κ θ 52 [some (.inr (.inl 1)), some (.inl j)] [] (sh, RF, I, x) := by
  exact sx_ok ct_B_init 1 [] 52 _ _ _ rfl ⟨trivial, trivial⟩ k
theorem sg_B_in_v0 {l : Launch} {G : sG} {rm : Room} {Q : sQ} {κ θ : Nat} {sh : List (Nat × Nat)} {RF : sF} {I : sI} {x : Nat} {j : Int}  
    (k : sJ l G mB_init rm Q κ θ 58 [some (.inr (.inl 1)), some (.inl j)] [.inr (.inl 1)] (sh, RF, I, x)) : sJ l G mB_init rm Q κ θ 57 [some (.inr (.inl 1)), some (.inl j)] [] (sh, RF, I, x) := by
  exact sx_ok ct_B_init 1 [] 57 _ _ _ rfl ⟨trivial, trivial⟩ k
theorem sg_B_in_q0 {l : Launch} {G : sG} {rm : Room} {Q : sQ} {κ θ : Nat} {sh : List (Nat × Nat)} {RF : sF} {I : sI} {x : Nat} {j : Int}  
    (k : sJ l G mB_init rm Q κ θ 63 [some (.inr (.inl 1)), some (.inl j)] [.inr (.inl 1)] (sh, RF, I, x)) : sJ l G mB_init rm Q κ θ 62 [some (.inr (.inl 1)), some (.inl j)] [] (sh, RF, I, x) := by
  exact sx_ok ct_B_init 1 [] 62 _ _ _ rfl ⟨trivial, trivial⟩ k
theorem sg_B_in_o0 {l : Launch} {G : sG} {rm : Room} {Q : sQ} {κ θ : Nat} {sh : List (Nat × Nat)} {RF : sF} {I : sI} {x : Nat} {j : Int}  
    (k : sJ l G mB_init rm Q κ θ 68 [some (.inr (.inl 1)), some (.inl j)] [.inr (.inl 1)] (sh, RF, I, x)) : sJ l G mB_init rm Q κ θ 67 [some (.inr (.inl 1)), some (.inl j)] [] (sh, RF, I, x) := by
  exact sx_ok ct_B_init 1 [] 67 _ _ _ rfl ⟨trivial, trivial⟩ k
theorem sg_B_in_i0 {l : Launch} {G : sG} {rm : Room} {Q : sQ} {κ θ : Nat} {sh : List (Nat × Nat)} {RF : sF} {I : sI} {x : Nat} {j : Int}  
    (k : sJ l G mB_init rm Q κ θ 73 [some (.inr (.inl 1)), some (.inl j)] [.inr (.inl 1)] (sh, RF, I, x)) : sJ l G mB_init rm Q κ θ 72 [some (.inr (.inl 1)), some (.inl j)] [] (sh, RF, I, x) := by
  exact sx_ok ct_B_init 1 [] 72 _ _ _ rfl ⟨trivial, trivial⟩ k
