theorem sg_A_in_0 {l : Launch} {G : sG} {rm : Room} {Q : sQ} {κ θ : Nat} {sh : List (Nat × Nat)} {RF : sF} {I : sI} {x : Nat} {t : Nat}  
    (k : sJ l G mA_init rm Q κ θ 1 [some (.inr (.inl t))] [.inr (.inl t)] (sh, RF, I, x)) : sJ l G mA_init rm Q κ θ 0 [some (.inr (.inl t))] [] (sh, RF, I, x) := by
  exact sx_ok ct_A_init 1 [] 0 _ _ _ rfl ⟨trivial, trivial⟩ k
theorem sg_A_in_1 {l : Launch} {G : sG} {rm : Room} {Q : sQ} {κ θ : Nat} {sh : List (Nat × Nat)} {RF : sF} {I : sI} {x : Nat} {t : Nat}  
    (k : sJ l G mA_init rm Q κ θ 4 [some (.inr (.inl t))] [.inl 40, .inr (.inl t)] (sh, RF, I, x)) : sJ l G mA_init rm Q κ θ 2 [some (.inr (.inl t))] [] (sh, RF, I, x) := by
  exact sx_ok ct_A_init 2 [] 2 _ _ _ rfl ⟨trivial, ⟨by omega, by omega⟩, trivial⟩ k
theorem sg_A_in_2 {l : Launch} {G : sG} {rm : Room} {Q : sQ} {κ θ : Nat} {sh : List (Nat × Nat)} {RF : sF} {I : sI} {x : Nat} {t : Nat}  
    (k : sJ l G mA_init rm Q κ θ 8 [some (.inr (.inl t))] [.inl 40, .inr (.inl t)] (sh, RF, I, x)) : sJ l G mA_init rm Q κ θ 6 [some (.inr (.inl t))] [] (sh, RF, I, x) := by
  exact sx_ok ct_A_init 2 [] 6 _ _ _ rfl ⟨trivial, ⟨by omega, by omega⟩, trivial⟩ k
theorem sg_T_in_0 {l : Launch} {G : sG} {rm : Room} {Q : sQ} {κ θ : Nat} {sh : List (Nat × Nat)} {RF : sF} {I : sI} {x : Nat} {t : Nat}  
    (k : sJ l G mT_init rm Q κ θ 1 [some (.inr (.inl t))] [.inr (.inl t)] (sh, RF, I, x)) : sJ l G mT_init rm Q κ θ 0 [some (.inr (.inl t))] [] (sh, RF, I, x) := by
  exact sx_ok ct_T_init 1 [] 0 _ _ _ rfl ⟨trivial, trivial⟩ k
theorem sg_T_in_1 {l : Launch} {G : sG} {rm : Room} {Q : sQ} {κ θ : Nat} {sh : List (Nat × Nat)} {RF : sF} {I : sI} {x : Nat} {t : Nat}  
    (k : sJ l G mT_init rm Q κ θ 4 [some (.inr (.inl t))] [.inl 100, .inr (.inl t)] (sh, RF, I, x)) : sJ l G mT_init rm Q κ θ 2 [some (.inr (.inl t))] [] (sh, RF, I, x) := by
  exact sx_ok ct_T_init 2 [] 2 _ _ _ rfl ⟨trivial, ⟨by omega, by omega⟩, trivial⟩ k
theorem sg_T_in_2 {l : Launch} {G : sG} {rm : Room} {Q : sQ} {κ θ : Nat} {sh : List (Nat × Nat)} {RF : sF} {I : sI} {x : Nat} {t : Nat}  
    (k : sJ l G mT_init rm Q κ θ 8 [some (.inr (.inl t))] [.inl 100, .inr (.inl t)] (sh, RF, I, x)) : sJ l G mT_init rm Q κ θ 6 [some (.inr (.inl t))] [] (sh, RF, I, x) := by
  exact sx_ok ct_T_init 2 [] 6 _ _ _ rfl ⟨trivial, ⟨by omega, by omega⟩, trivial⟩ k
theorem sg_T_in_3 {l : Launch} {G : sG} {rm : Room} {Q : sQ} {κ θ : Nat} {sh : List (Nat × Nat)} {RF : sF} {I : sI} {x : Nat} {t : Nat} {c2 : Nat} {c6 : Nat} (o1 : sObj sh 2 t 0 := by first | assumption | exact hO rfl (by decide) | exact hO_T (by assumption) (by decide)) (e2 : RF t 0 = c2 := by first | assumption | exact hF_T0 (by assumption)) (h3 : c2 ≠ 0 := by first | assumption | omega) (a4 : sArr sh 0 c2 0 := by first | assumption | exact hAr rfl (by omega) (by omega) | exact hA_T1 (by assumption) (by omega) (by omega) | exact hA_T2 (by assumption) (by omega) (by omega)) (o5 : sObj sh 2 t 1 := by first | assumption | exact hO rfl (by decide) | exact hO_T (by assumption) (by decide)) (e6 : RF t 1 = c6 := by first | assumption | exact hF_T1 (by assumption)) (h7 : c6 ≠ 0 := by first | assumption | omega) (a8 : sArr sh 0 c6 0 := by first | assumption | exact hAr rfl (by omega) (by omega) | exact hA_T1 (by assumption) (by omega) (by omega) | exact hA_T2 (by assumption) (by omega) (by omega)) (o9 : sObj sh 2 t 2 := by first | assumption | exact hO rfl (by decide) | exact hO_T (by assumption) (by decide)) (h10 : t ≠ 0 := by first | assumption | omega)
    (k : sJ l G mT_init rm Q κ θ 23 [some (.inr (.inl t))] [] (sh, RF, sU (sU (sU I c2 0 (-1)) c6 0 1) t 2 1, x)) : sJ l G mT_init rm Q κ θ 10 [some (.inr (.inl t))] [] (sh, RF, I, x) := by
  subst e2
  subst e6
  exact sx_ok ct_T_init 13 [] 10 _ _ _ rfl ⟨trivial, ⟨o1, h3⟩, ⟨by omega, by omega⟩, ⟨by omega, by omega⟩, ⟨a4, h3⟩, trivial, ⟨o5, h7⟩, ⟨by omega, by omega⟩, ⟨by omega, by omega⟩, ⟨a8, h7⟩, trivial, ⟨by omega, by omega⟩, ⟨o9, h10, (fun h => absurd h (by decide))⟩, trivial⟩ k
theorem sg_O_in_0 {l : Launch} {G : sG} {rm : Room} {Q : sQ} {κ θ : Nat} {sh : List (Nat × Nat)} {RF : sF} {I : sI} {x : Nat} {t : Nat}  
    (k : sJ l G mO_init rm Q κ θ 1 [some (.inr (.inl t))] [.inr (.inl t)] (sh, RF, I, x)) : sJ l G mO_init rm Q κ θ 0 [some (.inr (.inl t))] [] (sh, RF, I, x) := by
  exact sx_ok ct_O_init 1 [] 0 _ _ _ rfl ⟨trivial, trivial⟩ k
theorem sg_O_in_1 {l : Launch} {G : sG} {rm : Room} {Q : sQ} {κ θ : Nat} {sh : List (Nat × Nat)} {RF : sF} {I : sI} {x : Nat} {t : Nat}  
    (k : sJ l G mO_init rm Q κ θ 4 [some (.inr (.inl t))] [.inl 6, .inr (.inl t)] (sh, RF, I, x)) : sJ l G mO_init rm Q κ θ 2 [some (.inr (.inl t))] [] (sh, RF, I, x) := by
  exact sx_ok ct_O_init 2 [] 2 _ _ _ rfl ⟨trivial, ⟨by omega, by omega⟩, trivial⟩ k
theorem sg_U_in_0 {l : Launch} {G : sG} {rm : Room} {Q : sQ} {κ θ : Nat} {sh : List (Nat × Nat)} {RF : sF} {I : sI} {x : Nat} {t : Nat}  
    (k : sJ l G mU_init rm Q κ θ 1 [some (.inr (.inl t))] [.inr (.inl t)] (sh, RF, I, x)) : sJ l G mU_init rm Q κ θ 0 [some (.inr (.inl t))] [] (sh, RF, I, x) := by
  exact sx_ok ct_U_init 1 [] 0 _ _ _ rfl ⟨trivial, trivial⟩ k
theorem sg_U_in_1 {l : Launch} {G : sG} {rm : Room} {Q : sQ} {κ θ : Nat} {sh : List (Nat × Nat)} {RF : sF} {I : sI} {x : Nat} {t : Nat}  
    (k : sJ l G mU_init rm Q κ θ 4 [some (.inr (.inl t))] [.inl 200, .inr (.inl t)] (sh, RF, I, x)) : sJ l G mU_init rm Q κ θ 2 [some (.inr (.inl t))] [] (sh, RF, I, x) := by
  exact sx_ok ct_U_init 2 [] 2 _ _ _ rfl ⟨trivial, ⟨by omega, by omega⟩, trivial⟩ k
theorem sg_U_in_2 {l : Launch} {G : sG} {rm : Room} {Q : sQ} {κ θ : Nat} {sh : List (Nat × Nat)} {RF : sF} {I : sI} {x : Nat} {t : Nat}  
    (k : sJ l G mU_init rm Q κ θ 8 [some (.inr (.inl t))] [.inl 200, .inr (.inl t)] (sh, RF, I, x)) : sJ l G mU_init rm Q κ θ 6 [some (.inr (.inl t))] [] (sh, RF, I, x) := by
  exact sx_ok ct_U_init 2 [] 6 _ _ _ rfl ⟨trivial, ⟨by omega, by omega⟩, trivial⟩ k
theorem sg_U_in_3 {l : Launch} {G : sG} {rm : Room} {Q : sQ} {κ θ : Nat} {sh : List (Nat × Nat)} {RF : sF} {I : sI} {x : Nat} {t : Nat}  
    (k : sJ l G mU_init rm Q κ θ 12 [some (.inr (.inl t))] [.inl 212, .inr (.inl t)] (sh, RF, I, x)) : sJ l G mU_init rm Q κ θ 10 [some (.inr (.inl t))] [] (sh, RF, I, x) := by
  exact sx_ok ct_U_init 2 [] 10 _ _ _ rfl ⟨trivial, ⟨by omega, by omega⟩, trivial⟩ k
theorem sg_U_in_4 {l : Launch} {G : sG} {rm : Room} {Q : sQ} {κ θ : Nat} {sh : List (Nat × Nat)} {RF : sF} {I : sI} {x : Nat} {t : Nat}  
    (k : sJ l G mU_init rm Q κ θ 16 [some (.inr (.inl t))] [.inl 212, .inr (.inl t)] (sh, RF, I, x)) : sJ l G mU_init rm Q κ θ 14 [some (.inr (.inl t))] [] (sh, RF, I, x) := by
  exact sx_ok ct_U_init 2 [] 14 _ _ _ rfl ⟨trivial, ⟨by omega, by omega⟩, trivial⟩ k
theorem sg_U_in_5 {l : Launch} {G : sG} {rm : Room} {Q : sQ} {κ θ : Nat} {sh : List (Nat × Nat)} {RF : sF} {I : sI} {x : Nat} {t : Nat}  
    (k : sJ l G mU_init rm Q κ θ 20 [some (.inr (.inl t))] [.inl 201, .inr (.inl t)] (sh, RF, I, x)) : sJ l G mU_init rm Q κ θ 18 [some (.inr (.inl t))] [] (sh, RF, I, x) := by
  exact sx_ok ct_U_init 2 [] 18 _ _ _ rfl ⟨trivial, ⟨by omega, by omega⟩, trivial⟩ k
theorem sg_U_in_6 {l : Launch} {G : sG} {rm : Room} {Q : sQ} {κ θ : Nat} {sh : List (Nat × Nat)} {RF : sF} {I : sI} {x : Nat} {t : Nat}  
    (k : sJ l G mU_init rm Q κ θ 24 [some (.inr (.inl t))] [.inl 201, .inr (.inl t)] (sh, RF, I, x)) : sJ l G mU_init rm Q κ θ 22 [some (.inr (.inl t))] [] (sh, RF, I, x) := by
  exact sx_ok ct_U_init 2 [] 22 _ _ _ rfl ⟨trivial, ⟨by omega, by omega⟩, trivial⟩ k
theorem sg_U_in_7 {l : Launch} {G : sG} {rm : Room} {Q : sQ} {κ θ : Nat} {sh : List (Nat × Nat)} {RF : sF} {I : sI} {x : Nat} {t : Nat}  
    (k : sJ l G mU_init rm Q κ θ 28 [some (.inr (.inl t))] [.inl 12, .inr (.inl t)] (sh, RF, I, x)) : sJ l G mU_init rm Q κ θ 26 [some (.inr (.inl t))] [] (sh, RF, I, x) := by
  exact sx_ok ct_U_init 2 [] 26 _ _ _ rfl ⟨trivial, ⟨by omega, by omega⟩, trivial⟩ k
theorem sg_U_in_8 {l : Launch} {G : sG} {rm : Room} {Q : sQ} {κ θ : Nat} {sh : List (Nat × Nat)} {RF : sF} {I : sI} {x : Nat} {t : Nat}  
    (k : sJ l G mU_init rm Q κ θ 32 [some (.inr (.inl t))] [.inl 12, .inr (.inl t)] (sh, RF, I, x)) : sJ l G mU_init rm Q κ θ 30 [some (.inr (.inl t))] [] (sh, RF, I, x) := by
  exact sx_ok ct_U_init 2 [] 30 _ _ _ rfl ⟨trivial, ⟨by omega, by omega⟩, trivial⟩ k
theorem sg_V_in_0 {l : Launch} {G : sG} {rm : Room} {Q : sQ} {κ θ : Nat} {sh : List (Nat × Nat)} {RF : sF} {I : sI} {x : Nat} {t : Nat}  
    (k : sJ l G mV_init rm Q κ θ 1 [some (.inr (.inl t)), none] [.inr (.inl t)] (sh, RF, I, x)) : sJ l G mV_init rm Q κ θ 0 [some (.inr (.inl t)), none] [] (sh, RF, I, x) := by
  exact sx_ok ct_V_init 1 [] 0 _ _ _ rfl ⟨trivial, trivial⟩ k
theorem sg_V_in_1 {l : Launch} {G : sG} {rm : Room} {Q : sQ} {κ θ : Nat} {sh : List (Nat × Nat)} {RF : sF} {I : sI} {x : Nat} {t : Nat}  
    (k : sJ l G mV_init rm Q κ θ 4 [some (.inr (.inl t)), none] [.inl 6, .inr (.inl t)] (sh, RF, I, x)) : sJ l G mV_init rm Q κ θ 2 [some (.inr (.inl t)), none] [] (sh, RF, I, x) := by
  exact sx_ok ct_V_init 2 [] 2 _ _ _ rfl ⟨trivial, ⟨by omega, by omega⟩, trivial⟩ k
theorem sg_V_in_2 {l : Launch} {G : sG} {rm : Room} {Q : sQ} {κ θ : Nat} {sh : List (Nat × Nat)} {RF : sF} {I : sI} {x : Nat} {t : Nat}  
    (k : sJ l G mV_init rm Q κ θ 8 [some (.inr (.inl t)), some (.inl 0)] [] (sh, RF, I, x)) : sJ l G mV_init rm Q κ θ 6 [some (.inr (.inl t)), none] [] (sh, RF, I, x) := by
  exact sx_ok ct_V_init 2 [] 6 _ _ _ rfl ⟨⟨by omega, by omega⟩, (Nat.le_of_ble_eq_true rfl), trivial⟩ k
theorem sg_V_in_l {l : Launch} {G : sG} {rm : Room} {Q : sQ} {κ θ : Nat} {sh : List (Nat × Nat)} {RF : sF} {I : sI} {x : Nat} {t : Nat} {j : Int} {c3 : Nat} (b1 : ¬ 6 ≤ j := by first | assumption | omega) (o2 : sObj sh 3 t 0 := by first | assumption | exact hO rfl (by decide) | exact hO_T (by assumption) (by decide)) (e3 : RF t 0 = c3 := by first | assumption | exact hF_T0 (by assumption)) (h4 : c3 ≠ 0 := by first | assumption | omega) (a5 : sArr sh 0 c3 j := by first | assumption | exact hAr rfl (by omega) (by omega) | exact hA_T1 (by assumption) (by omega) (by omega) | exact hA_T2 (by assumption) (by omega) (by omega)) (r6 : sR (j + 1) := by unfold sR; omega)
    (k : sJ l G mV_init rm Q κ θ 8 [some (.inr (.inl t)), some (.inl (j + 1))] [] (sh, RF, sU I c3 j (-1), x)) : sJ l G mV_init rm Q κ θ 8 [some (.inr (.inl t)), some (.inl j)] [] (sh, RF, I, x) := by
  subst e3
  exact sx_ok ct_V_init 10 [false] 8 _ _ _ rfl ⟨trivial, ⟨by omega, by omega⟩, b1, trivial, ⟨o2, h4⟩, trivial, ⟨by omega, by omega⟩, ⟨a5, h4⟩, r6, trivial, trivial⟩ k
theorem sg_V_in_x {l : Launch} {G : sG} {rm : Room} {Q : sQ} {κ θ : Nat} {sh : List (Nat × Nat)} {RF : sF} {I : sI} {x : Nat} {t : Nat} {j : Int}  (b1 : 6 ≤ j := by first | assumption | omega)
    (k : sJ l G mV_init rm Q κ θ 18 [some (.inr (.inl t)), some (.inl j)] [] (sh, RF, I, x)) : sJ l G mV_init rm Q κ θ 8 [some (.inr (.inl t)), some (.inl j)] [] (sh, RF, I, x) := by
  exact sx_ok ct_V_init 3 [true] 8 _ _ _ rfl ⟨trivial, ⟨by omega, by omega⟩, b1, trivial⟩ k
