/-! what the reference's constructor makes -/
def ItM : Int → Int := fun j => if j = 3 then 1 else 0
def addM : List (Nat × Nat) := [(0, 40), (0, 100), (1, 40), (4, 16), (0, 100), (0, 100), (0, 100), (0, 100), (0, 100), (0, 100), (0, 100), (0, 100), (0, 100), (0, 100), (0, 100), (0, 100), (0, 100), (0, 100), (0, 100), (0, 100), (0, 16), (4, 6), (0, 100), (0, 100), (0, 100), (0, 100), (0, 100), (0, 100), (0, 6), (0, 6000), (0, 6000), (0, 6000), (0, 6000), (0, 6), (0, 12), (0, 12), (0, 12), (0, 6), (0, 100)]
def fsM : List (Int × Nat) := [(5, 85), (6, 86), (7, 87), (8, 88), (9, 105), (10, 106), (11, 113), (13, 114), (14, 115), (15, 116), (16, 117), (19, 118), (20, 119), (21, 120), (22, 121), (24, 122), (27, 123)]
theorem cl_M36 : sIn (Cond.classLink "TermBenchModel" 36 "[[I") = true := by decide +kernel
theorem sKd_add {sh r : List (Nat × Nat)} {m : Nat} : sKd (sh ++ r) (sh.length + m) = sKd r m := by
  unfold sKd
  rw [List.getD_eq_getElem?_getD, List.getD_eq_getElem?_getD, List.getElem?_append_right (by omega), show sh.length + m - sh.length = m by omega]
theorem addM_c : ∀ k, k < 16 → sKd addM (4 + k) = (0, 100) := by decide +kernel
section CKE
variable {l : Launch} {G : sG} {d : Nat}
def mMP (S : sS) : sS → Prop := fun S' => S'.1 = S.1 ++ addM ∧ S'.2.2.2 = 0 ∧ (∀ b, b < 84 → S'.2.1 b = S.2.1 b ∧ S'.2.2.1 b = S.2.2.1 b) ∧ (∀ p ∈ fsM, S'.2.1 84 p.1 = p.2) ∧ (∀ j : Nat, j < 16 → S'.2.1 88 j = 89 + j) ∧ (∀ j : Nat, j < 6 → S'.2.1 106 j = 107 + j) ∧ S'.2.2.1 84 = ItM ∧ ∀ b, 85 ≤ b → b < 124 → ∀ j, S'.2.2.1 b j = (if 89 ≤ b ∧ b < 105 ∧ j = 0 then -1 else if b = 105 ∧ 0 ≤ j ∧ j < 16 then 1 else 0)
theorem c_M_in {S : sS} (hlen : S.1.length = 85) (hk : sKd S.1 84 = (11, 28)) (hx : S.2.2.2 = 0) (hI0 : S.2.2.1 84 = fun _ => 0) : sCall l G mM_init (rK (d + 1) 39 26572) [.inr (.inl 84)] S (qS (mMP S)) := by
  have hl : 84 < S.1.length := by omega
  refine sCall_of (by decide) (Nat.le_of_ble_eq_true rfl) (sV1s_c trivial sV1s_n) rfl ?_
  have R0 := mkR_0 S 84
  have e0 : S = (S.1 ++ [], S.2.1, S.2.2.1, 0) := by rw [List.append_nil, ← hx]
  suffices h : sJ l G mM_init (rK (d + 1) 39 26572) (qS (mMP S)) 0 0 0 [some (.inr (.inl 84)), none] [] (S.1 ++ [], S.2.1, S.2.2.1, 0) by
    rw [← e0] at h
    exact h
  refine sg_M_in_0 (k := ?_)
  refine sk_obj ct_M_init oi_M ?_
  have q1_0 : sObj (S.1 ++ []) 6 84 0 := mk_obj hl hk (by decide)
  have q1_1 : sObj (S.1 ++ []) 6 84 1 := mk_obj hl hk (by decide)
  have q1_2 : sObj (S.1 ++ []) 6 84 2 := mk_obj hl hk (by decide)
  have q1_3 : sObj (S.1 ++ []) 6 84 3 := mk_obj hl hk (by decide)
  have q1_4 : sObj (S.1 ++ []) 6 84 4 := mk_obj hl hk (by decide)
  refine sg_M_in_1 (k := ?_)
  have R0x := mkR_It (It2 := ItM) (mkR_int (f := 4) (v := 0) hl (mkR_int (f := 3) (v := 1) hl (mkR_int (f := 2) (v := 0) hl (mkR_int (f := 1) (v := 0) hl (mkR_int (f := 0) (v := 0) hl (R0)))))) (by
    funext j
    rw [hI0]
    unfold ItM
    repeat' split
    all_goals first | rfl | omega)
  refine sk_mpI (n := 40) ct_M_init hl hk R0x (by simp) ow_M5 (fun RF1 I1 R1 => ?_)
  refine sg_M_in_2 (k := ?_)
  refine sk_mpI (n := 100) ct_M_init hl hk R1 (by simp) ow_M6 (fun RF2 I2 R2 => ?_)
  refine sg_M_in_3 (k := ?_)
  refine sk_mpZ (n := 40) ct_M_init hl hk R2 (by simp) ow_M7 (fun RF3 I3 R3 => ?_)
  refine sg_M_in_4 (k := ?_)
  refine sk_mpM (n := 16) (m := 100) ct_M_init hl hk R3 (by simp) ow_M8 cl_M36 (fun RF4 I4 R4 => ?_)
  refine sg_M_in_5 (k := ?_)
  refine sk_mpI (n := 16) ct_M_init hl hk R4 (by simp) ow_M9 (fun RF5 I5 R5 => ?_)
  refine sg_M_in_6 (k := ?_)
  refine sk_mpM (n := 6) (m := 100) ct_M_init hl hk R5 (by simp) ow_M10 cl_M36 (fun RF6 I6 R6 => ?_)
  refine sg_M_in_7 (k := ?_)
  refine sk_mpI (n := 6) ct_M_init hl hk R6 (by simp) ow_M11 (fun RF7 I7 R7 => ?_)
  have q8_12 : sObj (S.1 ++ ((((((([] ++ [(0, 40)]) ++ [(0, 100)]) ++ [(1, 40)]) ++ ((4, 16) :: List.replicate 16 (0, 100))) ++ [(0, 16)]) ++ ((4, 6) :: List.replicate 6 (0, 100))) ++ [(0, 6)])) 6 84 12 := mk_obj hl hk (by decide)
  refine sg_M_in_8 (k := ?_)
  have R7x := mkR_It (It2 := ItM) (mkR_int (f := 12) (v := 0) hl (R7)) (by
    funext j
    unfold ItM
    repeat' split
    all_goals first | rfl | omega)
  refine sk_mpI (n := 6000) ct_M_init hl hk R7x (by simp) ow_M13 (fun RF8 I8 R8 => ?_)
  refine sg_M_in_9 (k := ?_)
  refine sk_mpI (n := 6000) ct_M_init hl hk R8 (by simp) ow_M14 (fun RF9 I9 R9 => ?_)
  refine sg_M_in_10 (k := ?_)
  refine sk_mpI (n := 6000) ct_M_init hl hk R9 (by simp) ow_M15 (fun RF10 I10 R10 => ?_)
  refine sg_M_in_11 (k := ?_)
  refine sk_mpI (n := 6000) ct_M_init hl hk R10 (by simp) ow_M16 (fun RF11 I11 R11 => ?_)
  have q12_17 : sObj (S.1 ++ ((((((((((([] ++ [(0, 40)]) ++ [(0, 100)]) ++ [(1, 40)]) ++ ((4, 16) :: List.replicate 16 (0, 100))) ++ [(0, 16)]) ++ ((4, 6) :: List.replicate 6 (0, 100))) ++ [(0, 6)]) ++ [(0, 6000)]) ++ [(0, 6000)]) ++ [(0, 6000)]) ++ [(0, 6000)])) 6 84 17 := mk_obj hl hk (by decide)
  have q12_18 : sObj (S.1 ++ ((((((((((([] ++ [(0, 40)]) ++ [(0, 100)]) ++ [(1, 40)]) ++ ((4, 16) :: List.replicate 16 (0, 100))) ++ [(0, 16)]) ++ ((4, 6) :: List.replicate 6 (0, 100))) ++ [(0, 6)]) ++ [(0, 6000)]) ++ [(0, 6000)]) ++ [(0, 6000)]) ++ [(0, 6000)])) 6 84 18 := mk_obj hl hk (by decide)
  refine sg_M_in_12 (k := ?_)
  have R11x := mkR_It (It2 := ItM) (mkR_int (f := 18) (v := 0) hl (mkR_int (f := 17) (v := 0) hl (R11))) (by
    funext j
    unfold ItM
    repeat' split
    all_goals first | rfl | omega)
  refine sk_mpI (n := 6) ct_M_init hl hk R11x (by simp) ow_M19 (fun RF12 I12 R12 => ?_)
  refine sg_M_in_13 (k := ?_)
  refine sk_mpI (n := 12) ct_M_init hl hk R12 (by simp) ow_M20 (fun RF13 I13 R13 => ?_)
  refine sg_M_in_14 (k := ?_)
  refine sk_mpI (n := 12) ct_M_init hl hk R13 (by simp) ow_M21 (fun RF14 I14 R14 => ?_)
  refine sg_M_in_15 (k := ?_)
  refine sk_mpI (n := 12) ct_M_init hl hk R14 (by simp) ow_M22 (fun RF15 I15 R15 => ?_)
  have q16_23 : sObj (S.1 ++ ((((((((((((((([] ++ [(0, 40)]) ++ [(0, 100)]) ++ [(1, 40)]) ++ ((4, 16) :: List.replicate 16 (0, 100))) ++ [(0, 16)]) ++ ((4, 6) :: List.replicate 6 (0, 100))) ++ [(0, 6)]) ++ [(0, 6000)]) ++ [(0, 6000)]) ++ [(0, 6000)]) ++ [(0, 6000)]) ++ [(0, 6)]) ++ [(0, 12)]) ++ [(0, 12)]) ++ [(0, 12)])) 6 84 23 := mk_obj hl hk (by decide)
  refine sg_M_in_16 (k := ?_)
  have R15x := mkR_It (It2 := ItM) (mkR_int (f := 23) (v := 0) hl (R15)) (by
    funext j
    unfold ItM
    repeat' split
    all_goals first | rfl | omega)
  refine sk_mpI (n := 6) ct_M_init hl hk R15x (by simp) ow_M24 (fun RF16 I16 R16 => ?_)
  have q17_25 : sObj (S.1 ++ (((((((((((((((([] ++ [(0, 40)]) ++ [(0, 100)]) ++ [(1, 40)]) ++ ((4, 16) :: List.replicate 16 (0, 100))) ++ [(0, 16)]) ++ ((4, 6) :: List.replicate 6 (0, 100))) ++ [(0, 6)]) ++ [(0, 6000)]) ++ [(0, 6000)]) ++ [(0, 6000)]) ++ [(0, 6000)]) ++ [(0, 6)]) ++ [(0, 12)]) ++ [(0, 12)]) ++ [(0, 12)]) ++ [(0, 6)])) 6 84 25 := mk_obj hl hk (by decide)
  have q17_26 : sObj (S.1 ++ (((((((((((((((([] ++ [(0, 40)]) ++ [(0, 100)]) ++ [(1, 40)]) ++ ((4, 16) :: List.replicate 16 (0, 100))) ++ [(0, 16)]) ++ ((4, 6) :: List.replicate 6 (0, 100))) ++ [(0, 6)]) ++ [(0, 6000)]) ++ [(0, 6000)]) ++ [(0, 6000)]) ++ [(0, 6000)]) ++ [(0, 6)]) ++ [(0, 12)]) ++ [(0, 12)]) ++ [(0, 12)]) ++ [(0, 6)])) 6 84 26 := mk_obj hl hk (by decide)
  refine sg_M_in_17 (k := ?_)
  have R16x := mkR_It (It2 := ItM) (mkR_int (f := 26) (v := 0) hl (mkR_int (f := 25) (v := 0) hl (R16))) (by
    funext j
    unfold ItM
    repeat' split
    all_goals first | rfl | omega)
  refine sk_mpI (n := 100) ct_M_init hl hk R16x (by simp) ow_M27 (fun RF17 I17 R17 => ?_)
  refine sg_M_in_18 (k := ?_)
  have hadd : ((((((((((((((((([] ++ [(0, 40)]) ++ [(0, 100)]) ++ [(1, 40)]) ++ ((4, 16) :: List.replicate 16 (0, 100))) ++ [(0, 16)]) ++ ((4, 6) :: List.replicate 6 (0, 100))) ++ [(0, 6)]) ++ [(0, 6000)]) ++ [(0, 6000)]) ++ [(0, 6000)]) ++ [(0, 6000)]) ++ [(0, 6)]) ++ [(0, 12)]) ++ [(0, 12)]) ++ [(0, 12)]) ++ [(0, 6)]) ++ [(0, 100)]) = addM := rfl
  have hR := R17
  obtain ⟨h1, h2, h3, h4, h5⟩ := hR
  rw [hadd] at h3 ⊢
  have hf : ∀ p ∈ fsM, RF17 84 p.1 = p.2 := fun p hp => h4 p (by rw [hlen]; exact hp)
  have h88 : ∀ j : Nat, j < 16 → RF17 88 j = 89 + j := fun j hj => (h5 (88, 16) (by rw [hlen]; simp)).2 j hj
  have h106 : ∀ j : Nat, j < 6 → RF17 106 j = 107 + j := fun j hj => (h5 (106, 6) (by rw [hlen]; simp)).2 j hj
  have hz : ∀ b, 85 ≤ b → b < 124 → ∀ j, I17 b j = 0 := fun b b1 b2 j => h3 b (by omega) (by rw [hlen]; exact b2) j
  have k88 : sKd (S.1 ++ addM) 88 = (4, 16) := by rw [show (88 : Nat) = S.1.length + 3 by omega, sKd_add]; rfl
  have k105 : sKd (S.1 ++ addM) 105 = (0, 16) := by rw [show (105 : Nat) = S.1.length + 20 by omega, sKd_add]; rfl
  have kC : ∀ k, k < 16 → sKd (S.1 ++ addM) (89 + k) = (0, 100) := fun k hk => by rw [show (89 : Nat) + k = S.1.length + (4 + k) by omega, sKd_add]; exact addM_c k hk
  have o8 : sObj (S.1 ++ addM) 6 84 8 := mk_obj hl hk (by decide)
  have o9 : sObj (S.1 ++ addM) 6 84 9 := mk_obj hl hk (by decide)
  have e3 : RF17 84 8 = 88 := hf (8, 88) (by simp [fsM])
  have e10 : RF17 84 9 = 105 := hf (9, 105) (by simp [fsM])
  have loop : ∀ (m j : Nat) (I2 : sI), m = 16 - j → j ≤ 16 → (∀ b, b ≤ 84 → I2 b = I17 b) → (∀ b, 85 ≤ b → b < 124 → ∀ q : Int, I2 b q = (if 89 ≤ b ∧ b < 89 + j ∧ q = 0 then -1 else if b = 105 ∧ 0 ≤ q ∧ q < j then 1 else 0)) → sJ l G mM_init (rK (d + 1) 39 26572) (qS (mMP S)) 39 26572 107 [some (.inr (.inl 84)), some (.inl (j : Int))] [] (S.1 ++ addM, RF17, I2, 0) := by
    intro m
    induction m with
    | zero =>
      intro j I2 hm hj hb hz2
      have hj' : j = 16 := by omega
      subst hj'
      refine sg_M_in_x (k := ?_)
      refine sk_ret ct_M_init ⟨rfl, rfl, fun b hb1 => ⟨(h1 b (by omega) (by omega)).1, ?_⟩, hf, h88, h106, ?_, fun b b1 b2 q => ?_⟩
      · show I2 b = _
        rw [hb b (by omega)]
        exact (h1 b (by omega) (by omega)).2
      · show I2 84 = _
        rw [hb 84 (by omega)]
        exact h2
      · have := hz2 b b1 b2 q
        exact this
    | succ m ihm =>
      intro j I2 hm hj hb hz2
      have q5 : sArr (S.1 ++ addM) 3 88 (j : Int) ∨ sArr (S.1 ++ addM) 4 88 (j : Int) := by
        right
        unfold sArr
        rw [k88]
        exact ⟨rfl, by omega, by show (j : Int) < ((16 : Nat) : Int); omega⟩
      have a8 : sArr (S.1 ++ addM) 0 (89 + j) 0 := by
        unfold sArr
        rw [kC j (by omega)]
        decide
      have a12 : sArr (S.1 ++ addM) 0 105 (j : Int) := by
        unfold sArr
        rw [k105]
        exact ⟨rfl, by omega, by show (j : Int) < ((16 : Nat) : Int); omega⟩
      refine sg_M_in_l (c3 := 88) (c6 := 89 + j) (c10 := 105) (e3 := e3) (e6 := h88 j (by omega)) (e10 := e10) (k := ?_)
      refine ihm (j + 1) _ (by omega) (by omega) (fun b hb1 => by rw [sU_ne (by omega), sU_ne (by omega)]; exact hb b hb1) (fun b b1 b2 q => ?_)
      by_cases hb5 : b = 105
      · subst hb5
        by_cases hq : q = j
        · subst hq
          rw [hU_eq, if_neg (by omega), if_pos (by omega)]
        · rw [hU_nj hq, sU_ne (by omega), hz2 105 b1 b2 q, if_neg (c := 89 ≤ 105 ∧ 105 < 89 + j ∧ q = 0) (by omega), if_neg (c := 89 ≤ 105 ∧ 105 < 89 + (j + 1) ∧ q = 0) (by omega)]
          by_cases hq2 : 0 ≤ q ∧ q < j
          · rw [if_pos (by omega), if_pos (by omega)]
          · rw [if_neg (by omega), if_neg (by omega)]
      · rw [sU_ne hb5]
        by_cases hbj : b = 89 + j
        · subst hbj
          by_cases hq : q = 0
          · subst hq
            rw [hU_eq, if_pos (by omega)]
          · rw [hU_nj hq, hz2 _ b1 b2 q, if_neg (by omega), if_neg (by omega), if_neg (by omega), if_neg (by omega)]
        · rw [sU_ne hbj, hz2 b b1 b2 q, if_neg (c := b = 105 ∧ _) (by omega), if_neg (c := b = 105 ∧ _) (by omega)]
          by_cases hq : 89 ≤ b ∧ b < 89 + j ∧ q = 0
          · rw [if_pos hq, if_pos (by omega)]
          · rw [if_neg hq, if_neg (by omega)]
  exact loop 16 0 I17 rfl (by omega) (fun _ _ => rfl) (fun b b1 b2 q => by rw [hz b b1 b2 q, if_neg (by omega), if_neg (by omega)])
end CKE
