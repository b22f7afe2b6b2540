/-! what the other constructors make -/
def mkO (S : sS) (t : Nat) (add : List (Nat × Nat)) (fs : List (Int × Nat)) (It : Int → Int) : sS → Prop := fun S' => S'.1 = S.1 ++ add ∧ S'.2.2.2 = 0 ∧ mkR S t add fs It [] S'.2.1 S'.2.2.1
theorem oi_A : sIn (Cond.methodLink "TermBench$Alphabet" 3 Lib.objectInit) = true := by decide +kernel
theorem oi_V : sIn (Cond.methodLink "TermBench$Values" 3 Lib.objectInit) = true := by decide +kernel
theorem oi_O : sIn (Cond.methodLink "TermBench$Ordering" 3 Lib.objectInit) = true := by decide +kernel
theorem oi_U : sIn (Cond.methodLink "TermBench$Unifier" 5 Lib.objectInit) = true := by decide +kernel
theorem oi_M : sIn (Cond.methodLink "TermBenchModel" 1 Lib.objectInit) = true := by decide +kernel
theorem oi_B : sIn (Cond.methodLink "TermBench" 1 Lib.objectInit) = true := by decide +kernel
theorem ow_A0 : ∃ q : vw_C, classes[1]? = some q ∧ q.1 = mA_init.1.cls ∧ sIn (Cond.fieldLink mA_init.1.cls 9 (q.2.1 0).1 (q.2.1 0).2.1 (q.2.1 0).2.2.1) = true := ⟨_, rfl, rfl, by decide +kernel⟩
theorem ow_A1 : ∃ q : vw_C, classes[1]? = some q ∧ q.1 = mA_init.1.cls ∧ sIn (Cond.fieldLink mA_init.1.cls 15 (q.2.1 1).1 (q.2.1 1).2.1 (q.2.1 1).2.2.1) = true := ⟨_, rfl, rfl, by decide +kernel⟩
theorem ow_O0 : ∃ q : vw_C, classes[4]? = some q ∧ q.1 = mO_init.1.cls ∧ sIn (Cond.fieldLink mO_init.1.cls 9 (q.2.1 0).1 (q.2.1 0).2.1 (q.2.1 0).2.2.1) = true := ⟨_, rfl, rfl, by decide +kernel⟩
theorem ow_V0 : ∃ q : vw_C, classes[3]? = some q ∧ q.1 = mV_init.1.cls ∧ sIn (Cond.fieldLink mV_init.1.cls 9 (q.2.1 0).1 (q.2.1 0).2.1 (q.2.1 0).2.2.1) = true := ⟨_, rfl, rfl, by decide +kernel⟩
theorem ow_U0 : ∃ q : vw_C, classes[5]? = some q ∧ q.1 = mU_init.1.cls ∧ sIn (Cond.fieldLink mU_init.1.cls 11 (q.2.1 0).1 (q.2.1 0).2.1 (q.2.1 0).2.2.1) = true := ⟨_, rfl, rfl, by decide +kernel⟩
theorem ow_U1 : ∃ q : vw_C, classes[5]? = some q ∧ q.1 = mU_init.1.cls ∧ sIn (Cond.fieldLink mU_init.1.cls 15 (q.2.1 1).1 (q.2.1 1).2.1 (q.2.1 1).2.2.1) = true := ⟨_, rfl, rfl, by decide +kernel⟩
theorem ow_U2 : ∃ q : vw_C, classes[5]? = some q ∧ q.1 = mU_init.1.cls ∧ sIn (Cond.fieldLink mU_init.1.cls 18 (q.2.1 2).1 (q.2.1 2).2.1 (q.2.1 2).2.2.1) = true := ⟨_, rfl, rfl, by decide +kernel⟩
theorem ow_U3 : ∃ q : vw_C, classes[5]? = some q ∧ q.1 = mU_init.1.cls ∧ sIn (Cond.fieldLink mU_init.1.cls 21 (q.2.1 3).1 (q.2.1 3).2.1 (q.2.1 3).2.2.1) = true := ⟨_, rfl, rfl, by decide +kernel⟩
theorem ow_U4 : ∃ q : vw_C, classes[5]? = some q ∧ q.1 = mU_init.1.cls ∧ sIn (Cond.fieldLink mU_init.1.cls 24 (q.2.1 4).1 (q.2.1 4).2.1 (q.2.1 4).2.2.1) = true := ⟨_, rfl, rfl, by decide +kernel⟩
theorem ow_U5 : ∃ q : vw_C, classes[5]? = some q ∧ q.1 = mU_init.1.cls ∧ sIn (Cond.fieldLink mU_init.1.cls 27 (q.2.1 5).1 (q.2.1 5).2.1 (q.2.1 5).2.2.1) = true := ⟨_, rfl, rfl, by decide +kernel⟩
theorem ow_U7 : ∃ q : vw_C, classes[5]? = some q ∧ q.1 = mU_init.1.cls ∧ sIn (Cond.fieldLink mU_init.1.cls 30 (q.2.1 7).1 (q.2.1 7).2.1 (q.2.1 7).2.2.1) = true := ⟨_, rfl, rfl, by decide +kernel⟩
theorem ow_U8 : ∃ q : vw_C, classes[5]? = some q ∧ q.1 = mU_init.1.cls ∧ sIn (Cond.fieldLink mU_init.1.cls 33 (q.2.1 8).1 (q.2.1 8).2.1 (q.2.1 8).2.2.1) = true := ⟨_, rfl, rfl, by decide +kernel⟩
theorem ow_M5 : ∃ q : vw_C, classes[6]? = some q ∧ q.1 = mM_init.1.cls ∧ sIn (Cond.fieldLink mM_init.1.cls 25 (q.2.1 5).1 (q.2.1 5).2.1 (q.2.1 5).2.2.1) = true := ⟨_, rfl, rfl, by decide +kernel⟩
theorem ow_M6 : ∃ q : vw_C, classes[6]? = some q ∧ q.1 = mM_init.1.cls ∧ sIn (Cond.fieldLink mM_init.1.cls 29 (q.2.1 6).1 (q.2.1 6).2.1 (q.2.1 6).2.2.1) = true := ⟨_, rfl, rfl, by decide +kernel⟩
theorem ow_M7 : ∃ q : vw_C, classes[6]? = some q ∧ q.1 = mM_init.1.cls ∧ sIn (Cond.fieldLink mM_init.1.cls 32 (q.2.1 7).1 (q.2.1 7).2.1 (q.2.1 7).2.2.1) = true := ⟨_, rfl, rfl, by decide +kernel⟩
theorem ow_M8 : ∃ q : vw_C, classes[6]? = some q ∧ q.1 = mM_init.1.cls ∧ sIn (Cond.fieldLink mM_init.1.cls 38 (q.2.1 8).1 (q.2.1 8).2.1 (q.2.1 8).2.2.1) = true := ⟨_, rfl, rfl, by decide +kernel⟩
theorem ow_M9 : ∃ q : vw_C, classes[6]? = some q ∧ q.1 = mM_init.1.cls ∧ sIn (Cond.fieldLink mM_init.1.cls 41 (q.2.1 9).1 (q.2.1 9).2.1 (q.2.1 9).2.2.1) = true := ⟨_, rfl, rfl, by decide +kernel⟩
theorem ow_M10 : ∃ q : vw_C, classes[6]? = some q ∧ q.1 = mM_init.1.cls ∧ sIn (Cond.fieldLink mM_init.1.cls 44 (q.2.1 10).1 (q.2.1 10).2.1 (q.2.1 10).2.2.1) = true := ⟨_, rfl, rfl, by decide +kernel⟩
theorem ow_M11 : ∃ q : vw_C, classes[6]? = some q ∧ q.1 = mM_init.1.cls ∧ sIn (Cond.fieldLink mM_init.1.cls 47 (q.2.1 11).1 (q.2.1 11).2.1 (q.2.1 11).2.2.1) = true := ⟨_, rfl, rfl, by decide +kernel⟩
theorem ow_M13 : ∃ q : vw_C, classes[6]? = some q ∧ q.1 = mM_init.1.cls ∧ sIn (Cond.fieldLink mM_init.1.cls 54 (q.2.1 13).1 (q.2.1 13).2.1 (q.2.1 13).2.2.1) = true := ⟨_, rfl, rfl, by decide +kernel⟩
theorem ow_M14 : ∃ q : vw_C, classes[6]? = some q ∧ q.1 = mM_init.1.cls ∧ sIn (Cond.fieldLink mM_init.1.cls 57 (q.2.1 14).1 (q.2.1 14).2.1 (q.2.1 14).2.2.1) = true := ⟨_, rfl, rfl, by decide +kernel⟩
theorem ow_M15 : ∃ q : vw_C, classes[6]? = some q ∧ q.1 = mM_init.1.cls ∧ sIn (Cond.fieldLink mM_init.1.cls 60 (q.2.1 15).1 (q.2.1 15).2.1 (q.2.1 15).2.2.1) = true := ⟨_, rfl, rfl, by decide +kernel⟩
theorem ow_M16 : ∃ q : vw_C, classes[6]? = some q ∧ q.1 = mM_init.1.cls ∧ sIn (Cond.fieldLink mM_init.1.cls 63 (q.2.1 16).1 (q.2.1 16).2.1 (q.2.1 16).2.2.1) = true := ⟨_, rfl, rfl, by decide +kernel⟩
theorem ow_M19 : ∃ q : vw_C, classes[6]? = some q ∧ q.1 = mM_init.1.cls ∧ sIn (Cond.fieldLink mM_init.1.cls 72 (q.2.1 19).1 (q.2.1 19).2.1 (q.2.1 19).2.2.1) = true := ⟨_, rfl, rfl, by decide +kernel⟩
theorem ow_M20 : ∃ q : vw_C, classes[6]? = some q ∧ q.1 = mM_init.1.cls ∧ sIn (Cond.fieldLink mM_init.1.cls 75 (q.2.1 20).1 (q.2.1 20).2.1 (q.2.1 20).2.2.1) = true := ⟨_, rfl, rfl, by decide +kernel⟩
theorem ow_M21 : ∃ q : vw_C, classes[6]? = some q ∧ q.1 = mM_init.1.cls ∧ sIn (Cond.fieldLink mM_init.1.cls 78 (q.2.1 21).1 (q.2.1 21).2.1 (q.2.1 21).2.2.1) = true := ⟨_, rfl, rfl, by decide +kernel⟩
theorem ow_M22 : ∃ q : vw_C, classes[6]? = some q ∧ q.1 = mM_init.1.cls ∧ sIn (Cond.fieldLink mM_init.1.cls 81 (q.2.1 22).1 (q.2.1 22).2.1 (q.2.1 22).2.2.1) = true := ⟨_, rfl, rfl, by decide +kernel⟩
theorem ow_M24 : ∃ q : vw_C, classes[6]? = some q ∧ q.1 = mM_init.1.cls ∧ sIn (Cond.fieldLink mM_init.1.cls 87 (q.2.1 24).1 (q.2.1 24).2.1 (q.2.1 24).2.2.1) = true := ⟨_, rfl, rfl, by decide +kernel⟩
theorem ow_M27 : ∃ q : vw_C, classes[6]? = some q ∧ q.1 = mM_init.1.cls ∧ sIn (Cond.fieldLink mM_init.1.cls 96 (q.2.1 27).1 (q.2.1 27).2.1 (q.2.1 27).2.2.1) = true := ⟨_, rfl, rfl, by decide +kernel⟩
theorem ow_B0 : ∃ q : vw_C, classes[0]? = some q ∧ q.1 = mB_init.1.cls ∧ sIn (Cond.fieldLink mB_init.1.cls 10 (q.2.1 0).1 (q.2.1 0).2.1 (q.2.1 0).2.2.1) = true := ⟨_, rfl, rfl, by decide +kernel⟩
theorem ow_B1 : ∃ q : vw_C, classes[0]? = some q ∧ q.1 = mB_init.1.cls ∧ sIn (Cond.fieldLink mB_init.1.cls 18 (q.2.1 1).1 (q.2.1 1).2.1 (q.2.1 1).2.2.1) = true := ⟨_, rfl, rfl, by decide +kernel⟩
theorem ow_B2 : ∃ q : vw_C, classes[0]? = some q ∧ q.1 = mB_init.1.cls ∧ sIn (Cond.fieldLink mB_init.1.cls 23 (q.2.1 2).1 (q.2.1 2).2.1 (q.2.1 2).2.2.1) = true := ⟨_, rfl, rfl, by decide +kernel⟩
theorem ow_B4 : ∃ q : vw_C, classes[0]? = some q ∧ q.1 = mB_init.1.cls ∧ sIn (Cond.fieldLink mB_init.1.cls 34 (q.2.1 4).1 (q.2.1 4).2.1 (q.2.1 4).2.2.1) = true := ⟨_, rfl, rfl, by decide +kernel⟩
theorem ow_B5 : ∃ q : vw_C, classes[0]? = some q ∧ q.1 = mB_init.1.cls ∧ sIn (Cond.fieldLink mB_init.1.cls 37 (q.2.1 5).1 (q.2.1 5).2.1 (q.2.1 5).2.2.1) = true := ⟨_, rfl, rfl, by decide +kernel⟩
theorem ow_B6 : ∃ q : vw_C, classes[0]? = some q ∧ q.1 = mB_init.1.cls ∧ sIn (Cond.fieldLink mB_init.1.cls 40 (q.2.1 6).1 (q.2.1 6).2.1 (q.2.1 6).2.2.1) = true := ⟨_, rfl, rfl, by decide +kernel⟩
theorem ow_B7 : ∃ q : vw_C, classes[0]? = some q ∧ q.1 = mB_init.1.cls ∧ sIn (Cond.fieldLink mB_init.1.cls 46 (q.2.1 7).1 (q.2.1 7).2.1 (q.2.1 7).2.2.1) = true := ⟨_, rfl, rfl, by decide +kernel⟩
theorem ow_B8 : ∃ q : vw_C, classes[0]? = some q ∧ q.1 = mB_init.1.cls ∧ sIn (Cond.fieldLink mB_init.1.cls 50 (q.2.1 8).1 (q.2.1 8).2.1 (q.2.1 8).2.2.1) = true := ⟨_, rfl, rfl, by decide +kernel⟩
theorem ow_B9 : ∃ q : vw_C, classes[0]? = some q ∧ q.1 = mB_init.1.cls ∧ sIn (Cond.fieldLink mB_init.1.cls 53 (q.2.1 9).1 (q.2.1 9).2.1 (q.2.1 9).2.2.1) = true := ⟨_, rfl, rfl, by decide +kernel⟩
theorem ow_B10 : ∃ q : vw_C, classes[0]? = some q ∧ q.1 = mB_init.1.cls ∧ sIn (Cond.fieldLink mB_init.1.cls 59 (q.2.1 10).1 (q.2.1 10).2.1 (q.2.1 10).2.2.1) = true := ⟨_, rfl, rfl, by decide +kernel⟩
theorem ow_B11 : ∃ q : vw_C, classes[0]? = some q ∧ q.1 = mB_init.1.cls ∧ sIn (Cond.fieldLink mB_init.1.cls 66 (q.2.1 11).1 (q.2.1 11).2.1 (q.2.1 11).2.2.1) = true := ⟨_, rfl, rfl, by decide +kernel⟩
section CKD
variable {l : Launch} {G : sG} {d : Nat}
theorem c_A_in {S : sS} {t : Nat} (ht : t ≠ 0) (hl : t < S.1.length) (hk : sKd S.1 t = (6, 3)) (hx : S.2.2.2 = 0) : sCall l G mA_init (rK (d + 1) 2 80) [.inr (.inl t)] S (qS (mkO S t [(0, 40), (1, 40)] [(0, S.1.length), (1, S.1.length + 1)] (S.2.2.1 t))) := by
  refine sCall_of (by decide) (Nat.le_of_ble_eq_true rfl) (sV1s_c trivial sV1s_n) rfl ?_
  have R0 := mkR_0 S t
  have e0 : S = (S.1 ++ [], S.2.1, S.2.2.1, 0) := by rw [List.append_nil, ← hx]
  suffices h : sJ l G mA_init (rK (d + 1) 2 80) (qS (mkO S t [(0, 40), (1, 40)] [(0, S.1.length), (1, S.1.length + 1)] (S.2.2.1 t))) 0 0 0 [some (.inr (.inl t))] [] (S.1 ++ [], S.2.1, S.2.2.1, 0) by
    rw [← e0] at h
    exact h
  refine sg_A_in_0 (k := ?_)
  refine sk_obj ct_A_init oi_A ?_
  refine sg_A_in_1 (k := ?_)
  refine sk_mpI (n := 40) ct_A_init hl hk R0 (fun p hp => by cases hp) ow_A0 (fun RF1 I1 R1 => ?_)
  refine sg_A_in_2 (k := ?_)
  refine sk_mpZ (n := 40) ct_A_init hl hk R1 (by simp) ow_A1 (fun RF2 I2 R2 => ?_)
  exact sk_ret ct_A_init ⟨rfl, rfl, R2⟩
theorem c_O_in {S : sS} {t : Nat} (ht : t ≠ 0) (hl : t < S.1.length) (hk : sKd S.1 t = (9, 1)) (hx : S.2.2.2 = 0) : sCall l G mO_init (rK (d + 1) 1 6) [.inr (.inl t)] S (qS (mkO S t [(0, 6)] [(0, S.1.length)] (S.2.2.1 t))) := by
  refine sCall_of (by decide) (Nat.le_of_ble_eq_true rfl) (sV1s_c trivial sV1s_n) rfl ?_
  have R0 := mkR_0 S t
  have e0 : S = (S.1 ++ [], S.2.1, S.2.2.1, 0) := by rw [List.append_nil, ← hx]
  suffices h : sJ l G mO_init (rK (d + 1) 1 6) (qS (mkO S t [(0, 6)] [(0, S.1.length)] (S.2.2.1 t))) 0 0 0 [some (.inr (.inl t))] [] (S.1 ++ [], S.2.1, S.2.2.1, 0) by
    rw [← e0] at h
    exact h
  refine sg_O_in_0 (k := ?_)
  refine sk_obj ct_O_init oi_O ?_
  refine sg_O_in_1 (k := ?_)
  refine sk_mpI (n := 6) ct_O_init hl hk R0 (fun p hp => by cases hp) ow_O0 (fun RF1 I1 R1 => ?_)
  exact sk_ret ct_O_init ⟨rfl, rfl, R1⟩
theorem c_U_in {S : sS} {t : Nat} (ht : t ≠ 0) (hl : t < S.1.length) (hk : sKd S.1 t = (10, 9)) (hx : S.2.2.2 = 0) : sCall l G mU_init (rK (d + 1) 8 1250) [.inr (.inl t)] S (qS (mkO S t [(0, 200), (0, 200), (0, 212), (0, 212), (0, 201), (0, 201), (0, 12), (0, 12)] [(0, S.1.length), (1, S.1.length + 1), (2, S.1.length + 2), (3, S.1.length + 3), (4, S.1.length + 4), (5, S.1.length + 5), (7, S.1.length + 6), (8, S.1.length + 7)] (S.2.2.1 t))) := by
  refine sCall_of (by decide) (Nat.le_of_ble_eq_true rfl) (sV1s_c trivial sV1s_n) rfl ?_
  have R0 := mkR_0 S t
  have e0 : S = (S.1 ++ [], S.2.1, S.2.2.1, 0) := by rw [List.append_nil, ← hx]
  suffices h : sJ l G mU_init (rK (d + 1) 8 1250) (qS (mkO S t [(0, 200), (0, 200), (0, 212), (0, 212), (0, 201), (0, 201), (0, 12), (0, 12)] [(0, S.1.length), (1, S.1.length + 1), (2, S.1.length + 2), (3, S.1.length + 3), (4, S.1.length + 4), (5, S.1.length + 5), (7, S.1.length + 6), (8, S.1.length + 7)] (S.2.2.1 t))) 0 0 0 [some (.inr (.inl t))] [] (S.1 ++ [], S.2.1, S.2.2.1, 0) by
    rw [← e0] at h
    exact h
  refine sg_U_in_0 (k := ?_)
  refine sk_obj ct_U_init oi_U ?_
  refine sg_U_in_1 (k := ?_)
  refine sk_mpI (n := 200) ct_U_init hl hk R0 (fun p hp => by cases hp) ow_U0 (fun RF1 I1 R1 => ?_)
  refine sg_U_in_2 (k := ?_)
  refine sk_mpI (n := 200) ct_U_init hl hk R1 (by simp) ow_U1 (fun RF2 I2 R2 => ?_)
  refine sg_U_in_3 (k := ?_)
  refine sk_mpI (n := 212) ct_U_init hl hk R2 (by simp) ow_U2 (fun RF3 I3 R3 => ?_)
  refine sg_U_in_4 (k := ?_)
  refine sk_mpI (n := 212) ct_U_init hl hk R3 (by simp) ow_U3 (fun RF4 I4 R4 => ?_)
  refine sg_U_in_5 (k := ?_)
  refine sk_mpI (n := 201) ct_U_init hl hk R4 (by simp) ow_U4 (fun RF5 I5 R5 => ?_)
  refine sg_U_in_6 (k := ?_)
  refine sk_mpI (n := 201) ct_U_init hl hk R5 (by simp) ow_U5 (fun RF6 I6 R6 => ?_)
  refine sg_U_in_7 (k := ?_)
  refine sk_mpI (n := 12) ct_U_init hl hk R6 (by simp) ow_U7 (fun RF7 I7 R7 => ?_)
  refine sg_U_in_8 (k := ?_)
  refine sk_mpI (n := 12) ct_U_init hl hk R7 (by simp) ow_U8 (fun RF8 I8 R8 => ?_)
  exact sk_ret ct_U_init ⟨rfl, rfl, R8⟩
theorem c_V_in {S : sS} {t : Nat} (ht : t ≠ 0) (hl : t < S.1.length) (hk : sKd S.1 t = (8, 1)) (hx : S.2.2.2 = 0) : sCall l G mV_init (rK (d + 1) 1 6) [.inr (.inl t)] S (qS (fun S' => xt S t [(0, 6)] S' ∧ S'.2.1 t 0 = S.1.length ∧ ∀ j, 0 ≤ j → j < 6 → S'.2.2.1 S.1.length j = -1)) := by
  refine sCall_of (by decide) (Nat.le_of_ble_eq_true rfl) (sV1s_c trivial sV1s_n) rfl ?_
  have R0 := mkR_0 S t
  have e0 : S = (S.1 ++ [], S.2.1, S.2.2.1, 0) := by rw [List.append_nil, ← hx]
  suffices h : sJ l G mV_init (rK (d + 1) 1 6) (qS (fun S' => xt S t [(0, 6)] S' ∧ S'.2.1 t 0 = S.1.length ∧ ∀ j, 0 ≤ j → j < 6 → S'.2.2.1 S.1.length j = -1)) 0 0 0 [some (.inr (.inl t)), none] [] (S.1 ++ [], S.2.1, S.2.2.1, 0) by
    rw [← e0] at h
    exact h
  refine sg_V_in_0 (k := ?_)
  refine sk_obj ct_V_init oi_V ?_
  refine sg_V_in_1 (k := ?_)
  refine sk_mpI (n := 6) ct_V_init hl hk R0 (fun p hp => by cases hp) ow_V0 (fun RF1 I1 R1 => ?_)
  refine sg_V_in_2 (k := ?_)
  have r0 : RF1 t 0 = S.1.length := R1.2.2.2.1 (0, S.1.length) (by simp)
  have o0 : sObj (S.1 ++ ([] ++ [(0, 6)])) 3 t 0 := mk_obj hl hk (by decide)
  have loop : ∀ (m j : Nat) (I2 : sI), m = 6 - j → j ≤ 6 → (∀ b, b ≠ S.1.length → I2 b = I1 b) → (∀ q : Int, 0 ≤ q → q < j → I2 S.1.length q = -1) → sJ l G mV_init (rK (d + 1) 1 6) (qS (fun S' => xt S t [(0, 6)] S' ∧ S'.2.1 t 0 = S.1.length ∧ ∀ j, 0 ≤ j → j < 6 → S'.2.2.1 S.1.length j = -1)) (0 + 1) (0 + 6) 8 [some (.inr (.inl t)), some (.inl (j : Int))] [] (S.1 ++ ([] ++ [(0, 6)]), RF1, I2, 0) := by
    intro m
    induction m with
    | zero =>
      intro j I2 hm hj hb hz
      have hj' : j = 6 := by omega
      subst hj'
      refine sg_V_in_x (k := ?_)
      exact sk_ret ct_V_init ⟨⟨rfl, rfl, fun b hb1 hb2 => ⟨(R1.1 b hb1 hb2).1, by show I2 b = _; rw [hb b (by omega)]; exact (R1.1 b hb1 hb2).2⟩⟩, r0, fun q h1 h2 => hz q h1 (by omega)⟩
    | succ m ihm =>
      intro j I2 hm hj hb hz
      have a0 : sArr (S.1 ++ ([] ++ [(0, 6)])) 0 S.1.length (j : Int) := by
        unfold sArr
        rw [List.nil_append, sKd_last]
        exact ⟨rfl, by omega, by show (j : Int) < ((6 : Nat) : Int); omega⟩
      refine sg_V_in_l (c3 := S.1.length) (e3 := r0) (k := ?_)
      refine ihm (j + 1) _ (by omega) (by omega) (fun b hb1 => by rw [sU_ne hb1]; exact hb b hb1) (fun q h1 h2 => ?_)
      by_cases hq : q = j
      · rw [hq, hU_eq]
      · rw [hU_nj hq]
        exact hz q h1 (by omega)
  exact loop 6 0 I1 rfl (by omega) (fun _ _ => rfl) (fun q h1 h2 => by omega)
end CKD
