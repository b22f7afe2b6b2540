/-! TermBench: the methods that refuse, store -/
theorem tw_n : (Cond.classLink "TermBench" 89 (cX 0) :: Cond.initialized (cX 0) :: tAt "TermBench" 93 (cX 0) 13 rx13 tNm).all sIn = true := by decide +kernel
theorem tw_a : (Cond.classLink "TermBench" 70 (cX 1) :: Cond.initialized (cX 1) :: tAt "TermBench" 74 (cX 1) 7 Bundle.six tNm).all sIn = true := by decide +kernel
theorem tw_s : (Cond.classLink "TermBench" 80 (cX 2) :: Cond.initialized (cX 2) :: tAt "TermBench" 84 (cX 2) 7 Bundle.six tNm).all sIn = true := by decide +kernel
theorem to_n : (Cond.classLink "TermBench" 89 (cX 0) :: Cond.initialized (cX 0) :: tAt "TermBench" 93 (cX 0) 13 rx13 tNm).all vx_ot = true := by decide +kernel
theorem to_a : (Cond.classLink "TermBench" 70 (cX 1) :: Cond.initialized (cX 1) :: tAt "TermBench" 74 (cX 1) 7 Bundle.six tNm).all vx_ot = true := by decide +kernel
theorem to_s : (Cond.classLink "TermBench" 80 (cX 2) :: Cond.initialized (cX 2) :: tAt "TermBench" 84 (cX 2) 7 Bundle.six tNm).all vx_ot = true := by decide +kernel
theorem tf_0 : Bundle.fit (cX 0) = true := by decide +kernel
theorem tf_1 : Bundle.fit (cX 1) = true := by decide +kernel
theorem tf_2 : Bundle.fit (cX 2) = true := by decide +kernel
theorem tf_n : ∀ nm ∈ tNm, Bundle.fit nm = true := by decide +kernel
section TC
variable {l : Launch} {G : sG} {M : sM} {Q : sQ} {κ i d1 k1 : Nat} {ls : List (Option sV)} {L x : Nat} {I : sI} {is pc pc1 pc2 pc3 pc4 a0 b0 a1 b1 a2 b2 a3 b3 a4 b4 : Nat}
theorem sc_tn (text : String) (ct : sCert M) (hl : l.stackTraces = false) (hx : x ≠ 0) (hQ : Q (.inr 0) (hS L x I)) (hM : M.1.cls = "TermBench" := by rfl) (hh : M.2.2.2.2.2 = [] := by rfl)
    (hq0 : (sCd M)[i]? = some (pc, .new 89, a0, b0) := by rfl) (hq1 : (sCd M)[i + 1]? = some (pc1, .dup, a1, b1) := by rfl) (hq2 : (sCd M)[i + 2]? = some (pc2, .ldc is, a2, b2) := by rfl) (hq3 : (sCd M)[i + 3]? = some (pc3, .invokespecial 93, a3, b3) := by rfl) (hq4 : (sCd M)[i + 4]? = some (pc4, .athrow, a4, b4) := by rfl)
    (htx : (is, text) ∈ sStr := by decide) (hd : 5 < d1 := by omega) (hk : κ + 1 ≤ k1 := by omega) : sJ l G M (sRm d1 k1) Q κ (6 * κ) i ls [] (hS L x I) :=
  sj_throw (n := 0) ct hl hM hh rx13_0 rx13_1 rx13_2 rx13_5 hq0 hq1 hq2 hq3 hq4 htx tw_n to_n tf_0 tf_n hd (by show 0 + 82 ≤ 40 * d1 + 100; omega) hk (by show 6 * κ + 6 ≤ 6 * k1; omega) hx hQ
theorem sc_ta (text : String) (ct : sCert M) (hl : l.stackTraces = false) (hx : x ≠ 0) (hQ : Q (.inr 1) (hS L x I)) (hM : M.1.cls = "TermBench" := by rfl) (hh : M.2.2.2.2.2 = [] := by rfl)
    (hq0 : (sCd M)[i]? = some (pc, .new 70, a0, b0) := by rfl) (hq1 : (sCd M)[i + 1]? = some (pc1, .dup, a1, b1) := by rfl) (hq2 : (sCd M)[i + 2]? = some (pc2, .ldc is, a2, b2) := by rfl) (hq3 : (sCd M)[i + 3]? = some (pc3, .invokespecial 74, a3, b3) := by rfl) (hq4 : (sCd M)[i + 4]? = some (pc4, .athrow, a4, b4) := by rfl)
    (htx : (is, text) ∈ sStr := by decide) (hd : 5 < d1 := by omega) (hk : κ + 1 ≤ k1 := by omega) : sJ l G M (sRm d1 k1) Q κ (6 * κ) i ls [] (hS L x I) :=
  sj_throw (n := 1) ct hl hM hh Bundle.six_0 Bundle.six_1 Bundle.six_2 Bundle.six_5 hq0 hq1 hq2 hq3 hq4 htx tw_a to_a tf_1 tf_n hd (by show 0 + 82 ≤ 40 * d1 + 100; omega) hk (by show 6 * κ + 6 ≤ 6 * k1; omega) hx hQ
theorem sc_ts (text : String) (ct : sCert M) (hl : l.stackTraces = false) (hx : x ≠ 0) (hQ : Q (.inr 2) (hS L x I)) (hM : M.1.cls = "TermBench" := by rfl) (hh : M.2.2.2.2.2 = [] := by rfl)
    (hq0 : (sCd M)[i]? = some (pc, .new 80, a0, b0) := by rfl) (hq1 : (sCd M)[i + 1]? = some (pc1, .dup, a1, b1) := by rfl) (hq2 : (sCd M)[i + 2]? = some (pc2, .ldc is, a2, b2) := by rfl) (hq3 : (sCd M)[i + 3]? = some (pc3, .invokespecial 84, a3, b3) := by rfl) (hq4 : (sCd M)[i + 4]? = some (pc4, .athrow, a4, b4) := by rfl)
    (htx : (is, text) ∈ sStr := by decide) (hd : 5 < d1 := by omega) (hk : κ + 1 ≤ k1 := by omega) : sJ l G M (sRm d1 k1) Q κ (6 * κ) i ls [] (hS L x I) :=
  sj_throw (n := 2) ct hl hM hh Bundle.six_0 Bundle.six_1 Bundle.six_2 Bundle.six_5 hq0 hq1 hq2 hq3 hq4 htx tw_s to_s tf_2 tf_n hd (by show 0 + 82 ≤ 40 * d1 + 100; omega) hk (by show 6 * κ + 6 ≤ 6 * k1; omega) hx hQ
end TC
section CB
variable {l : Launch} {G : sG} {L x d : Nat} {I : sI}
/-- the end of a method that gives nothing back or refuses -/
def qR (L x : Nat) (I : sI) (ok : Prop) : sQ := fun r S => S = hS L x I ∧ ((r = .inl none ∧ ok) ∨ (r = .inr 0 ∧ ¬ ok))
theorem c_B_rs (hl : l.stackTraces = false) (hx : x ≠ 0) {a : Int} (ha : sR a) : sCall l G mB_requireSlot (sRm (d + 6) 1) [.inl a] (hS L x I) (qR L x I (0 ≤ a ∧ a < 16)) := by
  refine sCall_of (by decide) (Nat.le_of_ble_eq_true rfl) (sV1s_c ha sV1s_n) rfl ?_
  show sJ l G mB_requireSlot (sRm (d + 6) 1) _ 0 (6 * 0) 0 [some (.inl a)] [] (hSh L, hRF, I, x)
  by_cases h1 : a < 0
  · refine sg_B_rs_a (k := ?_)
    exact sc_tn "no such slot" ct_B_requireSlot hl hx ⟨rfl, Or.inr ⟨rfl, by omega⟩⟩
  · by_cases h2 : a < 16
    · refine sg_B_rs_o (k := ?_)
      exact sc_retV ct_B_requireSlot ⟨rfl, Or.inl ⟨rfl, by omega⟩⟩
    · refine sg_B_rs_b (k := ?_)
      exact sc_tn "no such slot" ct_B_requireSlot hl hx ⟨rfl, Or.inr ⟨rfl, by omega⟩⟩
theorem c_B_rp (hl : l.stackTraces = false) (hx : x ≠ 0) {t : Nat} {p : Int} (ht : hT t) (ha : sR p) : sCall l G mB_requirePlace (sRm (d + 6) 1) [.inr (.inl t), .inl p] (hS L x I) (qR L x I (0 ≤ p ∧ p < I t 2)) := by
  refine sCall_of (by decide) (Nat.le_of_ble_eq_true rfl) (sV1s_c trivial (sV1s_c ha sV1s_n)) rfl ?_
  show sJ l G mB_requirePlace (sRm (d + 6) 1) _ 0 (6 * 0) 0 [some (.inr (.inl t)), some (.inl p)] [] (hSh L, hRF, I, x)
  have hlt := hT_lt ht
  by_cases h1 : p < 0
  · refine sg_B_rp_a (k := ?_)
    exact sc_tn "no such place" ct_B_requirePlace hl hx ⟨rfl, Or.inr ⟨rfl, by omega⟩⟩
  · by_cases h2 : p < I t 2
    · refine sg_B_rp_o (k := ?_)
      exact sc_retV ct_B_requirePlace ⟨rfl, Or.inl ⟨rfl, by omega⟩⟩
    · refine sg_B_rp_b (k := ?_)
      exact sc_tn "no such place" ct_B_requirePlace hl hx ⟨rfl, Or.inr ⟨rfl, by omega⟩⟩
theorem lm_B_bc_145 : sLm "TermBench" 145 mT_become = true := by decide +kernel
theorem c_B_st (hx : x ≠ 0) {t : Nat} {a : Int} (ht : hT t) (ha0 : 0 ≤ a) (ha1 : a < 16) (hne : 6 + 3 * a.toNat ≠ t) (h0 : 0 ≤ I t 2) (h1 : I t 2 ≤ 100) : sCall l G mB_store (sRm (d + 2) 0) [.inr (.inl 1), .inl a, .inr (.inl t)] (hS L x I) (qI L x (I t 2) (sBc I (6 + 3 * a.toNat) t)) := by
  refine sCall_of (by decide) (Nat.le_of_ble_eq_true rfl) (sV1s_c trivial (sV1s_c (sV1_i (by omega) (by omega)) (sV1s_c trivial sV1s_n))) rfl ?_
  show sJ l G mB_store (sRm (d + 2) 0) _ 0 (6 * 0) 0 [some (.inr (.inl 1)), some (.inl a), some (.inr (.inl t))] [] (hSh L, hRF, I, x)
  have hs := hT_slot ha0 ha1
  have hap := hT_ne hs ht hne
  have hl1 := hT_lt hs
  have hl2 := hT_lt ht
  refine sg_B_st_0 (k := ?_)
  refine sc_vV (as := [.inr (.inl _)]) (rest := []) (cc := 2) ct_B_store lk_T_become lm_B_bc_145 (c_T_become (d := d) hx hs ht hne h0 h1) (by rw [(hT_k L hs).1]) ?_
  refine sg_B_st_1 (k := ?_)
  refine sc_ret ct_B_store ⟨?_, rfl⟩
  unfold sBc
  rw [sU_ne (by omega), sCp_ne (by omega), sCp_ne (by omega)]
end CB
