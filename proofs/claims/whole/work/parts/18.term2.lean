/-! Term: become, findEnds, firstDifference, isAt -/
section CT2
variable {l : Launch} {G : sG} {L x d : Nat} {I : sI}
theorem lm_T_cpy_26 : sIn (Cond.methodLink "TermBench$Term" 26 arraycopyName) = true := by decide +kernel
theorem lm_T_termsOf_32 : sLm "TermBench$Term" 32 mA_termsOf = true := by decide +kernel
theorem lm_T_weightAt_38 : sLm "TermBench$Term" 38 mT_weightAt = true := by decide +kernel
theorem lm_T_min_41 : sIn (Cond.methodLink "TermBench$Term" 41 Lib.Math.min.name) = true := by decide +kernel
theorem lm_T_fd_47 : sLm "TermBench$Term" 47 mT_firstDifference = true := by decide +kernel
theorem lm_T_level_51 : sLm "TermBench$Term" 51 mT_levelOf = true := by decide +kernel
theorem lm_T_max_54 : sIn (Cond.methodLink "TermBench$Term" 54 Lib.Math.max.name) = true := by decide +kernel
/-- what a term is once it has become another -/
def sBc (I : sI) (t f : Nat) : sI := sU (sCp (sCp I (t + 1) (f + 1) (I f 2)) (t + 2) (f + 2) (I f 2)) t 2 (I f 2)
theorem c_T_become {t f : Nat} (hx : x ≠ 0) (ht : hT t) (hf : hT f) (hne : t ≠ f) (h0 : 0 ≤ I f 2) (h1 : I f 2 ≤ 100) : sCall l G mT_become (sRm (d + 1) 0) [.inr (.inl t), .inr (.inl f)] (hS L x I) (qV L x (sBc I t f)) := by
  refine sCall_of (by decide) (Nat.le_of_ble_eq_true rfl) (sV1s_c trivial (sV1s_c trivial sV1s_n)) rfl ?_
  show sJ l G mT_become (sRm (d + 1) 0) _ 0 (6 * 0) 0 [some (.inr (.inl t)), some (.inr (.inl f))] [] (hSh L, hRF, I, x)
  have hap := hT_ne ht hf hne
  have hl1 := hT_lt ht
  have hl2 := hT_lt hf
  have r1 : sCp I (t + 1) (f + 1) (I f 2) f 2 = I f 2 := by rw [sCp_ne (by omega)]
  have r2 : sCp (sCp I (t + 1) (f + 1) (I f 2)) (t + 2) (f + 2) (I f 2) f 2 = I f 2 := by rw [sCp_ne (by omega), r1]
  refine sg_T_become_0 (k := ?_)
  refine sc_copy ct_T_become lm_T_cpy_26 hx (hT_k L ht).2.1 (hT_k L hf).2.1 h0 h1 h1 ?_
  refine sg_T_become_1 (k := ?_)
  rw [r1]
  refine sc_copy ct_T_become lm_T_cpy_26 hx (hT_k L ht).2.2 (hT_k L hf).2.2 h0 h1 h1 ?_
  refine sg_T_become_2 (k := ?_)
  rw [r2]
  exact sc_retV ct_T_become ⟨rfl, rfl⟩
end CT2
