/-! the law's calls of the bench: what was thrown is told by a number -/
def wQ (f : Nat → Int) (P : Int ⊕ Nat → sI → Prop) : Int → sI → Prop := fun k I' => ∃ r I1, P r I1 ∧ ((∃ v, r = .inl v ∧ k = 0 ∧ I' = sU I1 124 0 v) ∨ ∃ n, r = .inr n ∧ k = f n ∧ I' = I1)
section CLW
variable {l : Launch} {G : sG} {L x d kk : Nat} {I : sI} {P : Int ⊕ Nat → sI → Prop}
theorem lm_L_7 : sLm "TermBenchLaw" 7 mB_symbol = true := by decide +kernel
theorem hd_L_sy1 : sHd mL_symbol 5 1 9 = true := by decide +kernel
theorem hd_L_sy2 : sHd mL_symbol 5 2 12 = true := by decide +kernel
theorem c_L_sy {a b : Int} (ha : sR a) (hb : sR b) (hcall : sCall l G mB_symbol (sRm d kk) [.inr (.inl 1), .inl a, .inl b] (hS L x I) (qO L x P)) (hth : ∀ n I', P (.inr n) I' → n = 1 ∨ n = 2) : sCall l G mL_symbol (sRm (d + 1) kk) [.inr (.inl 1), .inl a, .inl b, .inr (.inl 124)] (hS L x I) (qE L x (wQ (fun n => if n = 1 then 1 else 2) P)) := by
  refine sCall_of (by decide) (Nat.le_of_ble_eq_true rfl) (sV1s_c trivial (sV1s_c ha (sV1s_c hb (sV1s_c trivial sV1s_n)))) rfl ?_
  show sJ l G mL_symbol (sRm (d + 1) kk) _ 0 (6 * 0) 0 [some (.inr (.inl 1)), some (.inl a), some (.inl b), some (.inr (.inl 124)), none] [] (hSh L, hRF, I, x)
  refine sg_L_sy_0 (k := ?_)
  refine sc_vH (as := [.inl a, .inl b]) (rest := [.inl 0, .inr (.inl 124)]) (cc := 0) ct_L_symbol lk_B_symbol lm_L_7 hcall rfl (fun v I' hP => ?_) (fun n I' hP => ?_)
  · refine sg_L_sy_r (k := ?_)
    exact sc_ret ct_L_symbol ⟨_, _, rfl, rfl, _, _, hP, Or.inl ⟨v, rfl, rfl, rfl⟩⟩
  · rcases hth n I' hP with h | h
    · refine ⟨9, by rw [h]; exact hd_L_sy1, fun y => ?_⟩
      refine sg_L_sy_h1 (k := ?_)
      exact sc_ret ct_L_symbol ⟨_, _, rfl, rfl, _, _, hP, Or.inr ⟨n, rfl, by rw [h]; rfl, rfl⟩⟩
    · refine ⟨12, by rw [h]; exact hd_L_sy2, fun y => ?_⟩
      refine sg_L_sy_h2 (k := ?_)
      exact sc_ret ct_L_symbol ⟨_, _, rfl, rfl, _, _, hP, Or.inr ⟨n, rfl, by rw [h]; rfl, rfl⟩⟩
theorem lm_L_17 : sLm "TermBenchLaw" 17 mB_put = true := by decide +kernel
theorem hd_L_pu1 : sHd mL_put 4 0 8 = true := by decide +kernel
theorem hd_L_pu2 : sHd mL_put 4 2 11 = true := by decide +kernel
theorem c_L_pu {a : Int} (ha : sR a) (hcall : sCall l G mB_put (sRm d kk) [.inr (.inl 1), .inl a] (hS L x I) (qO L x P)) (hth : ∀ n I', P (.inr n) I' → n = 0 ∨ n = 2) : sCall l G mL_put (sRm (d + 1) kk) [.inr (.inl 1), .inl a, .inr (.inl 124)] (hS L x I) (qE L x (wQ (fun n => if n = 0 then 1 else 2) P)) := by
  refine sCall_of (by decide) (Nat.le_of_ble_eq_true rfl) (sV1s_c trivial (sV1s_c ha (sV1s_c trivial sV1s_n))) rfl ?_
  show sJ l G mL_put (sRm (d + 1) kk) _ 0 (6 * 0) 0 [some (.inr (.inl 1)), some (.inl a), some (.inr (.inl 124)), none] [] (hSh L, hRF, I, x)
  refine sg_L_pu_0 (k := ?_)
  refine sc_vH (as := [.inl a]) (rest := [.inl 0, .inr (.inl 124)]) (cc := 0) ct_L_put lk_B_put lm_L_17 hcall rfl (fun v I' hP => ?_) (fun n I' hP => ?_)
  · refine sg_L_pu_r (k := ?_)
    exact sc_ret ct_L_put ⟨_, _, rfl, rfl, _, _, hP, Or.inl ⟨v, rfl, rfl, rfl⟩⟩
  · rcases hth n I' hP with h | h
    · refine ⟨8, by rw [h]; exact hd_L_pu1, fun y => ?_⟩
      refine sg_L_pu_h1 (k := ?_)
      exact sc_ret ct_L_put ⟨_, _, rfl, rfl, _, _, hP, Or.inr ⟨n, rfl, by rw [h]; rfl, rfl⟩⟩
    · refine ⟨11, by rw [h]; exact hd_L_pu2, fun y => ?_⟩
      refine sg_L_pu_h2 (k := ?_)
      exact sc_ret ct_L_put ⟨_, _, rfl, rfl, _, _, hP, Or.inr ⟨n, rfl, by rw [h]; rfl, rfl⟩⟩
theorem lm_L_23 : sLm "TermBenchLaw" 23 mB_keep = true := by decide +kernel
theorem hd_L_ke1 : sHd mL_keep 4 0 8 = true := by decide +kernel
theorem hd_L_ke2 : sHd mL_keep 4 2 11 = true := by decide +kernel
theorem c_L_ke {a : Int} (ha : sR a) (hcall : sCall l G mB_keep (sRm d kk) [.inr (.inl 1), .inl a] (hS L x I) (qO L x P)) (hth : ∀ n I', P (.inr n) I' → n = 0 ∨ n = 2) : sCall l G mL_keep (sRm (d + 1) kk) [.inr (.inl 1), .inl a, .inr (.inl 124)] (hS L x I) (qE L x (wQ (fun n => if n = 0 then 1 else 2) P)) := by
  refine sCall_of (by decide) (Nat.le_of_ble_eq_true rfl) (sV1s_c trivial (sV1s_c ha (sV1s_c trivial sV1s_n))) rfl ?_
  show sJ l G mL_keep (sRm (d + 1) kk) _ 0 (6 * 0) 0 [some (.inr (.inl 1)), some (.inl a), some (.inr (.inl 124)), none] [] (hSh L, hRF, I, x)
  refine sg_L_ke_0 (k := ?_)
  refine sc_vH (as := [.inl a]) (rest := [.inl 0, .inr (.inl 124)]) (cc := 0) ct_L_keep lk_B_keep lm_L_23 hcall rfl (fun v I' hP => ?_) (fun n I' hP => ?_)
  · refine sg_L_ke_r (k := ?_)
    exact sc_ret ct_L_keep ⟨_, _, rfl, rfl, _, _, hP, Or.inl ⟨v, rfl, rfl, rfl⟩⟩
  · rcases hth n I' hP with h | h
    · refine ⟨8, by rw [h]; exact hd_L_ke1, fun y => ?_⟩
      refine sg_L_ke_h1 (k := ?_)
      exact sc_ret ct_L_keep ⟨_, _, rfl, rfl, _, _, hP, Or.inr ⟨n, rfl, by rw [h]; rfl, rfl⟩⟩
    · refine ⟨11, by rw [h]; exact hd_L_ke2, fun y => ?_⟩
      refine sg_L_ke_h2 (k := ?_)
      exact sc_ret ct_L_keep ⟨_, _, rfl, rfl, _, _, hP, Or.inr ⟨n, rfl, by rw [h]; rfl, rfl⟩⟩
theorem lm_L_26 : sLm "TermBenchLaw" 26 mB_order = true := by decide +kernel
theorem hd_L_or1 : sHd mL_order 5 0 9 = true := by decide +kernel
theorem c_L_or {a b : Int} (ha : sR a) (hb : sR b) (hcall : sCall l G mB_order (sRm d kk) [.inr (.inl 1), .inl a, .inl b] (hS L x I) (qO L x P)) (hth : ∀ n I', P (.inr n) I' → n = 0) : sCall l G mL_order (sRm (d + 1) kk) [.inr (.inl 1), .inl a, .inl b, .inr (.inl 124)] (hS L x I) (qE L x (wQ (fun n => if n = 0 then 1 else 1) P)) := by
  refine sCall_of (by decide) (Nat.le_of_ble_eq_true rfl) (sV1s_c trivial (sV1s_c ha (sV1s_c hb (sV1s_c trivial sV1s_n)))) rfl ?_
  show sJ l G mL_order (sRm (d + 1) kk) _ 0 (6 * 0) 0 [some (.inr (.inl 1)), some (.inl a), some (.inl b), some (.inr (.inl 124)), none] [] (hSh L, hRF, I, x)
  refine sg_L_or_0 (k := ?_)
  refine sc_vH (as := [.inl a, .inl b]) (rest := [.inl 0, .inr (.inl 124)]) (cc := 0) ct_L_order lk_B_order lm_L_26 hcall rfl (fun v I' hP => ?_) (fun n I' hP => ?_)
  · refine sg_L_or_r (k := ?_)
    exact sc_ret ct_L_order ⟨_, _, rfl, rfl, _, _, hP, Or.inl ⟨v, rfl, rfl, rfl⟩⟩
  · have h := hth n I' hP
    refine ⟨9, by rw [h]; exact hd_L_or1, fun y => ?_⟩
    refine sg_L_or_h1 (k := ?_)
    exact sc_ret ct_L_order ⟨_, _, rfl, rfl, _, _, hP, Or.inr ⟨n, rfl, by rw [h]; rfl, rfl⟩⟩
theorem lm_L_30 : sLm "TermBenchLaw" 30 mB_unify = true := by decide +kernel
theorem hd_L_un1 : sHd mL_unify 9 0 11 = true := by decide +kernel
theorem c_L_un {a b c e : Int} (ha : sR a) (hb : sR b) (hc : sR c) (he : sR e) (hcall : sCall l G mB_unify (sRm d kk) [.inr (.inl 1), .inl a, .inl b, .inl c, .inl e] (hS L x I) (qO L x P)) (hth : ∀ n I', P (.inr n) I' → n = 0) : sCall l G mL_unify (sRm (d + 1) kk) [.inr (.inl 1), .inl a, .inl b, .inl c, .inl e, .inr (.inl 124)] (hS L x I) (qE L x (wQ (fun n => if n = 0 then 1 else 1) P)) := by
  refine sCall_of (by decide) (Nat.le_of_ble_eq_true rfl) (sV1s_c trivial (sV1s_c ha (sV1s_c hb (sV1s_c hc (sV1s_c he (sV1s_c trivial sV1s_n)))))) rfl ?_
  show sJ l G mL_unify (sRm (d + 1) kk) _ 0 (6 * 0) 0 [some (.inr (.inl 1)), some (.inl a), some (.inl b), some (.inl c), some (.inl e), some (.inr (.inl 124)), none] [] (hSh L, hRF, I, x)
  refine sg_L_un_0 (k := ?_)
  refine sc_vH (as := [.inl a, .inl b, .inl c, .inl e]) (rest := [.inl 0, .inr (.inl 124)]) (cc := 0) ct_L_unify lk_B_unify lm_L_30 hcall rfl (fun v I' hP => ?_) (fun n I' hP => ?_)
  · refine sg_L_un_r (k := ?_)
    exact sc_ret ct_L_unify ⟨_, _, rfl, rfl, _, _, hP, Or.inl ⟨v, rfl, rfl, rfl⟩⟩
  · have h := hth n I' hP
    refine ⟨11, by rw [h]; exact hd_L_un1, fun y => ?_⟩
    refine sg_L_un_h1 (k := ?_)
    exact sc_ret ct_L_unify ⟨_, _, rfl, rfl, _, _, hP, Or.inr ⟨n, rfl, by rw [h]; rfl, rfl⟩⟩
theorem lm_L_34 : sLm "TermBenchLaw" 34 mB_match = true := by decide +kernel
theorem hd_L_ma1 : sHd mL_match 5 0 12 = true := by decide +kernel
theorem c_L_ma {a b : Int} (ha : sR a) (hb : sR b) (hcall : sCall l G mB_match (sRm d kk) [.inr (.inl 1), .inl a, .inl b] (hS L x I) (qO L x P)) (hth : ∀ n I', P (.inr n) I' → n = 0) (hv : ∀ v I', P (.inl v) I' → v = 0 ∨ v = 1) : sCall l G mL_match (sRm (d + 1) kk) [.inr (.inl 1), .inl a, .inl b, .inr (.inl 124)] (hS L x I) (qE L x (wQ (fun n => if n = 0 then 1 else 1) P)) := by
  refine sCall_of (by decide) (Nat.le_of_ble_eq_true rfl) (sV1s_c trivial (sV1s_c ha (sV1s_c hb (sV1s_c trivial sV1s_n)))) rfl ?_
  show sJ l G mL_match (sRm (d + 1) kk) _ 0 (6 * 0) 0 [some (.inr (.inl 1)), some (.inl a), some (.inl b), some (.inr (.inl 124)), none] [] (hSh L, hRF, I, x)
  refine sg_L_ma_0 (k := ?_)
  refine sc_vH (as := [.inl a, .inl b]) (rest := [.inl 0, .inr (.inl 124)]) (cc := 0) ct_L_match lk_B_match lm_L_34 hcall rfl (fun v I' hP => ?_) (fun n I' hP => ?_)
  · rcases hv v I' hP with h | h
    · refine sg_L_ma_r0 (k := ?_)
      exact sc_ret ct_L_match ⟨_, _, rfl, rfl, _, _, hP, Or.inl ⟨v, rfl, rfl, by rw [h]⟩⟩
    · refine sg_L_ma_r1 (k := ?_)
      exact sc_ret ct_L_match ⟨_, _, rfl, rfl, _, _, hP, Or.inl ⟨v, rfl, rfl, by rw [h]⟩⟩
  · have h := hth n I' hP
    refine ⟨12, by rw [h]; exact hd_L_ma1, fun y => ?_⟩
    refine sg_L_ma_h1 (k := ?_)
    exact sc_ret ct_L_match ⟨_, _, rfl, rfl, _, _, hP, Or.inr ⟨n, rfl, by rw [h]; rfl, rfl⟩⟩
theorem lm_L_38 : sLm "TermBenchLaw" 38 mB_bound = true := by decide +kernel
theorem hd_L_bo1 : sHd mL_bound 5 0 9 = true := by decide +kernel
theorem c_L_bo {a b : Int} (ha : sR a) (hb : sR b) (hcall : sCall l G mB_bound (sRm d kk) [.inr (.inl 1), .inl a, .inl b] (hS L x I) (qO L x P)) (hth : ∀ n I', P (.inr n) I' → n = 0) : sCall l G mL_bound (sRm (d + 1) kk) [.inr (.inl 1), .inl a, .inl b, .inr (.inl 124)] (hS L x I) (qE L x (wQ (fun n => if n = 0 then 1 else 1) P)) := by
  refine sCall_of (by decide) (Nat.le_of_ble_eq_true rfl) (sV1s_c trivial (sV1s_c ha (sV1s_c hb (sV1s_c trivial sV1s_n)))) rfl ?_
  show sJ l G mL_bound (sRm (d + 1) kk) _ 0 (6 * 0) 0 [some (.inr (.inl 1)), some (.inl a), some (.inl b), some (.inr (.inl 124)), none] [] (hSh L, hRF, I, x)
  refine sg_L_bo_0 (k := ?_)
  refine sc_vH (as := [.inl a, .inl b]) (rest := [.inl 0, .inr (.inl 124)]) (cc := 0) ct_L_bound lk_B_bound lm_L_38 hcall rfl (fun v I' hP => ?_) (fun n I' hP => ?_)
  · refine sg_L_bo_r (k := ?_)
    exact sc_ret ct_L_bound ⟨_, _, rfl, rfl, _, _, hP, Or.inl ⟨v, rfl, rfl, rfl⟩⟩
  · have h := hth n I' hP
    refine ⟨9, by rw [h]; exact hd_L_bo1, fun y => ?_⟩
    refine sg_L_bo_h1 (k := ?_)
    exact sc_ret ct_L_bound ⟨_, _, rfl, rfl, _, _, hP, Or.inr ⟨n, rfl, by rw [h]; rfl, rfl⟩⟩
theorem lm_L_41 : sLm "TermBenchLaw" 41 mB_replace = true := by decide +kernel
theorem hd_L_rp1 : sHd mL_replace 9 0 11 = true := by decide +kernel
theorem hd_L_rp2 : sHd mL_replace 9 2 14 = true := by decide +kernel
theorem c_L_rp {a b c e : Int} (ha : sR a) (hb : sR b) (hc : sR c) (he : sR e) (hcall : sCall l G mB_replace (sRm d kk) [.inr (.inl 1), .inl a, .inl b, .inl c, .inl e] (hS L x I) (qO L x P)) (hth : ∀ n I', P (.inr n) I' → n = 0 ∨ n = 2) : sCall l G mL_replace (sRm (d + 1) kk) [.inr (.inl 1), .inl a, .inl b, .inl c, .inl e, .inr (.inl 124)] (hS L x I) (qE L x (wQ (fun n => if n = 0 then 1 else 2) P)) := by
  refine sCall_of (by decide) (Nat.le_of_ble_eq_true rfl) (sV1s_c trivial (sV1s_c ha (sV1s_c hb (sV1s_c hc (sV1s_c he (sV1s_c trivial sV1s_n)))))) rfl ?_
  show sJ l G mL_replace (sRm (d + 1) kk) _ 0 (6 * 0) 0 [some (.inr (.inl 1)), some (.inl a), some (.inl b), some (.inl c), some (.inl e), some (.inr (.inl 124)), none] [] (hSh L, hRF, I, x)
  refine sg_L_rp_0 (k := ?_)
  refine sc_vH (as := [.inl a, .inl b, .inl c, .inl e]) (rest := [.inl 0, .inr (.inl 124)]) (cc := 0) ct_L_replace lk_B_replace lm_L_41 hcall rfl (fun v I' hP => ?_) (fun n I' hP => ?_)
  · refine sg_L_rp_r (k := ?_)
    exact sc_ret ct_L_replace ⟨_, _, rfl, rfl, _, _, hP, Or.inl ⟨v, rfl, rfl, rfl⟩⟩
  · rcases hth n I' hP with h | h
    · refine ⟨11, by rw [h]; exact hd_L_rp1, fun y => ?_⟩
      refine sg_L_rp_h1 (k := ?_)
      exact sc_ret ct_L_replace ⟨_, _, rfl, rfl, _, _, hP, Or.inr ⟨n, rfl, by rw [h]; rfl, rfl⟩⟩
    · refine ⟨14, by rw [h]; exact hd_L_rp2, fun y => ?_⟩
      refine sg_L_rp_h2 (k := ?_)
      exact sc_ret ct_L_replace ⟨_, _, rfl, rfl, _, _, hP, Or.inr ⟨n, rfl, by rw [h]; rfl, rfl⟩⟩
theorem lm_L_45 : sLm "TermBenchLaw" 45 mB_rewrite = true := by decide +kernel
theorem hd_L_rw1 : sHd mL_rewrite 9 0 11 = true := by decide +kernel
theorem c_L_rw {a b c e : Int} (ha : sR a) (hb : sR b) (hc : sR c) (he : sR e) (hcall : sCall l G mB_rewrite (sRm d kk) [.inr (.inl 1), .inl a, .inl b, .inl c, .inl e] (hS L x I) (qO L x P)) (hth : ∀ n I', P (.inr n) I' → n = 0) : sCall l G mL_rewrite (sRm (d + 1) kk) [.inr (.inl 1), .inl a, .inl b, .inl c, .inl e, .inr (.inl 124)] (hS L x I) (qE L x (wQ (fun n => if n = 0 then 1 else 1) P)) := by
  refine sCall_of (by decide) (Nat.le_of_ble_eq_true rfl) (sV1s_c trivial (sV1s_c ha (sV1s_c hb (sV1s_c hc (sV1s_c he (sV1s_c trivial sV1s_n)))))) rfl ?_
  show sJ l G mL_rewrite (sRm (d + 1) kk) _ 0 (6 * 0) 0 [some (.inr (.inl 1)), some (.inl a), some (.inl b), some (.inl c), some (.inl e), some (.inr (.inl 124)), none] [] (hSh L, hRF, I, x)
  refine sg_L_rw_0 (k := ?_)
  refine sc_vH (as := [.inl a, .inl b, .inl c, .inl e]) (rest := [.inl 0, .inr (.inl 124)]) (cc := 0) ct_L_rewrite lk_B_rewrite lm_L_45 hcall rfl (fun v I' hP => ?_) (fun n I' hP => ?_)
  · refine sg_L_rw_r (k := ?_)
    exact sc_ret ct_L_rewrite ⟨_, _, rfl, rfl, _, _, hP, Or.inl ⟨v, rfl, rfl, rfl⟩⟩
  · have h := hth n I' hP
    refine ⟨11, by rw [h]; exact hd_L_rw1, fun y => ?_⟩
    refine sg_L_rw_h1 (k := ?_)
    exact sc_ret ct_L_rewrite ⟨_, _, rfl, rfl, _, _, hP, Or.inr ⟨n, rfl, by rw [h]; rfl, rfl⟩⟩
theorem lm_L_48 : sLm "TermBenchLaw" 48 mB_code = true := by decide +kernel
theorem hd_L_co1 : sHd mL_code 5 0 9 = true := by decide +kernel
theorem c_L_co {a b : Int} (ha : sR a) (hb : sR b) (hcall : sCall l G mB_code (sRm d kk) [.inr (.inl 1), .inl a, .inl b] (hS L x I) (qO L x P)) (hth : ∀ n I', P (.inr n) I' → n = 0) : sCall l G mL_code (sRm (d + 1) kk) [.inr (.inl 1), .inl a, .inl b, .inr (.inl 124)] (hS L x I) (qE L x (wQ (fun n => if n = 0 then 1 else 1) P)) := by
  refine sCall_of (by decide) (Nat.le_of_ble_eq_true rfl) (sV1s_c trivial (sV1s_c ha (sV1s_c hb (sV1s_c trivial sV1s_n)))) rfl ?_
  show sJ l G mL_code (sRm (d + 1) kk) _ 0 (6 * 0) 0 [some (.inr (.inl 1)), some (.inl a), some (.inl b), some (.inr (.inl 124)), none] [] (hSh L, hRF, I, x)
  refine sg_L_co_0 (k := ?_)
  refine sc_vH (as := [.inl a, .inl b]) (rest := [.inl 0, .inr (.inl 124)]) (cc := 0) ct_L_code lk_B_code lm_L_48 hcall rfl (fun v I' hP => ?_) (fun n I' hP => ?_)
  · refine sg_L_co_r (k := ?_)
    exact sc_ret ct_L_code ⟨_, _, rfl, rfl, _, _, hP, Or.inl ⟨v, rfl, rfl, rfl⟩⟩
  · have h := hth n I' hP
    refine ⟨9, by rw [h]; exact hd_L_co1, fun y => ?_⟩
    refine sg_L_co_h1 (k := ?_)
    exact sc_ret ct_L_code ⟨_, _, rfl, rfl, _, _, hP, Or.inr ⟨n, rfl, by rw [h]; rfl, rfl⟩⟩
theorem lm_L_51 : sLm "TermBenchLaw" 51 mB_told = true := by decide +kernel
theorem hd_L_to1 : sHd mL_told 5 0 9 = true := by decide +kernel
theorem hd_L_to2 : sHd mL_told 5 1 12 = true := by decide +kernel
theorem c_L_to {a b : Int} (ha : sR a) (hb : sR b) (hcall : sCall l G mB_told (sRm d kk) [.inr (.inl 1), .inl a, .inl b] (hS L x I) (qO L x P)) (hth : ∀ n I', P (.inr n) I' → n = 0 ∨ n = 1) : sCall l G mL_told (sRm (d + 1) kk) [.inr (.inl 1), .inl a, .inl b, .inr (.inl 124)] (hS L x I) (qE L x (wQ (fun n => if n = 0 then 1 else 2) P)) := by
  refine sCall_of (by decide) (Nat.le_of_ble_eq_true rfl) (sV1s_c trivial (sV1s_c ha (sV1s_c hb (sV1s_c trivial sV1s_n)))) rfl ?_
  show sJ l G mL_told (sRm (d + 1) kk) _ 0 (6 * 0) 0 [some (.inr (.inl 1)), some (.inl a), some (.inl b), some (.inr (.inl 124)), none] [] (hSh L, hRF, I, x)
  refine sg_L_to_0 (k := ?_)
  refine sc_vH (as := [.inl a, .inl b]) (rest := [.inl 0, .inr (.inl 124)]) (cc := 0) ct_L_told lk_B_told lm_L_51 hcall rfl (fun v I' hP => ?_) (fun n I' hP => ?_)
  · refine sg_L_to_r (k := ?_)
    exact sc_ret ct_L_told ⟨_, _, rfl, rfl, _, _, hP, Or.inl ⟨v, rfl, rfl, rfl⟩⟩
  · rcases hth n I' hP with h | h
    · refine ⟨9, by rw [h]; exact hd_L_to1, fun y => ?_⟩
      refine sg_L_to_h1 (k := ?_)
      exact sc_ret ct_L_told ⟨_, _, rfl, rfl, _, _, hP, Or.inr ⟨n, rfl, by rw [h]; rfl, rfl⟩⟩
    · refine ⟨12, by rw [h]; exact hd_L_to2, fun y => ?_⟩
      refine sg_L_to_h2 (k := ?_)
      exact sc_ret ct_L_told ⟨_, _, rfl, rfl, _, _, hP, Or.inr ⟨n, rfl, by rw [h]; rfl, rfl⟩⟩
end CLW
