/-! the reference: refuse, noSlot, noSlots, fresh, under -/
theorem lm_M_99 : sLm "TermBenchModel" 99 mM_refuse = true := by decide +kernel
theorem lm_M_103 : sLm "TermBenchModel" 103 mM_noSlot = true := by decide +kernel
theorem lm_M_107 : sLm "TermBenchModel" 107 mM_next = true := by decide +kernel
theorem lm_M_111 : sLm "TermBenchModel" 111 mM_fresh = true := by decide +kernel
theorem lm_M_115 : sLm "TermBenchModel" 115 mM_under = true := by decide +kernel
theorem lm_M_119 : sLm "TermBenchModel" 119 mM_write = true := by decide +kernel
theorem lm_M_123 : sLm "TermBenchModel" 123 mM_same = true := by decide +kernel
theorem lm_M_127 : sLm "TermBenchModel" 127 mM_copy = true := by decide +kernel
theorem lm_M_130 : sLm "TermBenchModel" 130 mM_times = true := by decide +kernel
theorem lm_M_133 : sLm "TermBenchModel" 133 mM_greater = true := by decide +kernel
section CR1
variable {l : Launch} {G : sG} {L x d : Nat} {I : sI}
theorem c_R_th : sCall l G mM_thrown (sRm d 0) [.inr (.inl 84)] (hS L x I) (qI L x (I 84 0) I) := by
  refine sCall_of (by decide) (Nat.le_of_ble_eq_true rfl) (sV1s_c trivial sV1s_n) rfl ?_
  show sJ l G mM_thrown (sRm d 0) _ 0 (6 * 0) 0 [some (.inr (.inl 84))] [] (hSh L, hRF, I, x)
  refine sg_R_th (k := ?_)
  exact sc_ret ct_M_thrown ⟨rfl, rfl⟩
theorem c_R_re {n z : Int} (hn : sR n) (hz : z = 0 ∨ z = 1) : sCall l G mM_refuse (sRm d 0) [.inr (.inl 84), .inl n, .inl z] (hS L x I) (qI L x z (if z = 0 then I else sU I 84 0 n)) := by
  refine sCall_of (by decide) (Nat.le_of_ble_eq_true rfl) (sV1s_c trivial (sV1s_c hn (sV1s_c (sV1_i (by omega) (by omega)) sV1s_n))) rfl ?_
  show sJ l G mM_refuse (sRm d 0) _ 0 (6 * 0) 0 [some (.inr (.inl 84)), some (.inl n), some (.inl z)] [] (hSh L, hRF, I, x)
  by_cases h : z = 0
  · refine sg_R_re_f (k := ?_)
    exact sc_retZ ct_M_refuse ⟨rfl, by rw [if_pos h]⟩
  · refine sg_R_re_t (k := ?_)
    exact sc_retZ ct_M_refuse ⟨rfl, by rw [if_neg h]⟩
theorem c_R_ns {a : Int} (ha : sR a) : sCall l G mM_noSlot (sRm (d + 1) 0) [.inr (.inl 84), .inl a] (hS L x I) (qE L x (fun r I' => I' = sU I 84 0 r ∧ ((r = 0 ∧ okS a) ∨ (r = 1 ∧ ¬ okS a)))) := by
  refine sCall_of (by decide) (Nat.le_of_ble_eq_true rfl) (sV1s_c trivial (sV1s_c ha sV1s_n)) rfl ?_
  show sJ l G mM_noSlot (sRm (d + 1) 0) _ 0 (6 * 0) 0 [some (.inr (.inl 84)), some (.inl a)] [] (hSh L, hRF, I, x)
  by_cases h1 : a < 0
  · refine sg_R_ns_a (k := ?_)
    refine sc_vI (as := [.inl _, .inl _]) (rest := []) (cc := 6) ct_M_noSlot lk_M_refuse lm_M_99 (c_R_re (d := d) (by unfold sR; omega) (Or.inr rfl)) rfl ?_
    exact sc_retZ ct_M_noSlot ⟨_, _, rfl, rfl, by rw [if_neg (by omega), sU_sU], Or.inr ⟨rfl, fun h => by unfold okS at h; omega⟩⟩
  · by_cases h2 : a < 16
    · refine sg_R_ns_o (k := ?_)
      refine sc_vI (as := [.inl _, .inl _]) (rest := []) (cc := 6) ct_M_noSlot lk_M_refuse lm_M_99 (c_R_re (d := d) (by unfold sR; omega) (Or.inl rfl)) rfl ?_
      exact sc_retZ ct_M_noSlot ⟨_, _, rfl, rfl, by rw [if_pos rfl], Or.inl ⟨rfl, by unfold okS; omega⟩⟩
    · refine sg_R_ns_b (k := ?_)
      refine sc_vI (as := [.inl _, .inl _]) (rest := []) (cc := 6) ct_M_noSlot lk_M_refuse lm_M_99 (c_R_re (d := d) (by unfold sR; omega) (Or.inr rfl)) rfl ?_
      exact sc_retZ ct_M_noSlot ⟨_, _, rfl, rfl, by rw [if_neg (by omega), sU_sU], Or.inr ⟨rfl, fun h => by unfold okS at h; omega⟩⟩
theorem c_R_nn {a b c e : Int} (ha : sR a) (hb : sR b) (hc : sR c) (he : sR e) : sCall l G mM_noSlots (sRm (d + 2) 0) [.inr (.inl 84), .inl a, .inl b, .inl c, .inl e] (hS L x I) (qE L x (fun r I' => I' = sU I 84 0 r ∧ ((r = 0 ∧ okS a ∧ okS b ∧ okS c ∧ okS e) ∨ (r = 1 ∧ ¬ (okS a ∧ okS b ∧ okS c ∧ okS e))))) := by
  refine sCall_of (by decide) (Nat.le_of_ble_eq_true rfl) (sV1s_c trivial (sV1s_c ha (sV1s_c hb (sV1s_c hc (sV1s_c he sV1s_n))))) rfl ?_
  show sJ l G mM_noSlots (sRm (d + 2) 0) _ 0 (6 * 0) 0 [some (.inr (.inl 84)), some (.inl a), some (.inl b), some (.inl c), some (.inl e)] [] (hSh L, hRF, I, x)
  refine sg_R_nn_0 (k := ?_)
  refine sc_vE (as := [.inl _]) (rest := []) (cc := 6) ct_M_noSlots lk_M_noSlot lm_M_103 (c_R_ns (d := d) ha) rfl (fun r1 I1 h1 => ?_)
  obtain ⟨rfl, ⟨rfl, g1⟩ | ⟨rfl, g1⟩⟩ := h1
  · refine sg_R_nn_0f (k := ?_)
    refine sc_vE (as := [.inl _]) (rest := []) (cc := 6) ct_M_noSlots lk_M_noSlot lm_M_103 (c_R_ns (d := d) hb) rfl (fun r2 I2 h2 => ?_)
    rw [sU_sU] at h2
    obtain ⟨rfl, ⟨rfl, g2⟩ | ⟨rfl, g2⟩⟩ := h2
    · refine sg_R_nn_1f (k := ?_)
      refine sc_vE (as := [.inl _]) (rest := []) (cc := 6) ct_M_noSlots lk_M_noSlot lm_M_103 (c_R_ns (d := d) hc) rfl (fun r3 I3 h3 => ?_)
      rw [sU_sU] at h3
      obtain ⟨rfl, ⟨rfl, g3⟩ | ⟨rfl, g3⟩⟩ := h3
      · refine sg_R_nn_2f (k := ?_)
        refine sc_vE (as := [.inl _]) (rest := []) (cc := 6) ct_M_noSlots lk_M_noSlot lm_M_103 (c_R_ns (d := d) he) rfl (fun r4 I4 h4 => ?_)
        rw [sU_sU] at h4
        obtain ⟨rfl, ⟨rfl, g4⟩ | ⟨rfl, g4⟩⟩ := h4
        · refine sg_R_nn_3f (k := ?_)
          exact sc_retZ ct_M_noSlots ⟨_, _, rfl, rfl, rfl, Or.inl ⟨rfl, g1, g2, g3, g4⟩⟩
        · refine sg_R_nn_3t (k := ?_)
          exact sc_retZ ct_M_noSlots ⟨_, _, rfl, rfl, rfl, Or.inr ⟨rfl, fun h => g4 h.2.2.2⟩⟩
      · refine sg_R_nn_2t (k := ?_)
        exact sc_retZ ct_M_noSlots ⟨_, _, rfl, rfl, rfl, Or.inr ⟨rfl, fun h => g3 h.2.2.1⟩⟩
    · refine sg_R_nn_1t (k := ?_)
      exact sc_retZ ct_M_noSlots ⟨_, _, rfl, rfl, rfl, Or.inr ⟨rfl, fun h => g2 h.2.1⟩⟩
  · refine sg_R_nn_0t (k := ?_)
    exact sc_retZ ct_M_noSlots ⟨_, _, rfl, rfl, rfl, Or.inr ⟨rfl, fun h => g1 h.1⟩⟩
theorem c_R_fr {c : Int} (hc : sR c) (h0 : 0 ≤ I 84 17) (h1 : I 84 17 < 6000) : sCall l G mM_fresh (sRm d 0) [.inr (.inl 84), .inl c] (hS L x I) (qI L x (I 84 17) (frI I c)) := by
  refine sCall_of (by decide) (Nat.le_of_ble_eq_true rfl) (sV1s_c trivial (sV1s_c hc sV1s_n)) rfl ?_
  show sJ l G mM_fresh (sRm d 0) _ 0 (6 * 0) 0 [some (.inr (.inl 84)), some (.inl c)] [] (hSh L, hRF, I, x)
  refine sg_R_fr (k := ?_)
  exact sc_ret ct_M_fresh ⟨rfl, rfl⟩
theorem c_R_un {t la y : Int} (ht0 : 0 ≤ t) (ht1 : t < 6000) (hl0 : -1 ≤ la) (hl1 : la < 6000) (hy0 : 0 ≤ y) (hy1 : y < 6000) (hw1 : -10000 ≤ I 117 t ∧ I 117 t ≤ 10000) (hw2 : -10000 ≤ I 117 y ∧ I 117 y ≤ 10000) : sCall l G mM_under (sRm d 0) [.inr (.inl 84), .inl t, .inl la, .inl y] (hS L x I) (qV L x (un I t la y)) := by
  refine sCall_of (by decide) (Nat.le_of_ble_eq_true rfl) (sV1s_c trivial (sV1s_c (sV1_i (by omega) (by omega)) (sV1s_c (sV1_i (by omega) (by omega)) (sV1s_c (sV1_i (by omega) (by omega)) sV1s_n)))) rfl ?_
  show sJ l G mM_under (sRm d 0) _ 0 (6 * 0) 0 [some (.inr (.inl 84)), some (.inl t), some (.inl la), some (.inl y)] [] (hSh L, hRF, I, x)
  by_cases h : la < 0
  · refine sg_R_un_a (k := ?_)
    exact sc_retV ct_M_under ⟨rfl, by unfold un; rw [if_pos h]⟩
  · refine sg_R_un_b (k := ?_)
    exact sc_retV ct_M_under ⟨rfl, by unfold un; rw [if_neg h]⟩
end CR1
