/-! the law's loop: one round -/
theorem rm_f : room_1.frames = 2048 := rfl
theorem rm_l : room_1.locals = 84000 := rfl
theorem rm_c : room_1.cells = 601024 := rfl
theorem rm_s : room_1.slots = 7293034 := rfl
theorem lc0 {u v : Int} (h : u = v) : (if v < u then (1 : Int) else if u = v then 0 else -1) = 0 := by
  rw [if_neg (by omega), if_pos h]
section LW
variable {l : Launch} {G : sG} {M M2 : sM} {rm : Room} {Q : sQ} {κ θ κ' θ' i : Nat} {ls : List (Option sV)} {st rest : List sV} {S : sS} {pc a b : Nat} {L : Nat} {I : sI}
theorem sJ_R {x : Nat} (h : (∀ a j, sR (I a j)) → sJ l G M rm Q κ θ i ls st (hS L x I)) : sJ l G M rm Q κ θ i ls st (hS L x I) := by
  intro p e s m args below meth c H locs arr hB hC h0 hP hS hL hst
  exact h hP.2.2.2.2.2.2.1 p e s m args below meth c H locs arr hB hC h0 hP hS hL hst
theorem sJ_w (h1 : κ ≤ κ') (h2 : θ ≤ θ') (h : sJ l G M rm Q κ' θ' i ls st S) : sJ l G M rm Q κ θ i ls st S := by
  intro p e s m args below meth c H locs arr hB hC h0 hP hS hL hst
  exact W.widen h1 h2 (h p e s m args below meth c H locs arr hB hC h0 hP hS hL hst)
theorem sw_s {idx kk : Nat} {as : List sV} {P : Int → sI → Prop} (hlk : sLs as.length M2 = true) (hlm : sLm "TermBenchLaw" idx M2 = true) (hcall : sCall l G M2 (sRm 8 kk) as (hS L 1 I) (qE L 1 P))
    (k : ∀ v I', P v I' → sJ l G mL_law room_1 Q (κ + kk) (θ + 6 * kk) (i + 1) ls [.inl v] (hS L 1 I')) (hq : (sCd mL_law)[i]? = some (pc, .invokestatic idx, a, b)) (hml : M2.2.2.1 ≤ 21) (hκ : κ + kk ≤ 601024) (hθ : θ + 6 * kk ≤ 7293034) : sJ l G mL_law room_1 Q κ θ i ls (as.reverse ++ []) (hS L 1 I) :=
  sj_callS hq (ct_L_law i _ hq (by simp)) hlk hlm hcall (Nat.zero_le _) (by show 8 + 1 ≤ 2048; omega) (by show 8 + (M2.2.2.1 + 11) + (40 * 8 + 100) ≤ 84000; omega) hκ hθ (fun v S' h => by
    obtain ⟨u, I', h1, rfl, h3⟩ := h
    cases h1
    exact k u I' h3) (fun n S' h => by
    obtain ⟨u, I', h1, -⟩ := h
    cases h1)
theorem sw_v {idx d2 y cc : Nat} {as : List sV} {P : Int → sI → Prop} (hlk : sLv as.length M2 = true) (hlm : sLm "TermBenchLaw" idx M2 = true) (hcall : sCall l G M2 (sRm d2 0) (.inr (.inl y) :: as) (hS L 1 I) (qE L 1 P)) (hx : (sKd (hSh L) y).1 = cc + 5)
    (k : ∀ v I', P v I' → sJ l G mL_law room_1 Q κ θ (i + 1) ls (.inl v :: rest) (hS L 1 I')) (hq : (sCd mL_law)[i]? = some (pc, .invokevirtual idx, a, b)) (hcl : ∃ q : vw_C, classes[cc]? = some q ∧ q.1 = M2.1.cls) (hcat : (rest.map fun v => (sE G v).category).sum ≤ 8) (hml : M2.2.2.1 ≤ 21) (hd : d2 ≤ 2000) (hκ : κ ≤ 601024) (hθ : θ ≤ 7293034) : sJ l G mL_law room_1 Q κ θ i ls (as.reverse ++ .inr (.inl y) :: rest) (hS L 1 I) :=
  sj_callV hq (ct_L_law i _ hq (by simp)) hlk hlm hcl hx hcall hcat (by show d2 + 1 ≤ 2048; omega) (by show 8 + (M2.2.2.1 + 11) + (40 * d2 + 100) ≤ 84000; omega) hκ hθ (fun v S' h => by
    obtain ⟨u, I', h1, rfl, h3⟩ := h
    cases h1
    exact k u I' h3) (fun n S' h => by
    obtain ⟨u, I', h1, -⟩ := h
    cases h1)
theorem c_R_tq {d : Nat} : sCall l G mM_thrown (sRm d 0) [.inr (.inl 84)] (hS L 1 I) (qE L 1 (fun t I' => t = I 84 0 ∧ I' = I)) :=
  sCall_mono c_R_th (fun r S' h => ⟨_, _, h.1, h.2, rfl, rfl⟩)
def lsW (i : Int) (w5 w6 : Option sV) : List (Option sV) := [some (.inr (.inl 0)), some (.inr (.inl 1)), some (.inr (.inl 84)), some (.inr (.inl 124)), some (.inl i), w5, w6]
end LW
theorem lm_W_64 : sLm "TermBenchLaw" 64 mM_thrown = true := by decide +kernel
theorem lm_W_102 : sLm "TermBenchLaw" 102 mB_count = true := by decide +kernel
theorem lm_W_105 : sLm "TermBenchLaw" 105 mM_count = true := by decide +kernel
theorem lm_W_58 : sLm "TermBenchLaw" 58 mL_symbol = true := by decide +kernel
theorem lm_W_63 : sLm "TermBenchLaw" 63 mM_symbol = true := by decide +kernel
theorem lm_W_68 : sLm "TermBenchLaw" 68 mL_put = true := by decide +kernel
theorem lm_W_71 : sLm "TermBenchLaw" 71 mM_put = true := by decide +kernel
theorem lm_W_72 : sLm "TermBenchLaw" 72 mL_keep = true := by decide +kernel
theorem lm_W_74 : sLm "TermBenchLaw" 74 mM_keep = true := by decide +kernel
theorem lm_W_75 : sLm "TermBenchLaw" 75 mL_order = true := by decide +kernel
theorem lm_W_78 : sLm "TermBenchLaw" 78 mM_order = true := by decide +kernel
theorem lm_W_79 : sLm "TermBenchLaw" 79 mL_unify = true := by decide +kernel
theorem lm_W_82 : sLm "TermBenchLaw" 82 mM_unify = true := by decide +kernel
theorem lm_W_83 : sLm "TermBenchLaw" 83 mL_match = true := by decide +kernel
theorem lm_W_85 : sLm "TermBenchLaw" 85 mM_match = true := by decide +kernel
theorem lm_W_86 : sLm "TermBenchLaw" 86 mL_bound = true := by decide +kernel
theorem lm_W_88 : sLm "TermBenchLaw" 88 mM_bound = true := by decide +kernel
theorem lm_W_89 : sLm "TermBenchLaw" 89 mL_replace = true := by decide +kernel
theorem lm_W_92 : sLm "TermBenchLaw" 92 mM_replace = true := by decide +kernel
theorem lm_W_93 : sLm "TermBenchLaw" 93 mL_rewrite = true := by decide +kernel
theorem lm_W_95 : sLm "TermBenchLaw" 95 mM_rewrite = true := by decide +kernel
theorem lm_W_96 : sLm "TermBenchLaw" 96 mL_code = true := by decide +kernel
theorem lm_W_98 : sLm "TermBenchLaw" 98 mM_code = true := by decide +kernel
theorem lm_W_99 : sLm "TermBenchLaw" 99 mL_told = true := by decide +kernel
theorem lm_W_101 : sLm "TermBenchLaw" 101 mM_told = true := by decide +kernel
section LWO
variable {l : Launch} {G : sG} {Q : sQ} {L : Nat} {I : sI} {i : Int} {j : Nat} {w5 w6 : Option sV}
set_option maxRecDepth 100000 in
set_option maxHeartbeats 4000000 in
theorem W_sy (hl : l.stackTraces = false) (hJ : J j I) (hj : j ≤ 512) (hi : 0 ≤ i) (hi5 : i + 5 ≤ L) (hL : L ≤ 2560) (K : ∀ I2 v5 v6, J (j + 1) I2 → sJ l G mL_law room_1 Q (124 + 5 * (j + 1)) (32256 + 30 * (j + 1)) 13 (lsW (i + 5) v5 v6) [] (hS L 1 I2)) : sJ l G mL_law room_1 Q (124 + 5 * j) (32256 + 30 * j) 25 (lsW i w5 w6) [] (hS L 1 I) := by
  unfold lsW at K ⊢
  refine sJ_R (fun hRg => ?_)
  by_cases hz : I 0 (i + 2) = 0
  · refine sg_W_sy_a0 (k := ?_)
    refine sw_s (kk := 1) (as := [.inr (.inl 1), .inl (I 0 (i + 1)), .inl 0, .inr (.inl 124)]) lk_L_symbol lm_W_58 (op_sy hl hJ (hRg 0 _) (Or.inl rfl)) (fun kq I1 h1 => ?_) (by rfl) (by decide) (by omega) (by omega)
    obtain ⟨e0, hc⟩ := h1
    have hz1 : I1 0 (i + 2) = 0 := by rw [e0]; exact hz
    refine sg_W_sy_b0 (k := ?_)
    rw [e0]
    refine sw_v (d2 := 404) (as := [.inl (I 0 (i + 1)), .inl 0]) (rest := []) (y := 84) (cc := 6) lk_M_symbol lm_W_63 hc rfl (fun v I2 h2 => ?_) (by rfl) ⟨_, rfl, rfl⟩ (Nat.zero_le _) (by decide) (by omega) (by omega) (by omega)
    obtain ⟨ht, hq, hJ2, -⟩ := h2
    refine sg_W_sy_c (k := ?_)
    refine sw_v (d2 := 0) (as := []) (rest := []) (y := 84) (cc := 6) lk_M_thrown lm_W_64 c_R_tq rfl (fun t I3 h3 => ?_) (by rfl) ⟨_, rfl, rfl⟩ (Nat.zero_le _) (by decide) (by omega) (by omega) (by omega)
    obtain ⟨rfl, rfl⟩ := h3
    by_cases hk : kq = 0
    · refine sg_W_sy_e (b1 := ht) (b2 := fun h => h hk) (b4 := lc0 (hq hk)) (k := ?_)
      exact sJ_w (by omega) (by omega) (K _ _ _ hJ2)
    · refine sg_W_sy_t (b1 := ht) (b2 := hk) (k := ?_)
      exact sJ_w (by omega) (by omega) (K _ _ _ hJ2)
  · refine sg_W_sy_a1 (k := ?_)
    refine sw_s (kk := 1) (as := [.inr (.inl 1), .inl (I 0 (i + 1)), .inl 1, .inr (.inl 124)]) lk_L_symbol lm_W_58 (op_sy hl hJ (hRg 0 _) (Or.inr rfl)) (fun kq I1 h1 => ?_) (by rfl) (by decide) (by omega) (by omega)
    obtain ⟨e0, hc⟩ := h1
    have hz1 : ¬ I1 0 (i + 2) = 0 := by rw [e0]; exact hz
    refine sg_W_sy_b1 (k := ?_)
    rw [e0]
    refine sw_v (d2 := 404) (as := [.inl (I 0 (i + 1)), .inl 1]) (rest := []) (y := 84) (cc := 6) lk_M_symbol lm_W_63 hc rfl (fun v I2 h2 => ?_) (by rfl) ⟨_, rfl, rfl⟩ (Nat.zero_le _) (by decide) (by omega) (by omega) (by omega)
    obtain ⟨ht, hq, hJ2, -⟩ := h2
    refine sg_W_sy_c (k := ?_)
    refine sw_v (d2 := 0) (as := []) (rest := []) (y := 84) (cc := 6) lk_M_thrown lm_W_64 c_R_tq rfl (fun t I3 h3 => ?_) (by rfl) ⟨_, rfl, rfl⟩ (Nat.zero_le _) (by decide) (by omega) (by omega) (by omega)
    obtain ⟨rfl, rfl⟩ := h3
    by_cases hk : kq = 0
    · refine sg_W_sy_e (b1 := ht) (b2 := fun h => h hk) (b4 := lc0 (hq hk)) (k := ?_)
      exact sJ_w (by omega) (by omega) (K _ _ _ hJ2)
    · refine sg_W_sy_t (b1 := ht) (b2 := hk) (k := ?_)
      exact sJ_w (by omega) (by omega) (K _ _ _ hJ2)
set_option maxRecDepth 100000 in
set_option maxHeartbeats 4000000 in
theorem W_pu (hl : l.stackTraces = false) (hJ : J j I) (hj : j ≤ 512) (hi : 0 ≤ i) (hi5 : i + 5 ≤ L) (hL : L ≤ 2560) (K : ∀ I2 v5 v6, J (j + 1) I2 → sJ l G mL_law room_1 Q (124 + 5 * (j + 1)) (32256 + 30 * (j + 1)) 13 (lsW (i + 5) v5 v6) [] (hS L 1 I2)) : sJ l G mL_law room_1 Q (124 + 5 * j) (32256 + 30 * j) 78 (lsW i w5 w6) [] (hS L 1 I) := by
  unfold lsW at K ⊢
  refine sJ_R (fun hRg => ?_)
  refine sg_W_pu_a (k := ?_)
  refine sw_s (kk := 1) (as := [.inr (.inl 1), .inl (I 0 (i + 1)), .inr (.inl 124)]) lk_L_put lm_W_68 (op_pu hl hJ (hRg 0 _)) (fun kq I1 h1 => ?_) (by rfl) (by decide) (by omega) (by omega)
  obtain ⟨e0, hc⟩ := h1
  refine sg_W_pu_b (k := ?_)
  rw [e0]
  refine sw_v (d2 := 404) (as := [.inl (I 0 (i + 1))]) (rest := []) (y := 84) (cc := 6) lk_M_put lm_W_71 hc rfl (fun v I2 h2 => ?_) (by rfl) ⟨_, rfl, rfl⟩ (Nat.zero_le _) (by decide) (by omega) (by omega) (by omega)
  obtain ⟨ht, hq, hJ2, -⟩ := h2
  refine sg_W_pu_c (k := ?_)
  refine sw_v (d2 := 0) (as := []) (rest := []) (y := 84) (cc := 6) lk_M_thrown lm_W_64 c_R_tq rfl (fun t I3 h3 => ?_) (by rfl) ⟨_, rfl, rfl⟩ (Nat.zero_le _) (by decide) (by omega) (by omega) (by omega)
  obtain ⟨rfl, rfl⟩ := h3
  by_cases hk : kq = 0
  · refine sg_W_pu_e (b1 := ht) (b2 := fun h => h hk) (b4 := lc0 (hq hk)) (k := ?_)
    exact sJ_w (by omega) (by omega) (K _ _ _ hJ2)
  · refine sg_W_pu_t (b1 := ht) (b2 := hk) (k := ?_)
    exact sJ_w (by omega) (by omega) (K _ _ _ hJ2)
set_option maxRecDepth 100000 in
set_option maxHeartbeats 4000000 in
theorem W_ke (hl : l.stackTraces = false) (hJ : J j I) (hj : j ≤ 512) (hi : 0 ≤ i) (hi5 : i + 5 ≤ L) (hL : L ≤ 2560) (K : ∀ I2 v5 v6, J (j + 1) I2 → sJ l G mL_law room_1 Q (124 + 5 * (j + 1)) (32256 + 30 * (j + 1)) 13 (lsW (i + 5) v5 v6) [] (hS L 1 I2)) : sJ l G mL_law room_1 Q (124 + 5 * j) (32256 + 30 * j) 113 (lsW i w5 w6) [] (hS L 1 I) := by
  unfold lsW at K ⊢
  refine sJ_R (fun hRg => ?_)
  refine sg_W_ke_a (k := ?_)
  refine sw_s (kk := 2) (as := [.inr (.inl 1), .inl (I 0 (i + 1)), .inr (.inl 124)]) lk_L_keep lm_W_72 (op_ke hl hJ (hRg 0 _)) (fun kq I1 h1 => ?_) (by rfl) (by decide) (by omega) (by omega)
  obtain ⟨e0, hc⟩ := h1
  refine sg_W_ke_b (k := ?_)
  rw [e0]
  refine sw_v (d2 := 404) (as := [.inl (I 0 (i + 1))]) (rest := []) (y := 84) (cc := 6) lk_M_keep lm_W_74 hc rfl (fun v I2 h2 => ?_) (by rfl) ⟨_, rfl, rfl⟩ (Nat.zero_le _) (by decide) (by omega) (by omega) (by omega)
  obtain ⟨ht, hq, hJ2, -⟩ := h2
  refine sg_W_ke_c (k := ?_)
  refine sw_v (d2 := 0) (as := []) (rest := []) (y := 84) (cc := 6) lk_M_thrown lm_W_64 c_R_tq rfl (fun t I3 h3 => ?_) (by rfl) ⟨_, rfl, rfl⟩ (Nat.zero_le _) (by decide) (by omega) (by omega) (by omega)
  obtain ⟨rfl, rfl⟩ := h3
  by_cases hk : kq = 0
  · refine sg_W_ke_e (b1 := ht) (b2 := fun h => h hk) (b4 := lc0 (hq hk)) (k := ?_)
    exact sJ_w (by omega) (by omega) (K _ _ _ hJ2)
  · refine sg_W_ke_t (b1 := ht) (b2 := hk) (k := ?_)
    exact sJ_w (by omega) (by omega) (K _ _ _ hJ2)
set_option maxRecDepth 100000 in
set_option maxHeartbeats 4000000 in
theorem W_or (hl : l.stackTraces = false) (hJ : J j I) (hj : j ≤ 512) (hi : 0 ≤ i) (hi5 : i + 5 ≤ L) (hL : L ≤ 2560) (K : ∀ I2 v5 v6, J (j + 1) I2 → sJ l G mL_law room_1 Q (124 + 5 * (j + 1)) (32256 + 30 * (j + 1)) 13 (lsW (i + 5) v5 v6) [] (hS L 1 I2)) : sJ l G mL_law room_1 Q (124 + 5 * j) (32256 + 30 * j) 148 (lsW i w5 w6) [] (hS L 1 I) := by
  unfold lsW at K ⊢
  refine sJ_R (fun hRg => ?_)
  refine sg_W_or_a (k := ?_)
  refine sw_s (kk := 2) (as := [.inr (.inl 1), .inl (I 0 (i + 1)), .inl (I 0 (i + 2)), .inr (.inl 124)]) lk_L_order lm_W_75 (op_or hl hJ (hRg 0 _) (hRg 0 _)) (fun kq I1 h1 => ?_) (by rfl) (by decide) (by omega) (by omega)
  obtain ⟨e0, hc⟩ := h1
  refine sg_W_or_b (k := ?_)
  rw [e0]
  refine sw_v (d2 := 404) (as := [.inl (I 0 (i + 1)), .inl (I 0 (i + 2))]) (rest := []) (y := 84) (cc := 6) lk_M_order lm_W_78 hc rfl (fun v I2 h2 => ?_) (by rfl) ⟨_, rfl, rfl⟩ (Nat.zero_le _) (by decide) (by omega) (by omega) (by omega)
  obtain ⟨ht, hq, hJ2, -⟩ := h2
  refine sg_W_or_c (k := ?_)
  refine sw_v (d2 := 0) (as := []) (rest := []) (y := 84) (cc := 6) lk_M_thrown lm_W_64 c_R_tq rfl (fun t I3 h3 => ?_) (by rfl) ⟨_, rfl, rfl⟩ (Nat.zero_le _) (by decide) (by omega) (by omega) (by omega)
  obtain ⟨rfl, rfl⟩ := h3
  by_cases hk : kq = 0
  · refine sg_W_or_e (b1 := ht) (b2 := fun h => h hk) (b4 := lc0 (hq hk)) (k := ?_)
    exact sJ_w (by omega) (by omega) (K _ _ _ hJ2)
  · refine sg_W_or_t (b1 := ht) (b2 := hk) (k := ?_)
    exact sJ_w (by omega) (by omega) (K _ _ _ hJ2)
set_option maxRecDepth 100000 in
set_option maxHeartbeats 4000000 in
theorem W_un (hl : l.stackTraces = false) (hJ : J j I) (hj : j ≤ 512) (hi : 0 ≤ i) (hi5 : i + 5 ≤ L) (hL : L ≤ 2560) (K : ∀ I2 v5 v6, J (j + 1) I2 → sJ l G mL_law room_1 Q (124 + 5 * (j + 1)) (32256 + 30 * (j + 1)) 13 (lsW (i + 5) v5 v6) [] (hS L 1 I2)) : sJ l G mL_law room_1 Q (124 + 5 * j) (32256 + 30 * j) 193 (lsW i w5 w6) [] (hS L 1 I) := by
  unfold lsW at K ⊢
  refine sJ_R (fun hRg => ?_)
  by_cases hz : I 0 (i + 4) = 0
  · refine sg_W_un_a0 (k := ?_)
    refine sw_s (kk := 3) (as := [.inr (.inl 1), .inl (I 0 (i + 1)), .inl (I 0 (i + 2)), .inl (I 0 (i + 3)), .inl 0, .inr (.inl 124)]) lk_L_unify lm_W_79 (op_un hl hJ (hRg 0 _) (hRg 0 _) (hRg 0 _) (Or.inl rfl)) (fun kq I1 h1 => ?_) (by rfl) (by decide) (by omega) (by omega)
    obtain ⟨e0, hc⟩ := h1
    have hz1 : I1 0 (i + 4) = 0 := by rw [e0]; exact hz
    refine sg_W_un_b0 (k := ?_)
    rw [e0]
    refine sw_v (d2 := 404) (as := [.inl (I 0 (i + 1)), .inl (I 0 (i + 2)), .inl (I 0 (i + 3)), .inl 0]) (rest := []) (y := 84) (cc := 6) lk_M_unify lm_W_82 hc rfl (fun v I2 h2 => ?_) (by rfl) ⟨_, rfl, rfl⟩ (Nat.zero_le _) (by decide) (by omega) (by omega) (by omega)
    obtain ⟨ht, hq, hJ2, -⟩ := h2
    refine sg_W_un_c (k := ?_)
    refine sw_v (d2 := 0) (as := []) (rest := []) (y := 84) (cc := 6) lk_M_thrown lm_W_64 c_R_tq rfl (fun t I3 h3 => ?_) (by rfl) ⟨_, rfl, rfl⟩ (Nat.zero_le _) (by decide) (by omega) (by omega) (by omega)
    obtain ⟨rfl, rfl⟩ := h3
    by_cases hk : kq = 0
    · refine sg_W_un_e (b1 := ht) (b2 := fun h => h hk) (b4 := lc0 (hq hk)) (k := ?_)
      exact sJ_w (by omega) (by omega) (K _ _ _ hJ2)
    · refine sg_W_un_t (b1 := ht) (b2 := hk) (k := ?_)
      exact sJ_w (by omega) (by omega) (K _ _ _ hJ2)
  · refine sg_W_un_a1 (k := ?_)
    refine sw_s (kk := 3) (as := [.inr (.inl 1), .inl (I 0 (i + 1)), .inl (I 0 (i + 2)), .inl (I 0 (i + 3)), .inl 1, .inr (.inl 124)]) lk_L_unify lm_W_79 (op_un hl hJ (hRg 0 _) (hRg 0 _) (hRg 0 _) (Or.inr rfl)) (fun kq I1 h1 => ?_) (by rfl) (by decide) (by omega) (by omega)
    obtain ⟨e0, hc⟩ := h1
    have hz1 : ¬ I1 0 (i + 4) = 0 := by rw [e0]; exact hz
    refine sg_W_un_b1 (k := ?_)
    rw [e0]
    refine sw_v (d2 := 404) (as := [.inl (I 0 (i + 1)), .inl (I 0 (i + 2)), .inl (I 0 (i + 3)), .inl 1]) (rest := []) (y := 84) (cc := 6) lk_M_unify lm_W_82 hc rfl (fun v I2 h2 => ?_) (by rfl) ⟨_, rfl, rfl⟩ (Nat.zero_le _) (by decide) (by omega) (by omega) (by omega)
    obtain ⟨ht, hq, hJ2, -⟩ := h2
    refine sg_W_un_c (k := ?_)
    refine sw_v (d2 := 0) (as := []) (rest := []) (y := 84) (cc := 6) lk_M_thrown lm_W_64 c_R_tq rfl (fun t I3 h3 => ?_) (by rfl) ⟨_, rfl, rfl⟩ (Nat.zero_le _) (by decide) (by omega) (by omega) (by omega)
    obtain ⟨rfl, rfl⟩ := h3
    by_cases hk : kq = 0
    · refine sg_W_un_e (b1 := ht) (b2 := fun h => h hk) (b4 := lc0 (hq hk)) (k := ?_)
      exact sJ_w (by omega) (by omega) (K _ _ _ hJ2)
    · refine sg_W_un_t (b1 := ht) (b2 := hk) (k := ?_)
      exact sJ_w (by omega) (by omega) (K _ _ _ hJ2)
set_option maxRecDepth 100000 in
set_option maxHeartbeats 4000000 in
theorem W_ma (hl : l.stackTraces = false) (hJ : J j I) (hj : j ≤ 512) (hi : 0 ≤ i) (hi5 : i + 5 ≤ L) (hL : L ≤ 2560) (K : ∀ I2 v5 v6, J (j + 1) I2 → sJ l G mL_law room_1 Q (124 + 5 * (j + 1)) (32256 + 30 * (j + 1)) 13 (lsW (i + 5) v5 v6) [] (hS L 1 I2)) : sJ l G mL_law room_1 Q (124 + 5 * j) (32256 + 30 * j) 266 (lsW i w5 w6) [] (hS L 1 I) := by
  unfold lsW at K ⊢
  refine sJ_R (fun hRg => ?_)
  refine sg_W_ma_a (k := ?_)
  refine sw_s (kk := 2) (as := [.inr (.inl 1), .inl (I 0 (i + 1)), .inl (I 0 (i + 2)), .inr (.inl 124)]) lk_L_match lm_W_83 (op_ma hl hJ (hRg 0 _) (hRg 0 _)) (fun kq I1 h1 => ?_) (by rfl) (by decide) (by omega) (by omega)
  obtain ⟨e0, hc⟩ := h1
  refine sg_W_ma_b (k := ?_)
  rw [e0]
  refine sw_v (d2 := 404) (as := [.inl (I 0 (i + 1)), .inl (I 0 (i + 2))]) (rest := []) (y := 84) (cc := 6) lk_M_match lm_W_85 hc rfl (fun v I2 h2 => ?_) (by rfl) ⟨_, rfl, rfl⟩ (Nat.zero_le _) (by decide) (by omega) (by omega) (by omega)
  obtain ⟨ht, hq, hJ2, -⟩ := h2
  refine sg_W_ma_c (k := ?_)
  refine sw_v (d2 := 0) (as := []) (rest := []) (y := 84) (cc := 6) lk_M_thrown lm_W_64 c_R_tq rfl (fun t I3 h3 => ?_) (by rfl) ⟨_, rfl, rfl⟩ (Nat.zero_le _) (by decide) (by omega) (by omega) (by omega)
  obtain ⟨rfl, rfl⟩ := h3
  by_cases hk : kq = 0
  · obtain ⟨hq2, hv01⟩ := hq hk
    by_cases hv0 : v = 0
    · refine sg_W_ma_e0 (b1 := ht) (b2 := fun h => h hk) (b4 := hv0) (b5 := lc0 (hq2.trans hv0)) (k := ?_)
      exact sJ_w (by omega) (by omega) (K _ _ _ hJ2)
    · refine sg_W_ma_e1 (b1 := ht) (b2 := fun h => h hk) (b4 := hv0) (b5 := lc0 (hq2.trans (hv01.resolve_left hv0))) (k := ?_)
      exact sJ_w (by omega) (by omega) (K _ _ _ hJ2)
  · refine sg_W_ma_t (b1 := ht) (b2 := hk) (k := ?_)
    exact sJ_w (by omega) (by omega) (K _ _ _ hJ2)
set_option maxRecDepth 100000 in
set_option maxHeartbeats 4000000 in
theorem W_bo (hl : l.stackTraces = false) (hJ : J j I) (hj : j ≤ 512) (hi : 0 ≤ i) (hi5 : i + 5 ≤ L) (hL : L ≤ 2560) (K : ∀ I2 v5 v6, J (j + 1) I2 → sJ l G mL_law room_1 Q (124 + 5 * (j + 1)) (32256 + 30 * (j + 1)) 13 (lsW (i + 5) v5 v6) [] (hS L 1 I2)) : sJ l G mL_law room_1 Q (124 + 5 * j) (32256 + 30 * j) 314 (lsW i w5 w6) [] (hS L 1 I) := by
  unfold lsW at K ⊢
  refine sJ_R (fun hRg => ?_)
  refine sg_W_bo_a (k := ?_)
  refine sw_s (kk := 2) (as := [.inr (.inl 1), .inl (I 0 (i + 1)), .inl (I 0 (i + 2)), .inr (.inl 124)]) lk_L_bound lm_W_86 (op_bo hl hJ (hRg 0 _) (hRg 0 _)) (fun kq I1 h1 => ?_) (by rfl) (by decide) (by omega) (by omega)
  obtain ⟨e0, hc⟩ := h1
  refine sg_W_bo_b (k := ?_)
  rw [e0]
  refine sw_v (d2 := 404) (as := [.inl (I 0 (i + 1)), .inl (I 0 (i + 2))]) (rest := []) (y := 84) (cc := 6) lk_M_bound lm_W_88 hc rfl (fun v I2 h2 => ?_) (by rfl) ⟨_, rfl, rfl⟩ (Nat.zero_le _) (by decide) (by omega) (by omega) (by omega)
  obtain ⟨ht, hq, hJ2, -⟩ := h2
  refine sg_W_bo_c (k := ?_)
  refine sw_v (d2 := 0) (as := []) (rest := []) (y := 84) (cc := 6) lk_M_thrown lm_W_64 c_R_tq rfl (fun t I3 h3 => ?_) (by rfl) ⟨_, rfl, rfl⟩ (Nat.zero_le _) (by decide) (by omega) (by omega) (by omega)
  obtain ⟨rfl, rfl⟩ := h3
  by_cases hk : kq = 0
  · refine sg_W_bo_e (b1 := ht) (b2 := fun h => h hk) (b4 := lc0 (hq hk)) (k := ?_)
    exact sJ_w (by omega) (by omega) (K _ _ _ hJ2)
  · refine sg_W_bo_t (b1 := ht) (b2 := hk) (k := ?_)
    exact sJ_w (by omega) (by omega) (K _ _ _ hJ2)
set_option maxRecDepth 100000 in
set_option maxHeartbeats 4000000 in
theorem W_rp (hl : l.stackTraces = false) (hJ : J j I) (hj : j ≤ 512) (hi : 0 ≤ i) (hi5 : i + 5 ≤ L) (hL : L ≤ 2560) (K : ∀ I2 v5 v6, J (j + 1) I2 → sJ l G mL_law room_1 Q (124 + 5 * (j + 1)) (32256 + 30 * (j + 1)) 13 (lsW (i + 5) v5 v6) [] (hS L 1 I2)) : sJ l G mL_law room_1 Q (124 + 5 * j) (32256 + 30 * j) 359 (lsW i w5 w6) [] (hS L 1 I) := by
  unfold lsW at K ⊢
  refine sJ_R (fun hRg => ?_)
  refine sg_W_rp_a (k := ?_)
  refine sw_s (kk := 5) (as := [.inr (.inl 1), .inl (I 0 (i + 1)), .inl (I 0 (i + 2)), .inl (I 0 (i + 3)), .inl (I 0 (i + 4)), .inr (.inl 124)]) lk_L_replace lm_W_89 (op_rp hl hJ (hRg 0 _) (hRg 0 _) (hRg 0 _) (hRg 0 _)) (fun kq I1 h1 => ?_) (by rfl) (by decide) (by omega) (by omega)
  obtain ⟨e0, hc⟩ := h1
  refine sg_W_rp_b (k := ?_)
  rw [e0]
  refine sw_v (d2 := 404) (as := [.inl (I 0 (i + 1)), .inl (I 0 (i + 2)), .inl (I 0 (i + 3)), .inl (I 0 (i + 4))]) (rest := []) (y := 84) (cc := 6) lk_M_replace lm_W_92 hc rfl (fun v I2 h2 => ?_) (by rfl) ⟨_, rfl, rfl⟩ (Nat.zero_le _) (by decide) (by omega) (by omega) (by omega)
  obtain ⟨ht, hq, hJ2, -⟩ := h2
  refine sg_W_rp_c (k := ?_)
  refine sw_v (d2 := 0) (as := []) (rest := []) (y := 84) (cc := 6) lk_M_thrown lm_W_64 c_R_tq rfl (fun t I3 h3 => ?_) (by rfl) ⟨_, rfl, rfl⟩ (Nat.zero_le _) (by decide) (by omega) (by omega) (by omega)
  obtain ⟨rfl, rfl⟩ := h3
  by_cases hk : kq = 0
  · refine sg_W_rp_e (b1 := ht) (b2 := fun h => h hk) (b4 := lc0 (hq hk)) (k := ?_)
    exact sJ_w (by omega) (by omega) (K _ _ _ hJ2)
  · refine sg_W_rp_t (b1 := ht) (b2 := hk) (k := ?_)
    exact sJ_w (by omega) (by omega) (K _ _ _ hJ2)
set_option maxRecDepth 100000 in
set_option maxHeartbeats 4000000 in
theorem W_rw (hl : l.stackTraces = false) (hJ : J j I) (hj : j ≤ 512) (hi : 0 ≤ i) (hi5 : i + 5 ≤ L) (hL : L ≤ 2560) (K : ∀ I2 v5 v6, J (j + 1) I2 → sJ l G mL_law room_1 Q (124 + 5 * (j + 1)) (32256 + 30 * (j + 1)) 13 (lsW (i + 5) v5 v6) [] (hS L 1 I2)) : sJ l G mL_law room_1 Q (124 + 5 * j) (32256 + 30 * j) 424 (lsW i w5 w6) [] (hS L 1 I) := by
  unfold lsW at K ⊢
  refine sJ_R (fun hRg => ?_)
  refine sg_W_rw_a (k := ?_)
  refine sw_s (kk := 4) (as := [.inr (.inl 1), .inl (I 0 (i + 1)), .inl (I 0 (i + 2)), .inl (I 0 (i + 3)), .inl (I 0 (i + 4)), .inr (.inl 124)]) lk_L_rewrite lm_W_93 (op_rw hl hJ (by omega) (hRg 0 _) (hRg 0 _) (hRg 0 _) (hRg 0 _)) (fun kq I1 h1 => ?_) (by rfl) (by decide) (by omega) (by omega)
  obtain ⟨e0, hc⟩ := h1
  refine sg_W_rw_b (k := ?_)
  rw [e0]
  refine sw_v (d2 := 404) (as := [.inl (I 0 (i + 1)), .inl (I 0 (i + 2)), .inl (I 0 (i + 3)), .inl (I 0 (i + 4))]) (rest := []) (y := 84) (cc := 6) lk_M_rewrite lm_W_95 hc rfl (fun v I2 h2 => ?_) (by rfl) ⟨_, rfl, rfl⟩ (Nat.zero_le _) (by decide) (by omega) (by omega) (by omega)
  obtain ⟨ht, hq, hJ2, -⟩ := h2
  refine sg_W_rw_c (k := ?_)
  refine sw_v (d2 := 0) (as := []) (rest := []) (y := 84) (cc := 6) lk_M_thrown lm_W_64 c_R_tq rfl (fun t I3 h3 => ?_) (by rfl) ⟨_, rfl, rfl⟩ (Nat.zero_le _) (by decide) (by omega) (by omega) (by omega)
  obtain ⟨rfl, rfl⟩ := h3
  by_cases hk : kq = 0
  · refine sg_W_rw_e (b1 := ht) (b2 := fun h => h hk) (b4 := lc0 (hq hk)) (k := ?_)
    exact sJ_w (by omega) (by omega) (K _ _ _ hJ2)
  · refine sg_W_rw_t (b1 := ht) (b2 := hk) (k := ?_)
    exact sJ_w (by omega) (by omega) (K _ _ _ hJ2)
set_option maxRecDepth 100000 in
set_option maxHeartbeats 4000000 in
theorem W_co (hl : l.stackTraces = false) (hJ : J j I) (hj : j ≤ 512) (hi : 0 ≤ i) (hi5 : i + 5 ≤ L) (hL : L ≤ 2560) (K : ∀ I2 v5 v6, J (j + 1) I2 → sJ l G mL_law room_1 Q (124 + 5 * (j + 1)) (32256 + 30 * (j + 1)) 13 (lsW (i + 5) v5 v6) [] (hS L 1 I2)) : sJ l G mL_law room_1 Q (124 + 5 * j) (32256 + 30 * j) 489 (lsW i w5 w6) [] (hS L 1 I) := by
  unfold lsW at K ⊢
  refine sJ_R (fun hRg => ?_)
  refine sg_W_co_a (k := ?_)
  refine sw_s (kk := 2) (as := [.inr (.inl 1), .inl (I 0 (i + 1)), .inl (I 0 (i + 2)), .inr (.inl 124)]) lk_L_code lm_W_96 (op_co hl hJ (hRg 0 _) (hRg 0 _)) (fun kq I1 h1 => ?_) (by rfl) (by decide) (by omega) (by omega)
  obtain ⟨e0, hc⟩ := h1
  refine sg_W_co_b (k := ?_)
  rw [e0]
  refine sw_v (d2 := 404) (as := [.inl (I 0 (i + 1)), .inl (I 0 (i + 2))]) (rest := []) (y := 84) (cc := 6) lk_M_code lm_W_98 hc rfl (fun v I2 h2 => ?_) (by rfl) ⟨_, rfl, rfl⟩ (Nat.zero_le _) (by decide) (by omega) (by omega) (by omega)
  obtain ⟨ht, hq, hJ2, -⟩ := h2
  refine sg_W_co_c (k := ?_)
  refine sw_v (d2 := 0) (as := []) (rest := []) (y := 84) (cc := 6) lk_M_thrown lm_W_64 c_R_tq rfl (fun t I3 h3 => ?_) (by rfl) ⟨_, rfl, rfl⟩ (Nat.zero_le _) (by decide) (by omega) (by omega) (by omega)
  obtain ⟨rfl, rfl⟩ := h3
  by_cases hk : kq = 0
  · refine sg_W_co_e (b1 := ht) (b2 := fun h => h hk) (b4 := lc0 (hq hk)) (k := ?_)
    exact sJ_w (by omega) (by omega) (K _ _ _ hJ2)
  · refine sg_W_co_t (b1 := ht) (b2 := hk) (k := ?_)
    exact sJ_w (by omega) (by omega) (K _ _ _ hJ2)
set_option maxRecDepth 100000 in
set_option maxHeartbeats 4000000 in
theorem W_to (hl : l.stackTraces = false) (hJ : J j I) (hj : j ≤ 512) (hi : 0 ≤ i) (hi5 : i + 5 ≤ L) (hL : L ≤ 2560) (K : ∀ I2 v5 v6, J (j + 1) I2 → sJ l G mL_law room_1 Q (124 + 5 * (j + 1)) (32256 + 30 * (j + 1)) 13 (lsW (i + 5) v5 v6) [] (hS L 1 I2)) : sJ l G mL_law room_1 Q (124 + 5 * j) (32256 + 30 * j) 534 (lsW i w5 w6) [] (hS L 1 I) := by
  unfold lsW at K ⊢
  refine sJ_R (fun hRg => ?_)
  refine sg_W_to_a (k := ?_)
  refine sw_s (kk := 2) (as := [.inr (.inl 1), .inl (I 0 (i + 1)), .inl (I 0 (i + 2)), .inr (.inl 124)]) lk_L_told lm_W_99 (op_to hl hJ (hRg 0 _) (hRg 0 _)) (fun kq I1 h1 => ?_) (by rfl) (by decide) (by omega) (by omega)
  obtain ⟨e0, hc⟩ := h1
  refine sg_W_to_b (k := ?_)
  rw [e0]
  refine sw_v (d2 := 404) (as := [.inl (I 0 (i + 1)), .inl (I 0 (i + 2))]) (rest := []) (y := 84) (cc := 6) lk_M_told lm_W_101 hc rfl (fun v I2 h2 => ?_) (by rfl) ⟨_, rfl, rfl⟩ (Nat.zero_le _) (by decide) (by omega) (by omega) (by omega)
  obtain ⟨ht, hq, hJ2, -⟩ := h2
  refine sg_W_to_c (k := ?_)
  refine sw_v (d2 := 0) (as := []) (rest := []) (y := 84) (cc := 6) lk_M_thrown lm_W_64 c_R_tq rfl (fun t I3 h3 => ?_) (by rfl) ⟨_, rfl, rfl⟩ (Nat.zero_le _) (by decide) (by omega) (by omega) (by omega)
  obtain ⟨rfl, rfl⟩ := h3
  by_cases hk : kq = 0
  · refine sg_W_to_e (b1 := ht) (b2 := fun h => h hk) (b4 := lc0 (hq hk)) (k := ?_)
    exact sJ_w (by omega) (by omega) (K _ _ _ hJ2)
  · refine sg_W_to_t (b1 := ht) (b2 := hk) (k := ?_)
    exact sJ_w (by omega) (by omega) (K _ _ _ hJ2)
set_option maxRecDepth 100000 in
set_option maxHeartbeats 4000000 in
theorem W_ct (hJ : J j I) (hj : j ≤ 512) (hi : 0 ≤ i) (hi5 : i + 5 ≤ L) (hL : L ≤ 2560) (K : ∀ I2 v5 v6, J (j + 1) I2 → sJ l G mL_law room_1 Q (124 + 5 * (j + 1)) (32256 + 30 * (j + 1)) 13 (lsW (i + 5) v5 v6) [] (hS L 1 I2)) : sJ l G mL_law room_1 Q (124 + 5 * j) (32256 + 30 * j) 579 (lsW i w5 w6) [] (hS L 1 I) := by
  unfold lsW at K ⊢
  refine sJ_R (fun hRg => ?_)
  obtain ⟨u, c1, c2⟩ := op_ct (l := l) (G := G) (L := L) hJ (hRg 0 (i + 1))
  refine sg_W_ct_a (k := ?_)
  refine sw_v (P := fun t I' => t = u ∧ I' = I) (d2 := 8) (as := [.inl (I 0 (i + 1))]) (rest := []) (y := 1) (cc := 0) lk_B_count lm_W_102 (sCall_mono c1 (fun r S' h => ⟨_, _, h.1, h.2, rfl, rfl⟩)) rfl (fun v I2 h2 => ?_) (by rfl) ⟨_, rfl, rfl⟩ (Nat.zero_le _) (by decide) (by omega) (by omega) (by omega)
  obtain ⟨rfl, rfl⟩ := h2
  refine sg_W_ct_b (k := ?_)
  refine sw_v (d2 := 8) (as := [.inl (I2 0 (i + 1))]) (rest := [.inl _]) (y := 84) (cc := 6) lk_M_count lm_W_105 c2 rfl (fun v2 I3 h3 => ?_) (by rfl) ⟨_, rfl, rfl⟩ (by show 1 ≤ 8; decide) (by decide) (by omega) (by omega) (by omega)
  obtain ⟨hv, hJ2, -⟩ := h3
  refine sg_W_ct_e (b1 := hv.symm) (k := ?_)
  exact sJ_w (by omega) (by omega) (K _ _ _ hJ2)
end LWO
