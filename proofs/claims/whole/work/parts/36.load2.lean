/-! Unifier: load, the code -/
section CL
variable {l : Launch} {G : sG} {L x d : Nat} {I : sI}
theorem c_U_lo {t : Nat} {fr vf : Int} {cs : List Int} (ht : hT t) (hm : tw I t cs) (c6 : ∀ c ∈ cs, -6 ≤ c) (hfr : fr = 0 ∨ fr = 100) (hvf : vf = 0 ∨ vf = 6) :
    sCall l G mU_loadOne (sRm d 0) [.inr (.inl 75), .inr (.inl t), .inl fr, .inl vf] (hS L x I) (qF L x (fun I' => (∀ z, z ≠ 76 → z ≠ 77 → I' z = I z) ∧ (∀ k, k < fr ∨ fr + 100 ≤ k → I' 76 k = I 76 k ∧ I' 77 k = I 77 k) ∧ ld I' fr (cs.map (shv vf)))) := by
  refine sCall_of (by decide) (Nat.le_of_ble_eq_true rfl) (sV1s_c trivial (sV1s_c trivial (sV1s_c (sV1_i (by omega) (by omega)) (sV1s_c (sV1_i (by omega) (by omega)) sV1s_n)))) rfl ?_
  show sJ l G mU_loadOne (sRm d 0) _ 0 (6 * 0) 0 [some (.inr (.inl 75)), some (.inr (.inl t)), some (.inl fr), some (.inl vf), none, none] [] (hSh L, hRF, I, x)
  have hl1 := hT_lt ht
  have h100 := hm.1.2.1
  have loop : ∀ (n p : Nat) (oA : Option sV) (I' : sI), n = cs.length - p → p ≤ cs.length → (∀ z, z ≠ 76 → z ≠ 77 → I' z = I z) → (∀ k, k < fr ∨ fr + 100 ≤ k → I' 76 k = I 76 k ∧ I' 77 k = I 77 k) → (∀ j : Nat, (h : j < cs.length) → j < p → I' 76 (fr + j) = shv vf cs[j] ∧ I' 77 (fr + j) = fr + (j + f_tk (hArt I) 1 (cs.drop j))) →
      sJ l G mU_loadOne (sRm d 0) (qF L x (fun I' => (∀ z, z ≠ 76 → z ≠ 77 → I' z = I z) ∧ (∀ k, k < fr ∨ fr + 100 ≤ k → I' 76 k = I 76 k ∧ I' 77 k = I 77 k) ∧ ld I' fr (cs.map (shv vf)))) 0 (6 * 0) 2 [some (.inr (.inl 75)), some (.inr (.inl t)), some (.inl fr), some (.inl vf), some (.inl p), oA] [] (hSh L, hRF, I', x) := by
    intro n
    induction n with
    | zero =>
      intro p oA I' hn hp hI hk hd
      have : p = cs.length := by omega
      subst this
      have e0 : I' t 2 = cs.length := by rw [hI t (by omega) (by omega)]; exact hm.1.1
      refine sg_U_lo_x (k := ?_)
      refine sc_retV ct_U_loadOne ⟨_, rfl, rfl, hI, hk, fun j hj => ?_⟩
      have har : hArt I' = hArt I := hArt_eq (hI 3 (by omega) (by omega))
      rw [List.length_map] at hj
      rw [List.getElem_map, har, ← List.map_drop, f_tk_map _ _ (hArt_shv I vf (by omega))]
      have := hd j hj hj
      exact ⟨this.1, by rw [this.2]; omega⟩
    | succ n ih =>
      intro p oA I' hn hp hI hk hd
      have hpl : p < cs.length := by omega
      have e0 : I' t 2 = cs.length := by rw [hI t (by omega) (by omega)]; exact hm.1.1
      have e1 : I' (t + 1) p = cs[p] := by rw [hI (t + 1) (by omega) (by omega)]; exact hm.1.2.2.1 p hpl
      have e2 : I' (t + 2) p = p + f_tk (hArt I) 1 (cs.drop p) := by rw [hI (t + 2) (by omega) (by omega)]; exact hm.2.1 p hpl
      have hpos := f_s_pos (hArt I) hm.2.2 hpl
      have hc6 := c6 _ (List.getElem_mem hpl)
      have hc40 := hm.1.2.2.2 _ (List.getElem_mem hpl)
      have step : ∀ v : Int, v = shv vf cs[p] → sJ l G mU_loadOne (sRm d 0) (qF L x (fun I' => (∀ z, z ≠ 76 → z ≠ 77 → I' z = I z) ∧ (∀ k, k < fr ∨ fr + 100 ≤ k → I' 76 k = I 76 k ∧ I' 77 k = I 77 k) ∧ ld I' fr (cs.map (shv vf)))) 0 (6 * 0) 2 [some (.inr (.inl 75)), some (.inr (.inl t)), some (.inl fr), some (.inl vf), some (.inl (p + 1)), some (.inl (I' (t + 1) p))] [] (hSh L, hRF, sU (sU I' 76 (fr + p) v) 77 (fr + p) (fr + I' (t + 2) p), x) := by
        intro v hv
        refine ih (p + 1) _ _ (by omega) (by omega) (fun z z1 z2 => by rw [sU_ne z2, sU_ne z1]; exact hI z z1 z2) (fun k hkk => ?_) (fun j hj hjp => ?_)
        · rw [hU_ne (by omega), hU_nj (by omega), hU_nj (by omega), hU_ne (by omega)]
          exact hk k hkk
        · by_cases hjj : j = p
          · subst hjj
            rw [hU_ne (by omega), hU_eq, hU_eq, e2]
            exact ⟨hv, rfl⟩
          · rw [hU_ne (by omega), hU_nj (by omega), hU_nj (by omega), hU_ne (by omega)]
            exact hd j hj (by omega)
      by_cases hcn : cs[p] < 0
      · refine sg_U_lo_n (k := ?_)
        exact step _ (by rw [e1]; unfold shv; rw [if_pos hcn])
      · refine sg_U_lo_p (k := ?_)
        exact step _ (by rw [e1]; unfold shv; rw [if_neg hcn])
  refine sg_U_lo_0 (k := ?_)
  exact loop cs.length 0 none I rfl (Nat.zero_le _) (fun _ _ _ => rfl) (fun _ _ => ⟨rfl, rfl⟩) (fun j _ hj => by omega)
/-- what the cells of the unifier are once two terms are loaded -/
def uLd (I I' : sI) (sa tb : List Int) : Prop := (∀ z, z < 75 ∨ 81 < z → I' z = I z) ∧ uF I' (uV sa tb) (uT (hArt I) sa tb) ∧ (∀ n, 0 ≤ n → n < 212 → I' 78 n = n ∧ I' 79 n = if n < 200 then n else -1) ∧ uQ I' [(0, 100)]
theorem c_U_ld {s t : Nat} {ap : Int} {as bs : List Int} (hs : hT s) (ht : hT t) (hm : tw I s as) (hm' : tw I t bs) (c6 : ∀ c ∈ as, -6 ≤ c) (c6' : ∀ c ∈ bs, -6 ≤ c) (hap : ap = 0 ∨ ap = 1) :
    sCall l G mU_load (sRm (d + 1) 0) [.inr (.inl 75), .inr (.inl s), .inr (.inl t), .inl ap] (hS L x I) (qF L x (fun I' => uLd I I' as (bs.map (shv (if ap = 0 then 0 else 6))))) := by
  refine sCall_of (by decide) (Nat.le_of_ble_eq_true rfl) (sV1s_c trivial (sV1s_c trivial (sV1s_c trivial (sV1s_c (sV1_i (by omega) (by omega)) sV1s_n)))) rfl ?_
  show sJ l G mU_load (sRm (d + 1) 0) _ 0 (6 * 0) 0 [some (.inr (.inl 75)), some (.inr (.inl s)), some (.inr (.inl t)), some (.inl ap), none] [] (hSh L, hRF, I, x)
  have hl1 := hT_lt hs
  have hl2 := hT_lt ht
  have e00 : as.map (shv 0) = as := by
    conv => rhs; rw [← List.map_id as]
    refine List.map_congr_left (fun c _ => ?_)
    unfold shv
    split <;> simp
  -- from the second load on
  have rest : ∀ (vf : Int) (I1 : sI), vf = (if ap = 0 then 0 else 6) → (∀ z, z ≠ 76 → z ≠ 77 → I1 z = I z) → ld I1 0 as → sJ l G mU_load (sRm (d + 1) 0) (qF L x (fun I' => uLd I I' as (bs.map (shv (if ap = 0 then 0 else 6))))) 0 (6 * 0) 13 [some (.inr (.inl 75)), some (.inr (.inl s)), some (.inr (.inl t)), some (.inl ap), none] [.inl vf, .inl 100, .inr (.inl t), .inr (.inl 75)] (hSh L, hRF, I1, x) := by
    intro vf I1 hvf hI1 hld1
    have hvf2 : vf = 0 ∨ vf = 6 := by split at hvf <;> omega
    rw [← hvf]
    have hm1 : tw I1 t bs := tw_upd hm' (hI1 _ (by omega) (by omega)) (hI1 _ (by omega) (by omega)) (hI1 _ (by omega) (by omega)) (hI1 _ (by omega) (by omega))
    have har1 : hArt I1 = hArt I := hArt_eq (hI1 3 (by omega) (by omega))
    refine sc_vF (as := [.inr (.inl _), .inl _, .inl _]) (rest := []) (cc := 5) ct_U_load lk_U_loadOne lm_U_lo_36 (c_U_lo (d := d) ht hm1 c6' (Or.inr rfl) hvf2) rfl (fun I2 hI2 => ?_)
    obtain ⟨hI2, hk2, hld2⟩ := hI2
    have har2 : hArt I2 = hArt I := by rw [hArt_eq (hI2 3 (by omega) (by omega)), har1]
    have hld1' : ld I2 0 as := fun p hp => by
      have h100 := hm.1.2.1
      have := hk2 (0 + p) (by omega)
      rw [this.1, this.2, har2, ← har1]
      exact hld1 p hp
    have hF2 : uF I2 (uV as (bs.map (shv vf))) (uT (hArt I2) as (bs.map (shv vf))) := by
      refine uF_of hld1' hld2 (by rw [har2]; exact hm.2.2) (by rw [har2]; exact f_wf_map _ _ (hArt_shv I vf (by omega)) _ _ hm'.2.2) hm.1.2.1 (by rw [List.length_map]; exact hm'.1.2.1) hm.1.2.2.2 (fun c hc => ?_)
      obtain ⟨b, hb, rfl⟩ := List.mem_map.mp hc
      have h1 := c6' b hb
      have h2 := hm'.1.2.2.2 b hb
      unfold shv
      split <;> omega
    rw [har2] at hF2
    refine sg_U_ld_1 (k := ?_)
    have loop : ∀ (m : Nat) (n : Int) (I3 : sI), m = (212 - n).toNat → 0 ≤ n → n ≤ 212 → (∀ z, z ≠ 78 → z ≠ 79 → I3 z = I2 z) → (∀ k, 0 ≤ k → k < n → I3 78 k = k ∧ I3 79 k = if k < 200 then k else -1) → sJ l G mU_load (sRm (d + 1) 0) (qF L x (fun I' => uLd I I' as (bs.map (shv vf)))) 0 (6 * 0) 16 [some (.inr (.inl 75)), some (.inr (.inl s)), some (.inr (.inl t)), some (.inl ap), some (.inl n)] [] (hSh L, hRF, I3, x) := by
      intro m
      induction m with
      | zero =>
        intro n I3 hm3 n0 n1 hI3 hk3
        have : n = 212 := by omega
        subst this
        refine sg_U_ld_x (k := ?_)
        have hQ0 : uQ (sU I3 75 6 0) [] := ⟨by rw [sU_self]; rfl, Nat.zero_le _, fun k hk => by cases hk⟩
        refine sc_vF (as := [.inl _, .inl _]) (rest := []) (cc := 5) ct_U_load lk_U_addPair lm_U_ap_44 (c_U_ap (d := d) (by omega) (by omega) hQ0 (by simp)) rfl (fun I4 hI4 => ?_)
        obtain ⟨hI4, hQ4⟩ := hI4
        have hz : ∀ z, z ≠ 75 → z ≠ 78 → z ≠ 79 → z ≠ 80 → z ≠ 81 → I4 z = I2 z := fun z z1 z2 z3 z4 z5 => by rw [hI4 z z1 z4 z5, sU_ne z1, hI3 z z2 z3]
        refine sc_retV ct_U_load ⟨_, rfl, rfl, fun z hz2 => ?_, ?_, fun n n0 n1 => ?_, hQ4⟩
        · rw [hz z (by omega) (by omega) (by omega) (by omega) (by omega), hI2 z (by omega) (by omega), hI1 z (by omega) (by omega)]
        · exact uF_upd hF2 (hz 3 (by omega) (by omega) (by omega) (by omega) (by omega)) (hz 76 (by omega) (by omega) (by omega) (by omega) (by omega)) (hz 77 (by omega) (by omega) (by omega) (by omega) (by omega))
        · rw [hI4 78 (by omega) (by omega) (by omega), hI4 79 (by omega) (by omega) (by omega), sU_ne (by omega), sU_ne (by omega)]
          exact hk3 n n0 n1
      | succ m ih =>
        intro n I3 hm3 n0 n1 hI3 hk3
        have step : ∀ v : Int, v = (if n < 200 then n else -1) → sJ l G mU_load (sRm (d + 1) 0) (qF L x (fun I' => uLd I I' as (bs.map (shv vf)))) 0 (6 * 0) 16 [some (.inr (.inl 75)), some (.inr (.inl s)), some (.inr (.inl t)), some (.inl ap), some (.inl (n + 1))] [] (hSh L, hRF, sU (sU I3 78 n n) 79 n v, x) := fun v hv => by
          refine ih (n + 1) _ (by omega) (by omega) (by omega) (fun z z1 z2 => by rw [sU_ne z2, sU_ne z1]; exact hI3 z z1 z2) (fun k k0 k1 => ?_)
          by_cases hkn : k = n
          · subst hkn
            rw [hU_ne (by omega), hU_eq, hU_eq]
            exact ⟨rfl, hv⟩
          · rw [hU_ne (by omega), hU_nj (by omega), hU_nj (by omega), hU_ne (by omega)]
            exact hk3 k k0 (by omega)
        by_cases hn2 : n < 200
        · refine sg_U_ld_p (k := ?_)
          exact step _ (by rw [if_pos hn2])
        · refine sg_U_ld_v (k := ?_)
          exact step _ (by rw [if_neg hn2])
    exact loop 212 0 I2 rfl (by omega) (by omega) (fun _ _ _ => rfl) (fun k k0 k1 => by omega)
  refine sg_U_ld_0 (k := ?_)
  refine sc_vF (as := [.inr (.inl _), .inl _, .inl _]) (rest := []) (cc := 5) ct_U_load lk_U_loadOne lm_U_lo_36 (c_U_lo (d := d) hs hm c6 (Or.inl rfl) (Or.inl rfl)) rfl (fun I1 hI1 => ?_)
  obtain ⟨hI1, -, hld1⟩ := hI1
  rw [e00] at hld1
  rcases hap with rfl | rfl
  · refine sg_U_ld_b (k := ?_)
    exact rest 0 I1 (by rw [if_pos rfl]) hI1 hld1
  · refine sg_U_ld_a (k := ?_)
    exact rest 6 I1 (by rw [if_neg (by omega)]) hI1 hld1
end CL
