/-! the reference: put, keep, code, bound -/
section CR12
variable {l : Launch} {G : sG} {L x d : Nat} {I : sI} {ar : Int → Nat} {pr : Int → Bool} {ns : Int} {rw : List Int} {lk nr mo : Int} {sl lv : Int → List Int}
theorem rS_row {I1 : sI} (h : rS I1 ar pr ns rw lk nr mo sl lv) {I2 : sI} {rw2 : List Int} {lk2 : Int} (hw : ∀ w, w ≠ 84 → w ≠ 86 → I2 w = I1 w) (h84 : ∀ j, 1 ≤ j → j ≤ 12 → j ≠ 2 → j ≠ 3 → I2 84 j = I1 84 j) (hr : rL I2 86 (I2 84 2) rw2) (hl : I2 84 3 = lk2) : rS I2 ar pr ns rw2 lk2 nr mo sl lv := by
  obtain ⟨y1, y2, y3, y4, y5, y6, y7, y8, y9⟩ := h
  refine ⟨by rw [h84 1 (by omega) (by omega) (by omega) (by omega)]; exact y1, ⟨y2.1, fun e g1 g2 => by rw [hw 85 (by omega) (by omega)]; exact y2.2 e g1 g2⟩, ⟨y3.1, fun e g1 g2 => by rw [hw 87 (by omega) (by omega)]; exact y3.2 e g1 g2⟩, hr, hl, by rw [h84 4 (by omega) (by omega) (by omega) (by omega)]; exact y6, by rw [h84 12 (by omega) (by omega) (by omega) (by omega)]; exact y7, fun q hq => ?_, fun v g1 g2 => ?_⟩
  · have hb := hq
    unfold okS at hb
    unfold rL
    rw [hw 105 (by omega) (by omega), hw (89 + q.toNat) (by omega) (by omega)]
    exact y8 q hq
  · unfold rL
    rw [hw 113 (by omega) (by omega), hw (107 + v.toNat) (by omega) (by omega)]
    exact y9 v g1 g2
theorem c_R_pu (hR : rS I ar pr ns rw lk nr mo sl lv) (hns : 0 ≤ ns ∧ ns ≤ 40) (hrw : rw.length ≤ 100) (hlk : 0 ≤ lk ∧ lk ≤ 100) {c : Int} (hc : sR c) :
    sCall l G mM_put (sRm (d + 1) 0) [.inr (.inl 84), .inl c] (hS L x I) (qE L x (fun r I' => fR I I' ∧ ((I' 84 0 = 1 ∧ ¬ (-6 ≤ c ∧ c < ns) ∧ rS I' ar pr ns rw lk nr mo sl lv) ∨ (I' 84 0 = 2 ∧ (-6 ≤ c ∧ c < ns) ∧ (lk = 0 ∨ 100 < rw.length + lk + ar c) ∧ rS I' ar pr ns rw lk nr mo sl lv) ∨ (I' 84 0 = 0 ∧ (-6 ≤ c ∧ c < ns) ∧ lk ≠ 0 ∧ rw.length + lk + ar c ≤ 100 ∧ r = lk - 1 + ar c ∧ rS I' ar pr ns (rw ++ [c]) (lk - 1 + ar c) nr mo sl lv)))) := by
  refine sCall_of (by decide) (Nat.le_of_ble_eq_true rfl) (sV1s_c trivial (sV1s_c hc sV1s_n)) rfl ?_
  generalize hQ : (qE L x (fun r I' => fR I I' ∧ ((I' 84 0 = 1 ∧ ¬ (-6 ≤ c ∧ c < ns) ∧ rS I' ar pr ns rw lk nr mo sl lv) ∨ (I' 84 0 = 2 ∧ (-6 ≤ c ∧ c < ns) ∧ (lk = 0 ∨ 100 < rw.length + lk + ar c) ∧ rS I' ar pr ns rw lk nr mo sl lv) ∨ (I' 84 0 = 0 ∧ (-6 ≤ c ∧ c < ns) ∧ lk ≠ 0 ∧ rw.length + lk + ar c ≤ 100 ∧ r = lk - 1 + ar c ∧ rS I' ar pr ns (rw ++ [c]) (lk - 1 + ar c) nr mo sl lv)))) = Q
  show sJ l G mM_put (sRm (d + 1) 0) Q 0 (6 * 0) 0 [some (.inr (.inl 84)), some (.inl c)] [] (hSh L, hRF, I, x)
  have h1 := hR.1
  have bad : ¬ (-6 ≤ c ∧ c < ns) → sJ l G mM_put (sRm (d + 1) 0) Q 0 (6 * 0) 15 [some (.inr (.inl 84)), some (.inl c)] [.inl 1, .inl 1, .inr (.inl 84)] (hSh L, hRF, sU I 84 0 0, x) := by
    intro hok
    refine sc_vI (as := [.inl _, .inl _]) (rest := []) (cc := 6) ct_M_put lk_M_refuse lm_M_99 (c_R_re (d := d) (by unfold sR; omega) (Or.inr rfl)) rfl ?_
    rw [if_neg (by omega), sU_sU]
    refine sg_R_pu_r (k := ?_)
    rw [← hQ]
    exact sc_ret ct_M_put ⟨_, _, rfl, rfl, scF_R (scF_0 I 1), Or.inl ⟨hU_eq _ _ _ _, hok, rS_upd hR (scF_0 I 1)⟩⟩
  have e1 : sU I 84 0 0 84 1 = ns := by rw [hU_nj (by omega)]; exact h1
  by_cases h0 : c < -6
  · refine sg_R_pu_a (k := ?_)
    exact bad (by omega)
  · by_cases h5 : ns ≤ c
    · refine sg_R_pu_b (k := ?_)
      exact bad (by omega)
    · refine sg_R_pu_o (k := ?_)
      refine sc_vI (as := [.inl _, .inl _]) (rest := []) (cc := 6) ct_M_put lk_M_refuse lm_M_99 (c_R_re (d := d) (by unfold sR; omega) (Or.inl rfl)) rfl ?_
      rw [if_pos rfl]
      generalize hI1 : sU I 84 0 0 = I1 at e1 ⊢
      have R1 : rS I1 ar pr ns rw lk nr mo sl lv := by rw [← hI1]; exact rS_upd hR (scF_0 I 0)
      have F1 : fR I I1 := by rw [← hI1]; exact scF_R (scF_0 I 0)
      have z1 : I1 84 0 = 0 := by rw [← hI1, hU_eq]
      obtain ⟨y1, y2, y3, y4, y5, y6, y7, y8, y9⟩ := id R1
      have e2 : I1 84 2 = rw.length := y4.1
      have full : (lk = 0 ∨ 100 < rw.length + lk + ar c) → sJ l G mM_put (sRm (d + 1) 0) Q (0 + 0) (6 * (0 + 0)) 41 [some (.inr (.inl 84)), some (.inl c)] [.inl 1, .inl 2, .inr (.inl 84)] (hSh L, hRF, I1, x) := by
        intro hf
        refine sc_vI (as := [.inl _, .inl _]) (rest := []) (cc := 6) ct_M_put lk_M_refuse lm_M_99 (c_R_re (d := d) (by unfold sR; omega) (Or.inr rfl)) rfl ?_
        rw [if_neg (by omega)]
        refine sg_R_pu_t (k := ?_)
        rw [← hQ]
        exact sc_ret ct_M_put ⟨_, _, rfl, rfl, fun w g => by rw [sU_ne (by omega)]; exact F1 w g, Or.inr (Or.inl ⟨hU_eq _ _ _ _, ⟨by omega, by omega⟩, hf, rS_upd R1 (scF_0 I1 2)⟩)⟩
      have done : ∀ I2 : sI, (∀ w, w ≠ 84 → w ≠ 86 → I2 w = I1 w) → (∀ j, j ≠ 2 → j ≠ 3 → I2 84 j = I1 84 j) → I2 84 2 = rw.length + 1 → (∀ k : Int, k ≠ rw.length → I2 86 k = I1 86 k) → I2 86 rw.length = c → I2 84 3 = lk - 1 + ar c → lk ≠ 0 → rw.length + lk + ar c ≤ 100 → Q (.inl (some (.inl (lk - 1 + ar c)))) (hS L x I2) := by
        intro I2 a1 a2 a3 a4 a5 a6 a7 a8
        rw [← hQ]
        refine ⟨_, _, rfl, rfl, fun w g => by rw [a1 w (by omega) (by omega)]; exact F1 w g, Or.inr (Or.inr ⟨by rw [a2 0 (by omega) (by omega)]; exact z1, ⟨by omega, by omega⟩, a7, a8, rfl, rS_row R1 a1 (fun j _ _ g1 g2 => a2 j g1 g2) ⟨by rw [a3, List.length_append, List.length_singleton]; rfl, fun k hk => ?_⟩ a6⟩)⟩
        rw [List.length_append, List.length_singleton] at hk
        by_cases hkr : k = rw.length
        · subst hkr
          rw [a5, List.getElem_append_right (Nat.le_refl _)]
          simp
        · rw [a4 k (by omega), y4.2 k (by omega), List.getElem_append_left (by omega)]
      by_cases hz : lk = 0
      · refine sg_R_pu_z (k := ?_)
        exact full (Or.inl hz)
      · by_cases hv : c < 0
        · have h0c : ar c = 0 := y2.1 c hv
          by_cases hbig : 100 < (rw.length : Int) + lk
          · refine sg_R_pu_vh (k := ?_)
            exact full (Or.inr (by omega))
          · refine sg_R_pu_vo (k := ?_)
            refine sc_vI (as := [.inl _, .inl _]) (rest := []) (cc := 6) ct_M_put lk_M_refuse lm_M_99 (c_R_re (d := d) (by unfold sR; omega) (Or.inl rfl)) rfl ?_
            rw [if_pos rfl]
            refine sg_R_pu_kv (k := ?_)
            rw [e2, show lk + -1 = lk - 1 + ar c by omega]
            refine sc_ret ct_M_put (done _ (fun w g1 g2 => by rw [sU_ne g1, sU_ne g2, sU_ne g1]) (fun j g1 g2 => by rw [hU_nj g2, sU_ne (by omega), hU_nj g1]) (by rw [hU_nj (by omega), sU_ne (by omega), hU_eq]) (fun k g1 => by rw [sU_ne (by omega), hU_nj g1, sU_ne (by omega)]) (by rw [sU_ne (by omega), hU_eq]) (by rw [hU_eq]) hz (by omega))
        · obtain ⟨q1, q2⟩ := y2.2 c (by omega) (by omega)
          by_cases hbig : 100 < (rw.length : Int) + lk + ar c
          · refine sg_R_pu_sh (k := ?_)
            exact full (Or.inr (by omega))
          · refine sg_R_pu_so (k := ?_)
            refine sc_vI (as := [.inl _, .inl _]) (rest := []) (cc := 6) ct_M_put lk_M_refuse lm_M_99 (c_R_re (d := d) (by unfold sR; omega) (Or.inl rfl)) rfl ?_
            rw [if_pos rfl]
            refine sg_R_pu_ks (k := ?_)
            rw [e2, show lk + ((ar c : Int) - 1) = lk - 1 + ar c by omega]
            refine sc_ret ct_M_put (done _ (fun w g1 g2 => by rw [sU_ne g1, sU_ne g2, sU_ne g1]) (fun j g1 g2 => by rw [hU_nj g2, sU_ne (by omega), hU_nj g1]) (by rw [hU_nj (by omega), sU_ne (by omega), hU_eq]) (fun k g1 => by rw [sU_ne (by omega), hU_nj g1, sU_ne (by omega)]) (by rw [sU_ne (by omega), hU_eq]) (by rw [hU_eq]) hz (by omega))
/-- another row in a slot -/
theorem rS_slot {I1 : sI} (h : rS I1 ar pr ns rw lk nr mo sl lv) {I2 : sI} {a : Int} {w2 : List Int} (ha : okS a) (hw : ∀ w, w ≠ 84 → w ≠ 105 → w ≠ 89 + a.toNat → w < 114 → I2 w = I1 w) (h84 : ∀ j, 1 ≤ j → j ≤ 12 → I2 84 j = I1 84 j) (h105 : ∀ j, j ≠ a → I2 105 j = I1 105 j) (hr : rL I2 (89 + a.toNat) (I2 105 a) w2) : rS I2 ar pr ns rw lk nr mo (slU sl a w2) lv := by
  obtain ⟨y1, y2, y3, y4, y5, y6, y7, y8, y9⟩ := h
  have hb := ha
  unfold okS at hb
  refine ⟨by rw [h84 1 (by omega) (by omega)]; exact y1, ⟨y2.1, fun e g1 g2 => by rw [hw 85 (by omega) (by omega) (by omega) (by omega)]; exact y2.2 e g1 g2⟩, ⟨y3.1, fun e g1 g2 => by rw [hw 87 (by omega) (by omega) (by omega) (by omega)]; exact y3.2 e g1 g2⟩, ?_, by rw [h84 3 (by omega) (by omega)]; exact y5, by rw [h84 4 (by omega) (by omega)]; exact y6, by rw [h84 12 (by omega) (by omega)]; exact y7, fun q hq => ?_, fun v g1 g2 => ?_⟩
  · unfold rL
    rw [h84 2 (by omega) (by omega), hw 86 (by omega) (by omega) (by omega) (by omega)]
    exact y4
  · have hqb := hq
    unfold okS at hqb
    unfold slU
    by_cases hqa : q = a
    · subst hqa
      rw [if_pos rfl]
      exact hr
    · rw [if_neg hqa]
      unfold rL
      rw [h105 q hqa, hw (89 + q.toNat) (by omega) (by omega) (by omega) (by omega)]
      exact y8 q hq
  · unfold rL
    rw [hw 113 (by omega) (by omega) (by omega) (by omega), hw (107 + v.toNat) (by omega) (by omega) (by omega) (by omega)]
    exact y9 v g1 g2
theorem c_R_ke (hR : rS I ar pr ns rw lk nr mo sl lv) (hrw : rw.length ≤ 100) {a : Int} (ha : sR a) :
    sCall l G mM_keep (sRm (d + 2) 0) [.inr (.inl 84), .inl a] (hS L x I) (qE L x (fun r I' => fR I I' ∧ ((I' 84 0 = 1 ∧ ¬ okS a ∧ rS I' ar pr ns rw lk nr mo sl lv) ∨ (I' 84 0 = 2 ∧ okS a ∧ 0 < lk ∧ rS I' ar pr ns rw lk nr mo sl lv) ∨ (I' 84 0 = 0 ∧ okS a ∧ ¬ 0 < lk ∧ r = rw.length ∧ rS I' ar pr ns [] 1 nr mo (slU sl a rw) lv)))) := by
  refine sCall_of (by decide) (Nat.le_of_ble_eq_true rfl) (sV1s_c trivial (sV1s_c ha sV1s_n)) rfl ?_
  generalize hQ : (qE L x (fun r I' => fR I I' ∧ ((I' 84 0 = 1 ∧ ¬ okS a ∧ rS I' ar pr ns rw lk nr mo sl lv) ∨ (I' 84 0 = 2 ∧ okS a ∧ 0 < lk ∧ rS I' ar pr ns rw lk nr mo sl lv) ∨ (I' 84 0 = 0 ∧ okS a ∧ ¬ 0 < lk ∧ r = rw.length ∧ rS I' ar pr ns [] 1 nr mo (slU sl a rw) lv)))) = Q
  show sJ l G mM_keep (sRm (d + 2) 0) Q 0 (6 * 0) 0 [some (.inr (.inl 84)), some (.inl a), none] [] (hSh L, hRF, I, x)
  refine sg_R_ke_0 (k := ?_)
  refine sc_vE (as := [.inl _]) (rest := []) (cc := 6) ct_M_keep lk_M_noSlot lm_M_103 (c_R_ns (d := d) ha) rfl (fun r I1 hr => ?_)
  obtain ⟨rfl, ⟨rfl, hok⟩ | ⟨rfl, hok⟩⟩ := hr
  · have hb := hok
    unfold okS at hb
    generalize hI1 : sU I 84 0 0 = I1
    have R1 : rS I1 ar pr ns rw lk nr mo sl lv := by rw [← hI1]; exact rS_upd hR (scF_0 I 0)
    have F1 : fR I I1 := by rw [← hI1]; exact scF_R (scF_0 I 0)
    have z1 : I1 84 0 = 0 := by rw [← hI1, hU_eq]
    obtain ⟨y1, y2, y3, y4, y5, y6, y7, y8, y9⟩ := id R1
    have e2 : I1 84 2 = rw.length := y4.1
    by_cases hl : 0 < lk
    · refine sg_R_ke_l (k := ?_)
      refine sc_vI (as := [.inl _, .inl _]) (rest := []) (cc := 6) ct_M_keep lk_M_refuse lm_M_99 (c_R_re (d := d) (by unfold sR; omega) (Or.inr rfl)) rfl ?_
      rw [if_neg (by omega)]
      refine sg_R_ke_t (k := ?_)
      rw [← hQ]
      exact sc_ret ct_M_keep ⟨_, _, rfl, rfl, fun w g => by rw [sU_ne (by omega)]; exact F1 w g, Or.inr (Or.inl ⟨hU_eq _ _ _ _, hok, hl, rS_upd R1 (scF_0 I1 2)⟩)⟩
    · refine sg_R_ke_o (k := ?_)
      refine sc_vI (as := [.inl _, .inl _]) (rest := []) (cc := 6) ct_M_keep lk_M_refuse lm_M_99 (c_R_re (d := d) (by unfold sR; omega) (Or.inl rfl)) rfl ?_
      rw [if_pos rfl]
      refine sg_R_ke_g (k := ?_)
      have hkd := hC_k L hb.1 hb.2
      have loop : ∀ (m j : Nat), m = rw.length - j → j ≤ rw.length → sJ l G mM_keep (sRm (d + 2) 0) Q (0 + 0 + 0) (6 * (0 + 0 + 0)) 18 [some (.inr (.inl 84)), some (.inl a), some (.inl (j : Int))] [] (hSh L, hRF, sCp I1 (89 + a.toNat) 86 j, x) := by
        intro m
        induction m with
        | zero =>
          intro j hm hj
          have hj' : j = rw.length := by omega
          subst hj'
          have c2 : sCp I1 (89 + a.toNat) 86 rw.length 84 2 = rw.length := by rw [sCp_ne (by omega)]; exact e2
          have hsa : sArr (hSh L) 0 105 a := hAr rfl hb.1 hb.2
          refine sg_R_ke_x (k := ?_)
          rw [c2, ← hQ]
          refine sc_ret ct_M_keep ⟨_, _, rfl, rfl, fun w g => by rw [sU_ne (by omega), sU_ne (by omega), sU_ne (by omega), sCp_ne (by omega)]; exact F1 w g, Or.inr (Or.inr ⟨by rw [hU_nj (by omega), hU_nj (by omega), sU_ne (by omega), sCp_ne (by omega)]; exact z1, hok, hl, rfl, ?_⟩)⟩
          have R2 : rS (sU (sCp I1 (89 + a.toNat) 86 rw.length) 105 a rw.length) ar pr ns rw lk nr mo (slU sl a rw) lv := rS_slot R1 hok (fun w g1 g2 g3 _ => by rw [sU_ne g2, sCp_ne g3]) (fun j _ _ => by rw [sU_ne (by omega), sCp_ne (by omega)]) (fun j g => by rw [hU_nj g, sCp_ne (by omega)]) ⟨by rw [hU_eq], fun k hk => by rw [sU_ne (by omega), sCp_in _ (by omega) (by omega)]; exact y4.2 k hk⟩
          exact rS_row R2 (fun w g1 _ => by rw [sU_ne g1, sU_ne g1]) (fun j _ _ g1 g2 => by rw [hU_nj g2, hU_nj g1]) ⟨by rw [hU_nj (by omega), hU_eq]; rfl, fun k hk => by simp at hk⟩ (hU_eq _ _ _ _)
        | succ m ihm =>
          intro j hm hj
          have c2 : sCp I1 (89 + a.toNat) 86 j 84 2 = rw.length := by rw [sCp_ne (by omega)]; exact e2
          have hsa : sArr (hSh L) 0 (89 + a.toNat) (j : Int) := hAr hkd (by omega) (by omega)
          refine sg_R_ke_n (k := ?_)
          rw [show sCp I1 (89 + a.toNat) 86 j 86 j = I1 86 j by rw [sCp_ne (by omega)], sCp_s I1 (by omega)]
          exact ihm (j + 1) (by omega) (by omega)
      have := loop rw.length 0 rfl (Nat.zero_le _)
      rw [show ((0 : Nat) : Int) = 0 from rfl, sCp_0] at this
      exact this
  · refine sg_R_ke_r (k := ?_)
    rw [← hQ]
    exact sc_ret ct_M_keep ⟨_, _, rfl, rfl, scF_R (scF_0 I 1), Or.inl ⟨hU_eq _ _ _ _, hok, rS_upd hR (scF_0 I 1)⟩⟩
theorem c_R_co (hR : rS I ar pr ns rw lk nr mo sl lv) (hsl : ∀ a, okS a → (sl a).length ≤ 100) {a p : Int} (ha : sR a) (hp : sR p) :
    sCall l G mM_code (sRm (d + 2) 0) [.inr (.inl 84), .inl a, .inl p] (hS L x I) (qE L x (fun r I' => scF I I' ∧ ((I' 84 0 = 1 ∧ ¬ (okS a ∧ 0 ≤ p ∧ p < (sl a).length)) ∨ (I' 84 0 = 0 ∧ okS a ∧ ∃ h : 0 ≤ p ∧ p < (sl a).length, r = (sl a)[p.toNat]'(by omega))))) := by
  refine sCall_of (by decide) (Nat.le_of_ble_eq_true rfl) (sV1s_c trivial (sV1s_c ha (sV1s_c hp sV1s_n))) rfl ?_
  generalize hQ : (qE L x (fun r I' => scF I I' ∧ ((I' 84 0 = 1 ∧ ¬ (okS a ∧ 0 ≤ p ∧ p < (sl a).length)) ∨ (I' 84 0 = 0 ∧ okS a ∧ ∃ h : 0 ≤ p ∧ p < (sl a).length, r = (sl a)[p.toNat]'(by omega))))) = Q
  show sJ l G mM_code (sRm (d + 2) 0) Q 0 (6 * 0) 0 [some (.inr (.inl 84)), some (.inl a), some (.inl p)] [] (hSh L, hRF, I, x)
  refine sg_R_co_0 (k := ?_)
  refine sc_vE (as := [.inl _]) (rest := []) (cc := 6) ct_M_code lk_M_noSlot lm_M_103 (c_R_ns (d := d) ha) rfl (fun r I1 hr => ?_)
  obtain ⟨rfl, ⟨rfl, hok⟩ | ⟨rfl, hok⟩⟩ := hr
  · have hb := hok
    unfold okS at hb
    have h100 := hsl a hok
    have y8 := (rS_upd hR (scF_0 I 0)).2.2.2.2.2.2.2.1 a hok
    have e5 : sU I 84 0 0 105 a = (sl a).length := y8.1
    have bad : ¬ (0 ≤ p ∧ p < (sl a).length) → sJ l G mM_code (sRm (d + 2) 0) Q (0 + 0) (6 * (0 + 0)) 17 [some (.inr (.inl 84)), some (.inl a), some (.inl p)] [.inl 1, .inl 1, .inr (.inl 84)] (hSh L, hRF, sU I 84 0 0, x) := by
      intro hno
      refine sc_vI (as := [.inl _, .inl _]) (rest := []) (cc := 6) ct_M_code lk_M_refuse lm_M_99 (c_R_re (d := d) (by unfold sR; omega) (Or.inr rfl)) rfl ?_
      rw [if_neg (by omega), sU_sU]
      refine sg_R_co_t (k := ?_)
      rw [← hQ]
      exact sc_ret ct_M_code ⟨_, _, rfl, rfl, scF_0 I 1, Or.inl ⟨hU_eq _ _ _ _, fun h => hno h.2⟩⟩
    by_cases h0 : p < 0
    · refine sg_R_co_a (k := ?_)
      exact bad (by omega)
    · by_cases h1 : p < (sl a).length
      · refine sg_R_co_o (k := ?_)
        refine sc_vI (as := [.inl _, .inl _]) (rest := []) (cc := 6) ct_M_code lk_M_refuse lm_M_99 (c_R_re (d := d) (by unfold sR; omega) (Or.inl rfl)) rfl ?_
        rw [if_pos rfl]
        have hsa : sArr (hSh L) 0 (89 + a.toNat) p := hAr (hC_k L hb.1 hb.2) (by omega) (by omega)
        refine sg_R_co_g (k := ?_)
        rw [← hQ]
        refine sc_ret ct_M_code ⟨_, _, rfl, rfl, scF_0 I 0, Or.inr ⟨hU_eq _ _ _ _, hok, ⟨by omega, h1⟩, ?_⟩⟩
        have := y8.2 p.toNat (by omega)
        rw [show ((p.toNat : Nat) : Int) = p by omega] at this
        exact this
      · refine sg_R_co_b (k := ?_)
        exact bad (by omega)
  · refine sg_R_co_r (k := ?_)
    rw [← hQ]
    exact sc_ret ct_M_code ⟨_, _, rfl, rfl, scF_0 I 1, Or.inl ⟨hU_eq _ _ _ _, fun h => hok h.1⟩⟩
theorem c_R_bo (hR : rS I ar pr ns rw lk nr mo sl lv) (hlv : ∀ v, 0 ≤ v → v < 6 → (lv v).length ≤ 100) (hmo : mo = 0 ∨ mo = 1) {a v : Int} (ha : sR a) (hv : sR v) :
    sCall l G mM_bound (sRm (d + 2) 0) [.inr (.inl 84), .inl a, .inl v] (hS L x I) (qE L x (fun r I' => fR I I' ∧ ((I' 84 0 = 1 ∧ ¬ (okS a ∧ mo = 1 ∧ 0 ≤ v ∧ v < 6 ∧ (lv v).length ≠ 0) ∧ rS I' ar pr ns rw lk nr mo sl lv) ∨ (I' 84 0 = 0 ∧ okS a ∧ mo = 1 ∧ (0 ≤ v ∧ v < 6) ∧ (lv v).length ≠ 0 ∧ r = (lv v).length ∧ rS I' ar pr ns rw lk nr mo (slU sl a (lv v)) lv)))) := by
  refine sCall_of (by decide) (Nat.le_of_ble_eq_true rfl) (sV1s_c trivial (sV1s_c ha (sV1s_c hv sV1s_n))) rfl ?_
  generalize hQ : (qE L x (fun r I' => fR I I' ∧ ((I' 84 0 = 1 ∧ ¬ (okS a ∧ mo = 1 ∧ 0 ≤ v ∧ v < 6 ∧ (lv v).length ≠ 0) ∧ rS I' ar pr ns rw lk nr mo sl lv) ∨ (I' 84 0 = 0 ∧ okS a ∧ mo = 1 ∧ (0 ≤ v ∧ v < 6) ∧ (lv v).length ≠ 0 ∧ r = (lv v).length ∧ rS I' ar pr ns rw lk nr mo (slU sl a (lv v)) lv)))) = Q
  show sJ l G mM_bound (sRm (d + 2) 0) Q 0 (6 * 0) 0 [some (.inr (.inl 84)), some (.inl a), some (.inl v), none] [] (hSh L, hRF, I, x)
  refine sg_R_bo_0 (k := ?_)
  refine sc_vE (as := [.inl _]) (rest := []) (cc := 6) ct_M_bound lk_M_noSlot lm_M_103 (c_R_ns (d := d) ha) rfl (fun r I1 hr => ?_)
  obtain ⟨rfl, ⟨rfl, hok⟩ | ⟨rfl, hok⟩⟩ := hr
  · have hb := hok
    unfold okS at hb
    have R0 := rS_upd hR (scF_0 I 0)
    have e12 : sU I 84 0 0 84 12 = mo := R0.2.2.2.2.2.2.1
    have bad : ¬ (mo = 1 ∧ 0 ≤ v ∧ v < 6) → sJ l G mM_bound (sRm (d + 2) 0) Q (0 + 0) (6 * (0 + 0)) 17 [some (.inr (.inl 84)), some (.inl a), some (.inl v), none] [.inl 1, .inl 1, .inr (.inl 84)] (hSh L, hRF, sU I 84 0 0, x) := by
      intro hno
      refine sc_vI (as := [.inl _, .inl _]) (rest := []) (cc := 6) ct_M_bound lk_M_refuse lm_M_99 (c_R_re (d := d) (by unfold sR; omega) (Or.inr rfl)) rfl ?_
      rw [if_neg (by omega), sU_sU]
      refine sg_R_bo_t (k := ?_)
      rw [← hQ]
      exact sc_ret ct_M_bound ⟨_, _, rfl, rfl, scF_R (scF_0 I 1), Or.inl ⟨hU_eq _ _ _ _, fun h => hno ⟨h.2.1, h.2.2.1, h.2.2.2.1⟩, rS_upd hR (scF_0 I 1)⟩⟩
    by_cases hm : mo = 0
    · refine sg_R_bo_m (k := ?_)
      exact bad (by omega)
    · by_cases h0 : v < 0
      · refine sg_R_bo_a (k := ?_)
        exact bad (by omega)
      · by_cases h5 : 5 < v
        · refine sg_R_bo_b (k := ?_)
          exact bad (by omega)
        · refine sg_R_bo_o (k := ?_)
          refine sc_vI (as := [.inl _, .inl _]) (rest := []) (cc := 6) ct_M_bound lk_M_refuse lm_M_99 (c_R_re (d := d) (by unfold sR; omega) (Or.inl rfl)) rfl ?_
          rw [if_pos rfl]
          generalize hI1 : sU I 84 0 0 = I1 at R0 e12 ⊢
          have F1 : fR I I1 := by rw [← hI1]; exact scF_R (scF_0 I 0)
          have z1 : I1 84 0 = 0 := by rw [← hI1, hU_eq]
          have y9 := R0.2.2.2.2.2.2.2.2 v (by omega) (by omega)
          have e3 : I1 113 v = (lv v).length := y9.1
          have h100 := hlv v (by omega) (by omega)
          by_cases hz : (lv v).length = 0
          · refine sg_R_bo_e (k := ?_)
            refine sc_vI (as := [.inl _, .inl _]) (rest := []) (cc := 6) ct_M_bound lk_M_refuse lm_M_99 (c_R_re (d := d) (by unfold sR; omega) (Or.inr rfl)) rfl ?_
            rw [if_neg (by omega)]
            refine sg_R_bo_u (k := ?_)
            rw [← hQ]
            exact sc_ret ct_M_bound ⟨_, _, rfl, rfl, fun w g => by rw [sU_ne (by omega)]; exact F1 w g, Or.inl ⟨hU_eq _ _ _ _, fun h => h.2.2.2.2 hz, rS_upd R0 (scF_0 I1 1)⟩⟩
          · refine sg_R_bo_f (k := ?_)
            refine sc_vI (as := [.inl _, .inl _]) (rest := []) (cc := 6) ct_M_bound lk_M_refuse lm_M_99 (c_R_re (d := d) (by unfold sR; omega) (Or.inl rfl)) rfl ?_
            rw [if_pos rfl]
            refine sg_R_bo_g (k := ?_)
            have hkd := hC_k L hb.1 hb.2
            have hvd := hV_k L (a := v) (by omega) (by omega)
            have loop : ∀ (m j : Nat), m = (lv v).length - j → j ≤ (lv v).length → sJ l G mM_bound (sRm (d + 2) 0) Q (0 + 0 + 0 + 0) (6 * (0 + 0 + 0 + 0)) 35 [some (.inr (.inl 84)), some (.inl a), some (.inl v), some (.inl (j : Int))] [] (hSh L, hRF, sCp I1 (89 + a.toNat) (107 + v.toNat) j, x) := by
              intro m
              induction m with
              | zero =>
                intro j hm hj
                have hj' : j = (lv v).length := by omega
                subst hj'
                have c2 : sCp I1 (89 + a.toNat) (107 + v.toNat) (lv v).length 113 v = (lv v).length := by rw [sCp_ne (by omega)]; exact e3
                have hsa : sArr (hSh L) 0 105 a := hAr rfl hb.1 hb.2
                refine sg_R_bo_x (k := ?_)
                rw [c2, ← hQ]
                refine sc_ret ct_M_bound ⟨_, _, rfl, rfl, fun w g => by rw [sU_ne (by omega), sCp_ne (by omega)]; exact F1 w g, Or.inr ⟨by rw [sU_ne (by omega), sCp_ne (by omega)]; exact z1, hok, by omega, ⟨by omega, by omega⟩, hz, rfl, ?_⟩⟩
                exact rS_slot R0 hok (fun w g1 g2 g3 _ => by rw [sU_ne g2, sCp_ne g3]) (fun j _ _ => by rw [sU_ne (by omega), sCp_ne (by omega)]) (fun j g => by rw [hU_nj g, sCp_ne (by omega)]) ⟨by rw [hU_eq], fun k hk => by rw [sU_ne (by omega), sCp_in _ (by omega) (by omega)]; exact y9.2 k hk⟩
              | succ m ihm =>
                intro j hm hj
                have c2 : sCp I1 (89 + a.toNat) (107 + v.toNat) j 113 v = (lv v).length := by rw [sCp_ne (by omega)]; exact e3
                have hsa : sArr (hSh L) 0 (89 + a.toNat) (j : Int) := hAr hkd (by omega) (by omega)
                have hsv : sArr (hSh L) 0 (107 + v.toNat) (j : Int) := hAr hvd (by omega) (by omega)
                refine sg_R_bo_n (k := ?_)
                rw [show sCp I1 (89 + a.toNat) (107 + v.toNat) j (107 + v.toNat) j = I1 (107 + v.toNat) j by rw [sCp_ne (by omega)], sCp_s I1 (by omega)]
                exact ihm (j + 1) (by omega) (by omega)
            have := loop (lv v).length 0 rfl (Nat.zero_le _)
            rw [show ((0 : Nat) : Int) = 0 from rfl, sCp_0] at this
            exact this
  · refine sg_R_bo_r (k := ?_)
    rw [← hQ]
    exact sc_ret ct_M_bound ⟨_, _, rfl, rfl, scF_R (scF_0 I 1), Or.inl ⟨hU_eq _ _ _ _, fun h => hok h.1, rS_upd hR (scF_0 I 1)⟩⟩
end CR12
