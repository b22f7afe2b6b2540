/-! TermBench: symbol, put, keep -/
theorem lm_B_en_85 : sLm "TermBench" 85 mA_enter = true := by decide +kernel
theorem lm_B_to_94 : sLm "TermBench" 94 mA_termsOf = true := by decide +kernel
theorem lm_B_ad_100 : sLm "TermBench" 100 mT_add = true := by decide +kernel
section CB5
variable {l : Launch} {G : sG} {L x d : Nat} {I : sI}
theorem c_B_symbol (hl : l.stackTraces = false) (hx : x ≠ 0) (hal : alf I) {n pp : Int} (hn : sR n) (hp : pp = 0 ∨ pp = 1) : sCall l G mB_symbol (sRm (d + 6) 1) [.inr (.inl 1), .inl n, .inl pp] (hS L x I) (qO L x (fun r I' => (r = .inr 1 ∧ I' = I ∧ ¬ (0 ≤ n ∧ n ≤ 5)) ∨ (r = .inr 2 ∧ I' = I ∧ (0 ≤ n ∧ n ≤ 5) ∧ I 2 2 = 40) ∨ ((0 ≤ n ∧ n ≤ 5) ∧ I 2 2 < 40 ∧ r = .inl (I 2 2) ∧ I' = sU (sU (sU I 3 (I 2 2) n) 4 (I 2 2) pp) 2 2 (I 2 2 + 1)))) := by
  refine sCall_of (by decide) (Nat.le_of_ble_eq_true rfl) (sV1s_c trivial (sV1s_c hn (sV1s_c (sV1_i (by omega) (by omega)) sV1s_n))) rfl ?_
  show sJ l G mB_symbol (sRm (d + 6) 1) _ 0 (6 * 0) 0 [some (.inr (.inl 1)), some (.inl n), some (.inl pp)] [] (hSh L, hRF, I, x)
  have hsz := hal.1
  by_cases h1 : n < 0
  · refine sg_B_sy_a (k := ?_)
    exact sc_ta "a symbol has 0 to 5 terms" ct_B_symbol hl hx ⟨_, rfl, Or.inr ⟨1, rfl, Or.inl ⟨rfl, rfl, by omega⟩⟩⟩
  · by_cases h2 : n ≤ 5
    · by_cases h3 : I 2 2 < 40
      · refine sg_B_sy_o (k := ?_)
        refine sc_vI (as := [.inl _, .inl _]) (rest := []) (cc := 1) ct_B_symbol lk_A_enter lm_B_en_85 (c_A_enter (d := d) (by omega) h2 hp hsz.1 h3) rfl ?_
        exact sc_ret ct_B_symbol ⟨_, rfl, Or.inl ⟨_, rfl, Or.inr (Or.inr ⟨⟨by omega, h2⟩, h3, rfl, rfl⟩)⟩⟩
      · refine sg_B_sy_c (k := ?_)
        exact sc_ts "there are 40 symbols" ct_B_symbol hl hx ⟨_, rfl, Or.inr ⟨2, rfl, Or.inr (Or.inl ⟨rfl, rfl, ⟨by omega, h2⟩, by omega⟩)⟩⟩
    · refine sg_B_sy_b (k := ?_)
      exact sc_ta "a symbol has 0 to 5 terms" ct_B_symbol hl hx ⟨_, rfl, Or.inr ⟨1, rfl, Or.inl ⟨rfl, rfl, by omega⟩⟩⟩
theorem c_B_put (hl : l.stackTraces = false) (hx : x ≠ 0) (hal : alf I) {c : Int} (hc : sR c) (hw0 : 0 ≤ I 54 2) (hl0 : 0 ≤ I 1 3) (hwl : I 54 2 + I 1 3 ≤ 100) : sCall l G mB_put (sRm (d + 6) 1) [.inr (.inl 1), .inl c] (hS L x I) (qO L x (fun r I' => (r = .inr 0 ∧ I' = I ∧ ¬ (-6 ≤ c ∧ c < I 2 2)) ∨ ((-6 ≤ c ∧ c < I 2 2) ∧ ((r = .inr 2 ∧ I' = I ∧ (I 1 3 = 0 ∨ 100 < I 54 2 + I 1 3 + hArt I c)) ∨ (I 1 3 ≠ 0 ∧ I 54 2 + I 1 3 + hArt I c ≤ 100 ∧ r = .inl (I 1 3 - 1 + hArt I c) ∧ I' = sU (sU (sU I 55 (I 54 2) c) 54 2 (I 54 2 + 1)) 1 3 (I 1 3 - 1 + hArt I c)))))) := by
  refine sCall_of (by decide) (Nat.le_of_ble_eq_true rfl) (sV1s_c trivial (sV1s_c hc sV1s_n)) rfl ?_
  show sJ l G mB_put (sRm (d + 6) 1) _ 0 (6 * 0) 0 [some (.inr (.inl 1)), some (.inl c), none] [] (hSh L, hRF, I, x)
  have hsz := hal.1
  by_cases h1 : c < -6
  · refine sg_B_pu_a (k := ?_)
    exact sc_tn "no such symbol or variable" ct_B_put hl hx ⟨_, rfl, Or.inr ⟨0, rfl, Or.inl ⟨rfl, rfl, by omega⟩⟩⟩
  · by_cases h2 : c < I 2 2
    · have hok : -6 ≤ c ∧ c < I 2 2 := ⟨by omega, h2⟩
      have hte : (if c < 0 then 0 else I 3 c) = ((hArt I c : Nat) : Int) := by
        unfold hArt
        by_cases h : c < 0
        · rw [if_pos h, if_pos h]; rfl
        · have := hal.2.1 c (by omega) (by omega)
          rw [if_neg h, if_neg h]
          omega
      have hab : (hArt I c : Int) ≤ 5 := by
        rw [← hte]
        by_cases h : c < 0
        · rw [if_pos h]; omega
        · have := hal.2.1 c (by omega) (by omega)
          rw [if_neg h]
          omega
      refine sg_B_pu_c (k := ?_)
      refine sc_vI (as := [.inl _]) (rest := [.inl _]) (cc := 1) ct_B_put lk_A_termsOf lm_B_to_94 (c_A_termsOf (d := d) (by omega) (by omega)) rfl ?_
      rw [hte]
      by_cases h3 : I 1 3 = 0
      · refine sg_B_pu_z (k := ?_)
        exact sc_ts "the row is whole, or would grow too long" ct_B_put hl hx ⟨_, rfl, Or.inr ⟨2, rfl, Or.inr ⟨hok, Or.inl ⟨rfl, rfl, Or.inl h3⟩⟩⟩⟩
      · by_cases h4 : I 54 2 + I 1 3 + hArt I c ≤ 100
        · refine sg_B_pu_o (k := ?_)
          refine sc_vV (as := [.inl _]) (rest := []) (cc := 2) ct_B_put lk_T_add lm_B_ad_100 (c_T_add (d := d) hT_54 (by omega) (by omega) hw0 (by omega)) rfl ?_
          refine sg_B_pu_r (k := ?_)
          exact sc_ret ct_B_put ⟨_, rfl, Or.inl ⟨_, rfl, Or.inr ⟨hok, Or.inr ⟨h3, h4, rfl, rfl⟩⟩⟩⟩
        · refine sg_B_pu_h (k := ?_)
          exact sc_ts "the row is whole, or would grow too long" ct_B_put hl hx ⟨_, rfl, Or.inr ⟨2, rfl, Or.inr ⟨hok, Or.inl ⟨rfl, rfl, Or.inr (by omega)⟩⟩⟩⟩
    · refine sg_B_pu_b (k := ?_)
      exact sc_tn "no such symbol or variable" ct_B_put hl hx ⟨_, rfl, Or.inr ⟨0, rfl, Or.inl ⟨rfl, rfl, by omega⟩⟩⟩
theorem c_B_keep (hl : l.stackTraces = false) (hx : x ≠ 0) (hal : alf I) {a : Int} {row : List Int} (ha : sR a) (hm : tm I 54 row) (hw : I 1 3 = 0 → f_wf (hArt I) 1 row) : sCall l G mB_keep (sRm (d + 7) 2) [.inr (.inl 1), .inl a] (hS L x I) (qO L x (fun r I' => (r = .inr 0 ∧ I' = I ∧ ¬ okS a) ∨ (r = .inr 2 ∧ I' = I ∧ okS a ∧ I 1 3 ≠ 0) ∨ (okS a ∧ I 1 3 = 0 ∧ r = .inl row.length ∧ tw I' (6 + 3 * a.toNat) row ∧ I' 54 2 = 0 ∧ I' 1 3 = 1 ∧ (∀ k, k ≠ 3 → I' 1 k = I 1 k) ∧ ∀ w, w ≠ 1 → w ≠ 54 → w ≠ 56 → w ≠ 6 + 3 * a.toNat → w ≠ 6 + 3 * a.toNat + 1 → w ≠ 6 + 3 * a.toNat + 2 → I' w = I w))) := by
  refine sCall_of (by decide) (Nat.le_of_ble_eq_true rfl) (sV1s_c trivial (sV1s_c ha sV1s_n)) rfl ?_
  show sJ l G mB_keep (sRm (d + 7) 2) _ 0 (6 * 0) 0 [some (.inr (.inl 1)), some (.inl a), none] [] (hSh L, hRF, I, x)
  refine sg_B_ke_0 (k := ?_)
  refine sc_rs ct_B_keep hl hx ha (fun h => ⟨_, rfl, Or.inr ⟨0, rfl, Or.inl ⟨rfl, rfl, h⟩⟩⟩) (fun hok => ?_)
  have hok' := hok
  unfold okS at hok'
  have ht := hT_slot hok'.1 hok'.2
  have hlt := hT_lt ht
  by_cases h1 : I 1 3 = 0
  · refine sg_B_ke_1 (k := ?_)
    refine sc_vV (as := [.inr (.inl _)]) (rest := []) (cc := 2) ct_B_keep lk_T_findEnds lm_B_fe_109 (c_T_findEnds (d := d) hT_54 hm hal (hw h1)) rfl ?_
    have hw4 := tw_fp (I := I) (t := 54) (by omega) (by omega) hm (hw h1)
    have hl4 := hw4.1.1
    have hb4 := hw4.1.2.1
    refine sg_B_ke_2 (k := ?_)
    refine sc_vI (as := [.inl _, .inr (.inl _)]) (rest := []) (cc := 0) ct_B_keep lk_B_store lm_B_st_113 (c_B_st (d := d) hx hT_54 hok'.1 hok'.2 (by omega) (by omega) (by omega)) rfl ?_
    obtain ⟨w5, f5⟩ := tw_bc ht hT_54 (by omega) hw4
    refine sg_B_ke_3 (k := ?_)
    have hz : ∀ w, w ≠ 56 → sFp I 54 row (-1) w = I w := fun w h => by
      funext k
      unfold sFp
      rw [if_neg (fun h2 => h h2.1)]
    refine sc_ret ct_B_keep ⟨_, rfl, Or.inl ⟨_, rfl, Or.inr (Or.inr ⟨hok, h1, ?_, ?_, ?_, ?_, fun k hk => ?_, fun w w1 w2 w3 w4 w5 w6 => ?_⟩)⟩⟩
    · rw [hl4]
    · exact tw_upd w5 (by rw [sU_ne (by omega), sU_ne (by omega)]) (by rw [sU_ne (by omega), sU_ne (by omega)]) (by rw [sU_ne (by omega), sU_ne (by omega)]) (by rw [sU_ne (by omega), sU_ne (by omega)])
    · rw [hU_ne (by omega), hU_eq]
    · rw [hU_eq]
    · rw [hU_nj hk, hU_ne (by omega), f5 1 (by omega) (by omega) (by omega), hz 1 (by omega)]
    · rw [sU_ne w1, sU_ne w2, f5 w w4 w5 w6, hz w w3]
  · refine sg_B_ke_t (k := ?_)
    exact sc_ts "the row is not whole" ct_B_keep hl hx ⟨_, rfl, Or.inr ⟨2, rfl, Or.inr (Or.inl ⟨rfl, rfl, hok, h1⟩)⟩⟩
end CB5
