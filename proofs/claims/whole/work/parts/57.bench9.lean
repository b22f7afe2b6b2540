/-! TermBench: fillsToLess -/
theorem lm_B_wo_209 : sLm "TermBench" 209 mV_weightOf = true := by decide +kernel
theorem lm_B_fl_213 : sLm "TermBench" 213 mV_fill = true := by decide +kernel
section CB9
variable {l : Launch} {G : sG} {L x d : Nat} {I : sI}
theorem c_B_fl {t : Nat} {p : Int} {ts ss : List Int} (hal : alf I) (ht : hT t) (htn : t ≠ 63) (hm : tm I t ts) (h6 : ∀ c ∈ ts, -6 ≤ c) (htw : f_wf (hArt I) 1 ts) (hw : tw I 57 ss) (hs6 : ∀ c ∈ ss, -6 ≤ c) (hv : ∀ c ∈ ts, c < 0 → 0 ≤ I 67 (-1 - c) ∧ I 67 (-1 - c) < ss.length) (h0 : 0 ≤ p) (h1 : p < ss.length) :
    sCall l G mB_fillsToLess (sRm (d + 4) 0) [.inr (.inl 1), .inr (.inl t), .inl p] (hS L x I) (qE L x (fun r I' => (∀ w, w ≠ 63 → w ≠ 64 → w ≠ 65 → w ≠ 74 → I' w = I w) ∧ ((r = 0 ∧ ¬ gt (hArt I) (f_s (hArt I) ss p.toNat) (f_sub (vl (hArt I) ss (I 67)) ts)) ∨ (r = 1 ∧ gt (hArt I) (f_s (hArt I) ss p.toNat) (f_sub (vl (hArt I) ss (I 67)) ts) ∧ (f_sub (vl (hArt I) ss (I 67)) ts).length ≤ (f_s (hArt I) ss p.toNat).length ∧ tw I' 63 (f_sub (vl (hArt I) ss (I 67)) ts))))) := by
  have h100 := hw.1.2.1
  refine sCall_of (by decide) (Nat.le_of_ble_eq_true rfl) (sV1s_c trivial (sV1s_c trivial (sV1s_c (sV1_i (by omega) (by omega)) sV1s_n))) rfl ?_
  show sJ l G mB_fillsToLess (sRm (d + 4) 0) _ 0 (6 * 0) 0 [some (.inr (.inl 1)), some (.inr (.inl t)), some (.inl p)] [] (hSh L, hRF, I, x)
  have lt := hT_lt ht
  have he : I 59 p = p + f_tk (hArt I) 1 (ss.drop p.toNat) ∧ p < I 59 p ∧ I 59 p ≤ ss.length ∧ I 59 p ≤ 100 := tw_end hw h0 h1
  have hfl : ((f_s (hArt I) ss p.toNat).length : Int) = I 59 p - p := by rw [f_s_len]; omega
  have hbig : ∀ r : Int, r = (f_sub (vl (hArt I) ss (I 67)) ts).length → I 59 p - p < r → ¬ gt (hArt I) (f_s (hArt I) ss p.toNat) (f_sub (vl (hArt I) ss (I 67)) ts) := by
    intro r hr hlt hg
    have hle : (f_sub (vl (hArt I) ss (I 67)) ts).length ≤ (f_s (hArt I) ss p.toNat).length := by
      generalize f_s (hArt I) ss p.toNat = w at *
      generalize f_sub (vl (hArt I) ss (I 67)) ts = u at *
      cases w with
      | nil => exact hg.elim
      | cons c w =>
        cases u with
        | nil => exact Nat.zero_le _
        | cons e u =>
          rw [gt_c] at hg
          simp only [List.length_cons]
          omega
    omega
  refine sg_B_fl_0 (k := ?_)
  refine sc_vI (as := [.inr (.inl _), .inr (.inl _)]) (rest := []) (cc := 3) ct_B_fillsToLess lk_V_weightOf lm_B_wo_209 (c_V_weightOf (d := d) ht hT_57 hm h6 hw hv) rfl ?_
  refine sg_B_fl_1 (k := ?_)
  refine sc_vI (as := [.inl _]) (rest := [.inl _]) (cc := 2) ct_B_fillsToLess lk_T_weightAt lm_B_wa_169 (c_T_weightAt (t := 57) (d := d) hT_57 h0 (by omega) (by show -1000 ≤ I 59 p; omega) (by show I 59 p ≤ 1000; omega)) rfl ?_
  by_cases hc : ((f_sub (vl (hArt I) ss (I 67)) ts).length : Int) ≤ I (57 + 2) p - p
  · have hc' : ((f_sub (vl (hArt I) ss (I 67)) ts).length : Int) ≤ I 59 p - p := hc
    refine sg_B_fl_2 (k := ?_)
    refine sc_vF (as := [.inr (.inl _), .inr (.inl _), .inr (.inl _)]) (rest := []) (cc := 3) ct_B_fillsToLess lk_V_fill lm_B_fl_213 (c_V_fill (d := d) hT_63 ht hT_57 (fun h => htn h.symm) (by omega) hm h6 hw hv (by omega)) rfl (fun I1 hI1 => ?_)
    obtain ⟨f1, m1⟩ := hI1
    have hwf : f_wf (hArt I) 1 (f_sub (vl (hArt I) ss (I 67)) ts) := f_sub_wf_m _ (fun c hc => by unfold hArt; rw [if_pos hc]) (fun c hcm hn => by
      have := hv c hcm hn
      exact f_s_wf _ hw.2.2 (by omega)) htw
    have har1 : hArt I1 = hArt I := hArt_eq (f1 3 (by omega) (by omega))
    have hal1 : alf I1 := by
      unfold alf
      rw [f1 2 (by omega) (by omega), f1 3 (by omega) (by omega), f1 4 (by omega) (by omega)]
      exact hal
    refine sg_B_fl_3 (k := ?_)
    refine sc_vV (as := [.inr (.inl _)]) (rest := []) (cc := 2) ct_B_fillsToLess lk_T_findEnds lm_B_fe_109 (c_T_findEnds (d := d) hT_63 m1 hal1 (by rw [har1]; exact hwf)) rfl ?_
    have w2 := tw_fp (I := I1) (t := 63) (by omega) (by omega) m1 (by rw [har1]; exact hwf)
    have z2 : ∀ w, w ≠ 63 → w ≠ 64 → w ≠ 65 → sFp I1 63 (f_sub (vl (hArt I) ss (I 67)) ts) (-1) w = I w := fun w g1 g2 g3 => by
      rw [← f1 w g1 g2]
      funext k
      unfold sFp
      rw [if_neg (fun h => g3 h.1)]
    have hw2 := tw_upd hw (z2 57 (by omega) (by omega) (by omega)) (z2 58 (by omega) (by omega) (by omega)) (z2 59 (by omega) (by omega) (by omega)) (z2 3 (by omega) (by omega) (by omega))
    have har2 := hArt_eq (z2 3 (by omega) (by omega) (by omega))
    have c6f : ∀ c ∈ f_sub (vl (hArt I) ss (I 67)) ts, -6 ≤ c := fun c hc => by
      rcases f_sub_mem hc with h | ⟨y, hy, hn, h⟩
      · omega
      · exact hs6 c (f_s_mem h)
    refine sg_B_fl_4 (k := ?_)
    refine sc_vE (as := [.inr (.inl _), .inl _, .inr (.inl _)]) (rest := []) (cc := 4) ct_B_fillsToLess lk_O_isGreater lm_B_ig_121 (c_O_ig (d := d) hT_57 hT_63 hw2 w2 hs6 c6f h0 h1) rfl (fun r I3 hr => ?_)
    obtain ⟨hn, hr⟩ := hr
    rw [har2] at hr
    have z3 : ∀ w, w ≠ 63 → w ≠ 64 → w ≠ 65 → w ≠ 74 → I3 w = I w := fun w g1 g2 g3 g4 => by rw [hn w g4, z2 w g1 g2 g3]
    rcases hr with ⟨rfl, hg⟩ | ⟨rfl, hg⟩
    · exact sc_retZ ct_B_fillsToLess ⟨_, _, rfl, rfl, z3, Or.inr ⟨rfl, hg, by omega, tw_upd w2 (hn _ (by omega)) (hn _ (by omega)) (hn _ (by omega)) (hn _ (by omega))⟩⟩
    · exact sc_retZ ct_B_fillsToLess ⟨_, _, rfl, rfl, z3, Or.inl ⟨rfl, hg⟩⟩
  · refine sg_B_fl_f (k := ?_)
    have hc' : ¬ ((f_sub (vl (hArt I) ss (I 67)) ts).length : Int) ≤ I 59 p - p := hc
    exact sc_retZ ct_B_fillsToLess ⟨_, _, rfl, rfl, fun _ _ _ _ _ => rfl, Or.inl ⟨rfl, hbig _ rfl (by omega)⟩⟩
end CB9
