/-! TermBench: rewriteFirstPlace -/
theorem lm_B_fl_205 : sLm "TermBench" 205 mB_fillsToLess = true := by decide +kernel
/-- the rule's use at a place of the row -/
def apR (ar : Int → Nat) (pr : Int → Bool) (ls ts ss : List Int) (p : Nat) (bb : Int → Int) : Prop := ∃ e, mf ar pr ss ls p (fun _ => -1) = some (e, bb) ∧ gt ar (f_s ar ss p) (f_sub (vl ar ss bb) ts)
def wkF (I I' : sI) : Prop := ∀ w, (w < 57 ∨ 66 ≤ w) → w ≠ 67 → w ≠ 74 → I' w = I w
section CB10
variable {l : Launch} {G : sG} {L x d : Nat} {I : sI}
theorem c_B_rf (hx : x ≠ 0) {s t : Nat} {lf ts ss : List Int} (hal : alf I) (hs : hT s) (ht : hT t) (hs54 : s < 54) (ht54 : t < 54) (hml : tm I s lf) (h6l : ∀ c ∈ lf, -6 ≤ c) (hmt : tm I t ts) (h6t : ∀ c ∈ ts, -6 ≤ c) (htw : f_wf (hArt I) 1 ts) (hw : tw I 57 ss) (hs6 : ∀ c ∈ ss, -6 ≤ c) (hsub : ∀ c ∈ ts, c < 0 → c ∈ lf) :
    sCall l G mB_rewriteFirstPlace (sRm (d + 5) 0) [.inr (.inl 1), .inr (.inl s), .inr (.inl t)] (hS L x I) (qE L x (fun r I' => wkF I I' ∧ ((r = 0 ∧ tw I' 57 ss ∧ ∀ p bb, p < ss.length → ¬ apR (hArt I) (hPr I) lf ts ss p bb) ∨ (r = 1 ∧ ∃ p bb, p < ss.length ∧ (∀ q b2, q < p → ¬ apR (hArt I) (hPr I) lf ts ss q b2) ∧ apR (hArt I) (hPr I) lf ts ss p bb ∧ tw I' 57 (spl (hArt I) ss p (f_sub (vl (hArt I) ss bb) ts)))))) := by
  have h100 := hw.1.2.1
  refine sCall_of (by decide) (Nat.le_of_ble_eq_true rfl) (sV1s_c trivial (sV1s_c trivial (sV1s_c trivial sV1s_n))) rfl ?_
  show sJ l G mB_rewriteFirstPlace (sRm (d + 5) 0) _ 0 (6 * 0) 0 [some (.inr (.inl 1)), some (.inr (.inl s)), some (.inr (.inl t)), none] [] (hSh L, hRF, I, x)
  have l1 := hT_lt hs
  have l2 := hT_lt ht
  have loop : ∀ (n p : Nat) (I' : sI), n = ss.length - p → p ≤ ss.length → (∀ w, w ≠ 63 → w ≠ 64 → w ≠ 65 → w ≠ 67 → w ≠ 74 → I' w = I w) → (∀ q b2, q < p → ¬ apR (hArt I) (hPr I) lf ts ss q b2) → sJ l G mB_rewriteFirstPlace (sRm (d + 5) 0) (qE L x (fun r I' => wkF I I' ∧ ((r = 0 ∧ tw I' 57 ss ∧ ∀ p bb, p < ss.length → ¬ apR (hArt I) (hPr I) lf ts ss p bb) ∨ (r = 1 ∧ ∃ p bb, p < ss.length ∧ (∀ q b2, q < p → ¬ apR (hArt I) (hPr I) lf ts ss q b2) ∧ apR (hArt I) (hPr I) lf ts ss p bb ∧ tw I' 57 (spl (hArt I) ss p (f_sub (vl (hArt I) ss bb) ts)))))) 0 (6 * 0) 2 [some (.inr (.inl 1)), some (.inr (.inl s)), some (.inr (.inl t)), some (.inl p)] [] (hSh L, hRF, I', x) := by
    intro n
    induction n with
    | zero =>
      intro p I' hn hp hI hno
      have : p = ss.length := by omega
      subst this
      have e0 : I' 57 2 = ss.length := by rw [hI 57 (by omega) (by omega) (by omega) (by omega) (by omega)]; exact hw.1.1
      refine sg_B_rf_x (k := ?_)
      exact sc_retZ ct_B_rewriteFirstPlace ⟨_, _, rfl, rfl, fun w g1 g2 g3 => hI w (by omega) (by omega) (by omega) g2 g3, Or.inl ⟨rfl, tw_upd hw (hI _ (by omega) (by omega) (by omega) (by omega) (by omega)) (hI _ (by omega) (by omega) (by omega) (by omega) (by omega)) (hI _ (by omega) (by omega) (by omega) (by omega) (by omega)) (hI _ (by omega) (by omega) (by omega) (by omega) (by omega)), fun q bb hq => hno q bb hq⟩⟩
    | succ n ih =>
      intro p I' hn hp hI hno
      have hpl : p < ss.length := by omega
      have zz : ∀ w, w < 63 → I' w = I w := fun w h => hI w (by omega) (by omega) (by omega) (by omega) (by omega)
      have e0 : I' 57 2 = ss.length := by rw [zz 57 (by omega)]; exact hw.1.1
      have har : hArt I' = hArt I := hArt_eq (zz 3 (by omega))
      have hpr : hPr I' = hPr I := hPr_eq (zz 4 (by omega))
      have hw' : tw I' 57 ss := tw_upd hw (zz _ (by omega)) (zz _ (by omega)) (zz _ (by omega)) (zz _ (by omega))
      refine sg_B_rf_c (k := ?_)
      refine sc_vE (as := [.inr (.inl _), .inr (.inl _), .inl _, .inr (.inl _)]) (rest := []) (cc := 3) ct_B_rewriteFirstPlace lk_V_find lm_B_fi_137 (c_V_find (d := d) hs hT_57 (tm_upd hml (zz _ (by omega)) (zz _ (by omega))) h6l hw' (by omega) (by omega)) rfl (fun r I1 hr => ?_)
      obtain ⟨f1, hr⟩ := hr
      rw [har, hpr, show ((p : Int)).toNat = p from rfl] at hr
      have next : ∀ I2 : sI, (∀ w, w ≠ 63 → w ≠ 64 → w ≠ 65 → w ≠ 67 → w ≠ 74 → I2 w = I w) → (∀ b2, ¬ apR (hArt I) (hPr I) lf ts ss p b2) → _ := fun I2 hI2 hn2 => ih (p + 1) I2 (by omega) (by omega) hI2 (fun q b2 hq => by
        by_cases hqp : q = p
        · subst hqp; exact hn2 b2
        · exact hno q b2 (by omega))
      have z1 : ∀ w, w ≠ 63 → w ≠ 64 → w ≠ 65 → w ≠ 67 → w ≠ 74 → I1 w = I w := fun w g1 g2 g3 g4 g5 => by rw [f1 w g4, hI w g1 g2 g3 g4 g5]
      rcases hr with ⟨rfl, hm⟩ | ⟨rfl, e, bb, hm, hbo, hbb⟩
      · refine sg_B_rf_n (k := ?_)
        exact next I1 z1 (fun b2 h => by obtain ⟨e2, h2, -⟩ := h; rw [hm] at h2; cases h2)
      · refine sg_B_rf_d (k := ?_)
        have y1 : ∀ w, w < 63 → I1 w = I w := fun w h => z1 w (by omega) (by omega) (by omega) (by omega) (by omega)
        have har1 : hArt I1 = hArt I := hArt_eq (y1 3 (by omega))
        have hal1 : alf I1 := by
          unfold alf
          rw [y1 2 (by omega), y1 3 (by omega), y1 4 (by omega)]
          exact hal
        have hw1 : tw I1 57 ss := tw_upd hw (y1 _ (by omega)) (y1 _ (by omega)) (y1 _ (by omega)) (y1 _ (by omega))
        have hval : ∀ c ∈ ts, c < 0 → I1 67 (-1 - c) = bb (-1 - c) := fun c hc hn => hbb _ (by omega) (by have := h6t c hc; omega)
        have hfe : f_sub (vl (hArt I) ss (I1 67)) ts = f_sub (vl (hArt I) ss bb) ts := f_sub_congr (fun c hc hn => by unfold vl; rw [hval c hc hn])
        refine sc_vE (as := [.inr (.inl _), .inl _]) (rest := []) (cc := 0) ct_B_rewriteFirstPlace lk_B_fillsToLess lm_B_fl_205 (c_B_fl (d := d) hal1 ht (by omega) (tm_upd hmt (y1 _ (by omega)) (y1 _ (by omega))) h6t (by rw [har1]; exact htw) hw1 hs6 (fun c hc hn => by
          rw [hval c hc hn]
          have h9 := (mf_dom _ _ _ _ _ _ _ _ hm).2 c (hsub c hc hn) hn
          exact (hbo (-1 - c) (by omega) (by have := h6t c hc; omega)).resolve_left h9) (by omega) (by omega)) rfl (fun r2 I2 hr2 => ?_)
        obtain ⟨f2, hr2⟩ := hr2
        rw [har1, hfe, show ((p : Int)).toNat = p from rfl] at hr2
        have z2 : ∀ w, w ≠ 63 → w ≠ 64 → w ≠ 65 → w ≠ 67 → w ≠ 74 → I2 w = I w := fun w g1 g2 g3 g4 g5 => by rw [f2 w g1 g2 g3 g5, z1 w g1 g2 g3 g4 g5]
        rcases hr2 with ⟨rfl, hg⟩ | ⟨rfl, hg, hlen, hw63⟩
        · refine sg_B_rf_m (k := ?_)
          exact next I2 z2 (fun b2 h => by
            obtain ⟨e2, h2, h3⟩ := h
            rw [hm] at h2
            cases h2
            exact hg h3)
        · refine sg_B_rf_e (k := ?_)
          have y2 : ∀ w, w < 63 → I2 w = I w := fun w h => z2 w (by omega) (by omega) (by omega) (by omega) (by omega)
          have har2 : hArt I2 = hArt I := hArt_eq (y2 3 (by omega))
          have hal2 : alf I2 := by
            unfold alf
            rw [y2 2 (by omega), y2 3 (by omega), y2 4 (by omega)]
            exact hal
          have hw2 : tw I2 57 ss := tw_upd hw (y2 _ (by omega)) (y2 _ (by omega)) (y2 _ (by omega)) (y2 _ (by omega))
          have hsl := spl_len (hArt I) (ds := f_sub (vl (hArt I) ss bb) ts) hw.2.2 hpl
          rw [f_s_len] at hlen
          refine sc_vF (as := [.inr (.inl _), .inl _, .inr (.inl _)]) (rest := []) (cc := 0) ct_B_rewriteFirstPlace lk_B_splice lm_B_sp_174 (c_B_splice (d := d) hal2 hT_57 hT_63 (by omega) (by omega) hw2 hw63.1 hw63.2.2 (by omega) (by omega) (by rw [har2]; show (spl (hArt I) ss p _).length ≤ 100; omega)) rfl (fun I3 hI3 => ?_)
          obtain ⟨w3, f3⟩ := hI3
          rw [har2] at w3
          change tw I3 60 (spl (hArt I) ss p (f_sub (vl (hArt I) ss bb) ts)) at w3
          have hl3 := w3.1.1
          have hb3 := w3.1.2.1
          refine sg_B_rf_f (k := ?_)
          refine sc_vV (as := [.inr (.inl _)]) (rest := []) (cc := 2) ct_B_rewriteFirstPlace lk_T_become lm_B_bc_145 (c_T_become (d := d) hx hT_57 hT_60 (by omega) (by omega) (by omega)) rfl ?_
          obtain ⟨w5, f5⟩ := tw_bc hT_57 hT_60 (by omega) w3
          refine sg_B_rf_g (k := ?_)
          exact sc_retZ ct_B_rewriteFirstPlace ⟨_, _, rfl, rfl, fun w g1 g2 g3 => by rw [f5 w (by omega) (by omega) (by omega), f3 w (by omega) (by omega) (by omega), z2 w (by omega) (by omega) (by omega) g2 g3], Or.inr ⟨rfl, p, bb, hpl, hno, ⟨e, hm, hg⟩, w5⟩⟩
  refine sg_B_rf_0 (k := ?_)
  exact loop ss.length 0 I rfl (Nat.zero_le _) (fun _ _ _ _ _ _ => rfl) (fun q b2 hq => by omega)
end CB10
