/-! the calls one by one -/
theorem fN_ne (a : Nat) (u v : Int) (hu : u ≠ 0) (hv : v ≠ 0) : ∀ n : Nat, (if n = a then u else v) ≠ 0 := by
  intro n
  split
  · exact hu
  · exact hv
theorem sR_01 {z : Int} (h : z = 0 ∨ z = 1) : sR z := by unfold sR; omega
theorem tw_ar {I I' : sI} {t : Nat} {cs : List Int} (h : tw I t cs) (h0 : I' t = I t) (h1 : I' (t + 1) = I (t + 1)) (h2 : I' (t + 2) = I (t + 2)) (ha : ∀ e ∈ cs, hArt I' e = hArt I e) : tw I' t cs := by
  obtain ⟨g1, g2, g3⟩ := h
  refine ⟨tm_upd g1 h0 h1, fun k hk => ?_, f_wf_ar cs 1 ha g3⟩
  rw [h2, g2 k hk, f_tk_ar (cs.drop k) 1 (fun e he => ha e (List.mem_of_mem_drop he))]
theorem JB_sy {c : Nat} {I I0 : sI} {rw : List Int} {sl : Int → List Int} {sub : List Int} {mo : Int} {lv : Int → List Int} {n z : Int} (hB : JB c I rw sl sub mo lv) (hn : 0 ≤ n ∧ n ≤ 5) (hz : z = 0 ∨ z = 1) (h40 : I 2 2 < 40) (h3 : ∀ e, I0 3 e = if e = I 2 2 then n else I 3 e) (h4 : ∀ e, I0 4 e = if e = I 2 2 then z else I 4 e) (h2 : I0 2 2 = I 2 2 + 1) (hw : ∀ w, w ≠ 2 → w ≠ 3 → w ≠ 4 → I0 w = I w) :
    JB c I0 rw sl sub mo lv ∧ hArt I0 = (fun e => if e = I 2 2 then n.toNat else hArt I e) ∧ hPr I0 = (fun e => if e = I 2 2 then decide (z ≠ 0) else hPr I e) := by
  obtain ⟨g1, g2, g3, g4, g5, g6, g7⟩ := hB
  have hns := g1.1
  have eA : hArt I0 = (fun e => if e = I 2 2 then n.toNat else hArt I e) := by
    funext e
    unfold hArt
    rw [h3]
    by_cases he : e = I 2 2
    · rw [if_pos he, if_pos he, if_neg (by omega)]
    · rw [if_neg he, if_neg he]
  have eP : hPr I0 = (fun e => if e = I 2 2 then decide (z ≠ 0) else hPr I e) := by
    funext e
    unfold hPr
    rw [h4]
    by_cases he : e = I 2 2
    · rw [if_pos he, if_pos he, decide_eq_true (show 0 ≤ e by omega), Bool.true_and]
    · rw [if_neg he, if_neg he]
  have hag : ∀ cs, cOkc I cs → ∀ e ∈ cs, hArt I0 e = hArt I e := fun cs hc e he => by
    have := hc e he
    rw [eA]
    show (if e = I 2 2 then n.toNat else hArt I e) = _
    rw [if_neg (by omega)]
  have hco : ∀ cs, cOkc I cs → cOkc I0 cs := fun cs hc e he => by
    have := hc e he
    rw [h2]
    omega
  refine ⟨⟨⟨by rw [h2]; omega, fun e e0 e1 => ?_, fun e => ?_⟩, fun e he => ?_, fun a ha => ?_, ⟨tm_upd g4.1 (hw _ (by omega) (by omega) (by omega)) (hw _ (by omega) (by omega) (by omega)), ?_, ?_, ?_, hco _ g4.2.2.2.2⟩, ⟨tw_ar g5.1 (hw _ (by omega) (by omega) (by omega)) (hw _ (by omega) (by omega) (by omega)) (hw _ (by omega) (by omega) (by omega)) (hag _ g5.2.1), hco _ g5.2.1, ?_⟩, ?_, ?_⟩, eA, eP⟩
  · rw [h3]
    split
    · exact hn
    · exact g1.2.1 e e0 e1
  · rw [h4]
    split
    · exact hz
    · exact g1.2.2 e
  · rw [h3, if_neg (by omega)]
    exact g2 e (by omega)
  · have hb := ha
    unfold okS at hb
    obtain ⟨q1, q2⟩ := g3 a ha
    exact ⟨tw_ar q1 (hw _ (by omega) (by omega) (by omega)) (hw _ (by omega) (by omega) (by omega)) (hw _ (by omega) (by omega) (by omega)) (hag _ q2), hco _ q2⟩
  · rw [hw 1 (by omega) (by omega) (by omega)]
    exact f_pr_ar _ _ _ (hag _ g4.2.2.2.2) g4.2.1
  · rw [hw 1 (by omega) (by omega) (by omega)]
    exact g4.2.2.1
  · rw [hw 1 (by omega) (by omega) (by omega), hw 54 (by omega) (by omega) (by omega)]
    exact g4.2.2.2.1
  · rw [hw 69 (by omega) (by omega) (by omega)]
    exact g5.2.2
  · rw [hw 69 (by omega) (by omega) (by omega)]
    refine ⟨g6.1, g6.2.1, fun v v0 v1 => ?_⟩
    rw [g6.2.2 v v0 v1]
    unfold lvO
    split
    · rfl
    · rw [f_s_ar sub _ (hag _ g5.2.1)]
  · rw [hw 1 (by omega) (by omega) (by omega)]
    exact g7
section COP1
variable {l : Launch} {G : sG} {L : Nat} {c : Nat} {I : sI}
theorem op_sy (hl : l.stackTraces = false) (hJ : J c I) {n z : Int} (hn : sR n) (hz : z = 0 ∨ z = 1) : sCall l G mL_symbol (sRm 8 1) [.inr (.inl 1), .inl n, .inl z, .inr (.inl 124)] (hS L 1 I) (qE L 1 (opQ l G L c I mM_symbol [.inl n, .inl z])) := by
  obtain ⟨rw, sl, sub, mo, lv, hB, hR⟩ := hJ
  have hal := hB.1
  refine op_of (fN_ne 1 1 2 (by decide) (by decide)) (c_L_sy (d := 7) hn (sR_01 hz) (c_B_symbol (d := 1) hl (by decide) hal hn hz) (fun n I' h => ?_)) (fun r I0 hP => ?_)
  · rcases h with ⟨h, -⟩ | ⟨h, -⟩ | ⟨-, -, h, -⟩
    · cases h; exact Or.inl rfl
    · cases h; exact Or.inr rfl
    · cases h
  · rcases hP with ⟨hr, hI, hc⟩ | ⟨hr, hI, hc, h40⟩ | ⟨hc, h40, hr, hI⟩
    · rw [hr, hI]
      refine ⟨rfl, fun I1 h124 => sCall_mono (c_R_sy (d := 403) (rS_fr hR (fun w g1 g2 => h124 w (by omega))) ⟨hal.1.1, hal.1.2⟩ hn hz) (fun r S' h => ?_)⟩
      obtain ⟨q, I2, rfl, rfl, hfr, h⟩ := h
      refine ⟨q, I2, rfl, rfl, ?_⟩
      rcases h with ⟨t, -, hS⟩ | ⟨t, hc2, -⟩ | ⟨t, hc2, -⟩
      · exact ⟨t, hfr, rw, sl, sub, mo, lv, JB_mono hB, hS⟩
      · exact absurd hc2 hc
      · exact absurd hc2 hc
    · rw [hr, hI]
      refine ⟨rfl, fun I1 h124 => sCall_mono (c_R_sy (d := 403) (rS_fr hR (fun w g1 g2 => h124 w (by omega))) ⟨hal.1.1, hal.1.2⟩ hn hz) (fun r S' h => ?_)⟩
      obtain ⟨q, I2, rfl, rfl, hfr, h⟩ := h
      refine ⟨q, I2, rfl, rfl, ?_⟩
      rcases h with ⟨t, hc2, -⟩ | ⟨t, -, -, hS⟩ | ⟨t, -, h2, -⟩
      · exact absurd hc hc2
      · exact ⟨t, hfr, rw, sl, sub, mo, lv, JB_mono hB, hS⟩
      · omega
    · rw [hr]
      have h0 : I0 0 = I 0 := by rw [hI, sU_ne (by omega), sU_ne (by omega), sU_ne (by omega)]
      have hw : ∀ w, w ≠ 2 → w ≠ 3 → w ≠ 4 → I0 w = I w := fun w w2 w3 w4 => by rw [hI, sU_ne w2, sU_ne w4, sU_ne w3]
      obtain ⟨hB0, eA, eP⟩ := JB_sy (I0 := I0) hB hc hz h40 (fun e => by
        rw [hI, sU_ne (by omega), sU_ne (by omega)]
        by_cases he : e = I 2 2
        · rw [he, hU_eq, if_pos rfl]
        · rw [hU_nj he, if_neg he]) (fun e => by
        rw [hI, sU_ne (by omega)]
        by_cases he : e = I 2 2
        · rw [he, hU_eq, if_pos rfl]
        · rw [hU_nj he, if_neg he, sU_ne (by omega)]) (by rw [hI, hU_eq]) hw
      refine ⟨h0, fun I1 h124 => sCall_mono (c_R_sy (d := 403) (rS_fr hR (fun w g1 g2 => by rw [h124 w (by omega), hw w (by omega) (by omega) (by omega)])) ⟨hal.1.1, hal.1.2⟩ hn hz) (fun r S' h => ?_)⟩
      obtain ⟨q, I2, rfl, rfl, hfr, h⟩ := h
      refine ⟨q, I2, rfl, rfl, ?_⟩
      rcases h with ⟨t, hc2, -⟩ | ⟨t, -, h2, -⟩ | ⟨t, -, -, hq, hS⟩
      · exact absurd hc hc2
      · omega
      · refine ⟨⟨t, hq⟩, hfr, rw, sl, sub, mo, lv, JB_mono hB0, ?_⟩
        rw [eA, eP, hw 1 (by omega) (by omega) (by omega), show I0 2 2 = I 2 2 + 1 by rw [hI, hU_eq]]
        exact hS
theorem op_pu (hl : l.stackTraces = false) (hJ : J c I) {e : Int} (he : sR e) : sCall l G mL_put (sRm 8 1) [.inr (.inl 1), .inl e, .inr (.inl 124)] (hS L 1 I) (qE L 1 (opQ l G L c I mM_put [.inl e])) := by
  obtain ⟨rw, sl, sub, mo, lv, hB, hR⟩ := hJ
  have hal := hB.1
  obtain ⟨g1, g2, g3, g4, g5, g6, g7⟩ := hB
  have hlen := g4.1.1
  have hl100 := g4.1.2.1
  refine op_of (fN_ne 0 1 2 (by decide) (by decide)) (c_L_pu (d := 7) he (c_B_put (d := 1) hl (by decide) hal he (by omega) g4.2.2.1 g4.2.2.2.1) (fun n I' h => ?_)) (fun r I0 hP => ?_)
  · rcases h with ⟨h, -⟩ | ⟨-, ⟨h, -⟩ | ⟨-, -, h, -⟩⟩
    · cases h; exact Or.inl rfl
    · cases h; exact Or.inr rfl
    · cases h
  · have hRc : ∀ I1, (∀ w, 84 ≤ w → w ≤ 123 → I1 w = I w) → sCall l G mM_put (sRm 404 0) [.inr (.inl 84), .inl e] (hS L 1 I1) _ := fun I1 h1 => c_R_pu (d := 403) (rS_fr hR h1) ⟨hal.1.1, hal.1.2⟩ hl100 ⟨g4.2.2.1, by omega⟩ he
    rcases hP with ⟨hr, hI, hc⟩ | ⟨hc, ⟨hr, hI, h2⟩ | ⟨h1, h2, hr, hI⟩⟩
    · rw [hr, hI]
      refine ⟨rfl, fun I1 h124 => sCall_mono (hRc I1 (fun w g1 g2 => h124 w (by omega))) (fun r S' h => ?_)⟩
      obtain ⟨q, I2, rfl, rfl, hfr, h⟩ := h
      refine ⟨q, I2, rfl, rfl, ?_⟩
      rcases h with ⟨t, -, hS⟩ | ⟨t, hc2, -⟩ | ⟨t, hc2, -⟩
      · exact ⟨t, hfr, rw, sl, sub, mo, lv, JB_mono ⟨g1, g2, g3, g4, g5, g6, g7⟩, hS⟩
      · exact absurd hc2 hc
      · exact absurd hc2 hc
    · rw [hr, hI]
      refine ⟨rfl, fun I1 h124 => sCall_mono (hRc I1 (fun w g1 g2 => h124 w (by omega))) (fun r S' h => ?_)⟩
      obtain ⟨q, I2, rfl, rfl, hfr, h⟩ := h
      refine ⟨q, I2, rfl, rfl, ?_⟩
      rcases h with ⟨t, hc2, -⟩ | ⟨t, -, -, hS⟩ | ⟨t, -, h3, h4, -⟩
      · exact absurd hc hc2
      · exact ⟨t, hfr, rw, sl, sub, mo, lv, JB_mono ⟨g1, g2, g3, g4, g5, g6, g7⟩, hS⟩
      · omega
    · rw [hr]
      have hw : ∀ w, w ≠ 1 → w ≠ 54 → w ≠ 55 → I0 w = I w := fun w w1 w2 w3 => by rw [hI, sU_ne w1, sU_ne w2, sU_ne w3]
      have h13 : I0 1 3 = I 1 3 - 1 + hArt I e := by rw [hI, hU_eq]
      have h112 : I0 1 12 = I 1 12 := by rw [hI, hU_nj (by omega), sU_ne (by omega), sU_ne (by omega)]
      have eA : hArt I0 = hArt I := hArt_eq (hw 3 (by omega) (by omega) (by omega))
      have eP : hPr I0 = hPr I := hPr_eq (hw 4 (by omega) (by omega) (by omega))
      have h54 : I0 54 2 = I 54 2 + 1 := by rw [hI, sU_ne (by omega), hU_eq]
      have hB0 : JB c I0 (rw ++ [e]) sl sub mo lv := by
        refine ⟨alf_fr g1 (hw _ (by omega) (by omega) (by omega)) (hw _ (by omega) (by omega) (by omega)) (hw _ (by omega) (by omega) (by omega)), by rw [hw 2 (by omega) (by omega) (by omega), hw 3 (by omega) (by omega) (by omega)]; exact g2, hSl_fr g3 (hw _ (by omega) (by omega) (by omega)) (hw _ (by omega) (by omega) (by omega)) (fun w w1 w2 => hw w (by omega) (by omega) (by omega)), ⟨?_, ?_, by rw [h13]; have := g4.2.2.1; omega, by rw [h13, h54]; omega, ?_⟩, ⟨tw_upd g5.1 (hw _ (by omega) (by omega) (by omega)) (hw _ (by omega) (by omega) (by omega)) (hw _ (by omega) (by omega) (by omega)) (hw _ (by omega) (by omega) (by omega)), ?_, by rw [hw 69 (by omega) (by omega) (by omega)]; exact g5.2.2⟩, by rw [hw 69 (by omega) (by omega) (by omega), eA]; exact g6, by rw [h112]; exact g7⟩
        · rw [hI]
          exact tm_upd (tm_add (t := 54) g4.1 (by omega) ⟨by omega, by have := hal.1; omega⟩) (sU_ne (by omega)) (sU_ne (by omega))
        · rw [eA, h13]
          have := f_pr_app (c := e) (ar := hArt I) rw 1 ((I 1 3).toNat - 1) (by rw [show (I 1 3).toNat - 1 + 1 = (I 1 3).toNat by have := g4.2.2.1; omega]; exact g4.2.1)
          rw [show (I 1 3 - 1 + (hArt I e : Int)).toNat = (I 1 3).toNat - 1 + hArt I e by have := g4.2.2.1; omega]
          exact this
        · intro e' h'
          rw [hw 2 (by omega) (by omega) (by omega)]
          rcases List.mem_append.mp h' with h' | h'
          · exact g4.2.2.2.2 e' h'
          · rw [List.mem_singleton] at h'
            rw [h']
            exact hc
        · intro e' h'
          rw [hw 2 (by omega) (by omega) (by omega)]
          exact g5.2.1 e' h'
      refine ⟨hw 0 (by omega) (by omega) (by omega), fun I1 h124 => sCall_mono (hRc I1 (fun w g1 g2 => by rw [h124 w (by omega), hw w (by omega) (by omega) (by omega)])) (fun r S' h => ?_)⟩
      obtain ⟨q, I2, rfl, rfl, hfr, h⟩ := h
      refine ⟨q, I2, rfl, rfl, ?_⟩
      rcases h with ⟨t, hc2, -⟩ | ⟨t, -, h3, -⟩ | ⟨t, -, -, -, hq, hS⟩
      · exact absurd hc hc2
      · omega
      · refine ⟨⟨t, hq⟩, hfr, rw ++ [e], sl, sub, mo, lv, JB_mono hB0, ?_⟩
        rw [eA, eP, h13, h112, hw 2 (by omega) (by omega) (by omega)]
        exact hS
end COP1
