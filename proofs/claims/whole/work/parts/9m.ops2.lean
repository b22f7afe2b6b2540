/-! the calls one by one: keep, order, code, told, bound, replace -/
theorem ordV_uniq {ar : Int → Nat} {s t : List Int} {v r : Int} (h : ordV ar s t v) (h2 : ordV ar s t r) : v = r := by
  rcases h with ⟨a1, a2⟩ | ⟨a1, a2, a3⟩ | ⟨a1, a2, a3, a4⟩ | ⟨a1, a2, a3, a4⟩ <;> rcases h2 with ⟨b1, b2⟩ | ⟨b1, b2, b3⟩ | ⟨b1, b2, b3, b4⟩ | ⟨b1, b2, b3, b4⟩ <;> first | omega | exact absurd a2 b2 | exact absurd b2 a2 | exact absurd a3 b3 | exact absurd b3 a3 | exact absurd a4 b4 | exact absurd b4 a4
section COP2
variable {l : Launch} {G : sG} {L : Nat} {c : Nat} {I : sI}
theorem op_ke (hl : l.stackTraces = false) (hJ : J c I) {a : Int} (ha : sR a) : sCall l G mL_keep (sRm 8 2) [.inr (.inl 1), .inl a, .inr (.inl 124)] (hS L 1 I) (qE L 1 (opQ l G L c I mM_keep [.inl a])) := by
  obtain ⟨rw, sl, sub, mo, lv, hB, hR⟩ := hJ
  have hB' := hB
  obtain ⟨g1, g2, g3, g4, g5, g6, g7⟩ := hB'
  have hl100 := g4.1.2.1
  refine op_of (fN_ne 0 1 2 (by decide) (by decide)) (c_L_ke (d := 7) ha (c_B_keep (d := 0) hl (by decide) g1 ha g4.1 (fun h => f_pr_wf _ _ (by have := g4.2.1; rw [h] at this; exact this))) (fun n I' h => ?_)) (fun r I0 hP => ?_)
  · rcases h with ⟨h, -⟩ | ⟨h, -⟩ | ⟨-, -, h, -⟩
    · cases h; exact Or.inl rfl
    · cases h; exact Or.inr rfl
    · cases h
  · have hRc : ∀ I1, (∀ w, 84 ≤ w → w ≤ 123 → I1 w = I w) → sCall l G mM_keep (sRm 404 0) [.inr (.inl 84), .inl a] (hS L 1 I1) _ := fun I1 h1 => c_R_ke (d := 402) (rS_fr hR h1) hl100 ha
    have hlk := g4.2.2.1
    rcases hP with ⟨hr, hI, hc⟩ | ⟨hr, hI, hc, h2⟩ | ⟨hc, h2, hr, ht, h54, h13, h1k, hw⟩
    · rw [hr, hI]
      refine ⟨rfl, fun I1 h124 => sCall_mono (hRc I1 (fun w g1 g2 => h124 w (by omega))) (fun r S' h => ?_)⟩
      obtain ⟨q, I2, rfl, rfl, hfr, h⟩ := h
      refine ⟨q, I2, rfl, rfl, ?_⟩
      rcases h with ⟨t, -, hS⟩ | ⟨t, hc2, -⟩ | ⟨t, hc2, -⟩
      · exact ⟨t, hfr, rw, sl, sub, mo, lv, JB_mono hB, hS⟩
      · exact absurd hc2 hc
      · exact absurd hc2 hc
    · rw [hr, hI]
      refine ⟨rfl, fun I1 h124 => sCall_mono (hRc I1 (fun w g1 g2 => h124 w (by omega))) (fun r S' h => ?_)⟩
      obtain ⟨q, I2, rfl, rfl, hfr, h⟩ := h
      refine ⟨q, I2, rfl, rfl, ?_⟩
      rcases h with ⟨t, hc2, -⟩ | ⟨t, -, -, hS⟩ | ⟨t, -, h3, -⟩
      · exact absurd hc hc2
      · exact ⟨t, hfr, rw, sl, sub, mo, lv, JB_mono hB, hS⟩
      · omega
    · rw [hr]
      have hc' := hc
      unfold okS at hc'
      have hw2 : ∀ w, w ≠ 1 → (w < 6 ∨ 56 < w) → I0 w = I w := fun w w1 w2 => hw w w1 (by omega) (by omega) (by omega) (by omega) (by omega)
      have eA : hArt I0 = hArt I := hArt_eq (hw2 3 (by omega) (by omega))
      have eP : hPr I0 = hPr I := hPr_eq (hw2 4 (by omega) (by omega))
      have h112 : I0 1 12 = I 1 12 := h1k 12 (by omega)
      have hB0 : JB c I0 [] (slU sl a rw) sub mo lv := by
        refine ⟨alf_fr g1 (hw2 _ (by omega) (by omega)) (hw2 _ (by omega) (by omega)) (hw2 _ (by omega) (by omega)), by rw [hw2 2 (by omega) (by omega), hw2 3 (by omega) (by omega)]; exact g2, hSl_set g3 (hw2 _ (by omega) (by omega)) (hw2 _ (by omega) (by omega)) hc (fun w w1 w2 w3 w4 w5 => hw w (by omega) (by omega) (by omega) w3 w4 w5) ht g4.2.2.2.2, ⟨⟨by rw [h54]; rfl, by simp, fun k h => by simp at h, fun e h => by cases h⟩, by rw [h13]; rfl, by rw [h13]; decide, by rw [h13, h54]; decide, fun e h => by cases h⟩, ⟨tw_upd g5.1 (hw2 _ (by omega) (by omega)) (hw2 _ (by omega) (by omega)) (hw2 _ (by omega) (by omega)) (hw2 _ (by omega) (by omega)), ?_, by rw [hw2 69 (by omega) (by omega)]; exact g5.2.2⟩, by rw [hw2 69 (by omega) (by omega), eA]; exact g6, by rw [h112]; exact g7⟩
        intro e' h'
        rw [hw2 2 (by omega) (by omega)]
        exact g5.2.1 e' h'
      refine ⟨hw2 0 (by omega) (by omega), fun I1 h124 => sCall_mono (hRc I1 (fun w g1 g2 => by rw [h124 w (by omega), hw2 w (by omega) (by omega)])) (fun r S' h => ?_)⟩
      obtain ⟨q, I2, rfl, rfl, hfr, h⟩ := h
      refine ⟨q, I2, rfl, rfl, ?_⟩
      rcases h with ⟨t, hc2, -⟩ | ⟨t, -, h3, -⟩ | ⟨t, -, -, hq, hS⟩
      · exact absurd hc hc2
      · omega
      · refine ⟨⟨t, hq⟩, hfr, [], slU sl a rw, sub, mo, lv, JB_mono hB0, ?_⟩
        rw [eA, eP, h13, h112, hw2 2 (by omega) (by omega)]
        exact hS
theorem op_or (hl : l.stackTraces = false) (hJ : J c I) {a b : Int} (ha : sR a) (hb : sR b) : sCall l G mL_order (sRm 8 2) [.inr (.inl 1), .inl a, .inl b, .inr (.inl 124)] (hS L 1 I) (qE L 1 (opQ l G L c I mM_order [.inl a, .inl b])) := by
  obtain ⟨rw, sl, sub, mo, lv, hB, hR⟩ := hJ
  refine op_of (fN_ne 0 1 1 (by decide) (by decide)) (c_L_or (d := 7) ha hb (c_B_order (d := 0) hl (by decide) hB.2.2.1 ha hb) (fun n I' h => ?_)) (fun r I0 hP => ?_)
  · rcases h with ⟨h, -⟩ | ⟨-, -, -, v, h, -⟩
    · cases h; rfl
    · cases h
  · have hRc : ∀ I1, (∀ w, 84 ≤ w → w ≤ 123 → I1 w = I w) → sCall l G mM_order (sRm 404 0) [.inr (.inl 84), .inl a, .inl b] (hS L 1 I1) _ := fun I1 h1 => c_R_or (d := 202) (rS_fr hR h1) (JB_wS hB) ha hb
    rcases hP with ⟨hr, hI, hc⟩ | ⟨hnz, ca, cb, v, hr, hv⟩
    · rw [hr, hI]
      refine ⟨rfl, fun I1 h124 => sCall_mono (hRc I1 (fun w g1 g2 => h124 w (by omega))) (fun r S' h => ?_)⟩
      obtain ⟨q, I2, rfl, rfl, hfr, h⟩ := h
      refine ⟨q, I2, rfl, rfl, ?_⟩
      rcases h with ⟨t, -⟩ | ⟨t, c1, c2, -⟩
      · exact ⟨t, scF_R hfr, rw, sl, sub, mo, lv, JB_mono hB, rS_upd (rS_fr hR (fun w g1 g2 => h124 w (by omega))) hfr⟩
      · exact absurd ⟨c1, c2⟩ hc
    · rw [hr]
      have hR1 : ∀ I1 : sI, (∀ w, w ≠ 124 → I1 w = I0 w) → ∀ w, 84 ≤ w → w ≤ 123 → I1 w = I w := fun I1 h124 w g1 g2 => by rw [h124 w (by omega), hnz w (by omega)]
      refine ⟨hnz 0 (by omega), fun I1 h124 => sCall_mono (hRc I1 (hR1 I1 h124)) (fun r S' h => ?_)⟩
      obtain ⟨q, I2, rfl, rfl, hfr, h⟩ := h
      refine ⟨q, I2, rfl, rfl, ?_⟩
      rcases h with ⟨t, hc2⟩ | ⟨t, -, -, hq⟩
      · exact absurd ⟨ca, cb⟩ hc2
      · refine ⟨⟨t, ordV_uniq hq hv⟩, scF_R hfr, rw, sl, sub, mo, lv, JB_mono (JB_fr hB (hnz _ (by omega)) (hnz _ (by omega)) (hnz _ (by omega)) (hnz _ (by omega)) (fun w _ _ => hnz w (by omega)) (hnz _ (by omega)) (hnz _ (by omega)) (hnz _ (by omega)) (hnz _ (by omega)) (hnz _ (by omega)) (hnz _ (by omega))), ?_⟩
        rw [hArt_eq (hnz 3 (by omega)), hPr_eq (hnz 4 (by omega)), hnz 2 (by omega), hnz 1 (by omega)]
        exact rS_upd (rS_fr hR (hR1 I1 h124)) hfr
theorem op_co (hl : l.stackTraces = false) (hJ : J c I) {a p : Int} (ha : sR a) (hp : sR p) : sCall l G mL_code (sRm 8 2) [.inr (.inl 1), .inl a, .inl p, .inr (.inl 124)] (hS L 1 I) (qE L 1 (opQ l G L c I mM_code [.inl a, .inl p])) := by
  obtain ⟨rw, sl, sub, mo, lv, hB, hR⟩ := hJ
  refine op_of (fN_ne 0 1 1 (by decide) (by decide)) (c_L_co (d := 7) ha hp (c_B_code (d := 0) hl (by decide) hB.2.2.1 ha hp) (fun n I' h => ?_)) (fun r I0 hP => ?_)
  · obtain ⟨-, h⟩ := h
    rcases h with ⟨h, -⟩ | ⟨h1, h2, h⟩
    · cases h; rfl
    · cases h
  · have hRc : ∀ I1, (∀ w, 84 ≤ w → w ≤ 123 → I1 w = I w) → sCall l G mM_code (sRm 404 0) [.inr (.inl 84), .inl a, .inl p] (hS L 1 I1) _ := fun I1 h1 => c_R_co (d := 402) (rS_fr hR h1) (fun a h => (JB_wS hB a h).2.1) ha hp
    obtain ⟨hI, hP⟩ := hP
    rw [hI]
    refine ⟨rfl, fun I1 h124 => sCall_mono (hRc I1 (fun w g1 g2 => h124 w (by omega))) (fun r2 S' h => ?_)⟩
    obtain ⟨q, I2, rfl, rfl, hfr, h⟩ := h
    refine ⟨q, I2, rfl, rfl, ?_⟩
    refine ⟨?_, scF_R hfr, rw, sl, sub, mo, lv, JB_mono hB, rS_upd (rS_fr hR (fun w g1 g2 => h124 w (by omega))) hfr⟩
    rcases hP with ⟨hr, hc⟩ | ⟨ca, hh, hr⟩
    · rw [hr]
      rcases h with ⟨t, -⟩ | ⟨t, c1, c2, -⟩
      · exact t
      · exact absurd ⟨c1, c2⟩ hc
    · rw [hr]
      rcases h with ⟨t, hc⟩ | ⟨t, c1, c2, hq⟩
      · exact absurd ⟨ca, hh⟩ hc
      · exact ⟨t, hq⟩
theorem op_to (hl : l.stackTraces = false) (hJ : J c I) {a u : Int} (ha : sR a) (hu : sR u) : sCall l G mL_told (sRm 8 2) [.inr (.inl 1), .inl a, .inl u, .inr (.inl 124)] (hS L 1 I) (qE L 1 (opQ l G L c I mM_told [.inl a, .inl u])) := by
  obtain ⟨rw, sl, sub, mo, lv, hB, hR⟩ := hJ
  refine op_of (fN_ne 0 1 2 (by decide) (by decide)) (c_L_to (d := 7) ha hu (c_B_told (d := 0) hl (by decide) hB.2.2.1 ha hu) (fun n I' h => ?_)) (fun r I0 hP => ?_)
  · rcases h with ⟨-, ⟨h, -⟩ | ⟨h, -⟩ | ⟨-, ⟨-, h⟩ | ⟨-, h⟩ | ⟨-, h⟩⟩⟩
    · cases h; exact Or.inl rfl
    · cases h; exact Or.inr rfl
    · cases h
    · cases h
    · cases h
  · have hRc : ∀ I1, (∀ w, 84 ≤ w → w ≤ 123 → I1 w = I w) → sCall l G mM_told (sRm 404 0) [.inr (.inl 84), .inl a, .inl u] (hS L 1 I1) _ := fun I1 h1 => c_R_to (d := 202) (rS_fr hR h1) (JB_wS hB) ha hu
    obtain ⟨hI, hP⟩ := hP
    rw [hI]
    refine ⟨rfl, fun I1 h124 => sCall_mono (hRc I1 (fun w g1 g2 => h124 w (by omega))) (fun r2 S' h => ?_)⟩
    obtain ⟨q, I2, rfl, rfl, hfr, h⟩ := h
    refine ⟨q, I2, rfl, rfl, ?_⟩
    refine ⟨?_, scF_R hfr, rw, sl, sub, mo, lv, JB_mono hB, rS_upd (rS_fr hR (fun w g1 g2 => h124 w (by omega))) hfr⟩
    rcases hP with ⟨hr, hc⟩ | ⟨hr, ca, hc⟩ | ⟨ca, hP⟩
    · rw [hr]
      rcases h with ⟨t, -⟩ | ⟨t, c1, -⟩ | ⟨t, c1, -⟩
      · exact t
      · exact absurd c1 hc
      · exact absurd c1 hc
    · rw [hr]
      rcases h with ⟨t, c1⟩ | ⟨t, c1, -⟩ | ⟨t, c1, hu3⟩
      · exact absurd ca c1
      · exact t
      · omega
    · rcases h with ⟨t, c1⟩ | ⟨t, -, c1⟩ | ⟨t, -, hu3⟩
      · exact absurd ca c1
      · omega
      · rcases hP with ⟨e, hr⟩ | ⟨e, hr⟩ | ⟨e, hr⟩ <;> rcases hu3 with ⟨e2, hq⟩ | ⟨e2, hq⟩ | ⟨e2, hq⟩ <;> first | omega | (rw [hr]; exact ⟨t, hq⟩)
theorem op_bo (hl : l.stackTraces = false) (hJ : J c I) {a v : Int} (ha : sR a) (hv : sR v) : sCall l G mL_bound (sRm 8 2) [.inr (.inl 1), .inl a, .inl v, .inr (.inl 124)] (hS L 1 I) (qE L 1 (opQ l G L c I mM_bound [.inl a, .inl v])) := by
  obtain ⟨rw, sl, sub, mo, lv, hB, hR⟩ := hJ
  have hB' := hB
  obtain ⟨g1, g2, g3, g4, g5, g6, g7⟩ := hB'
  have hlv : ∀ v, 0 ≤ v → v < 6 → (lv v).length ≤ 100 := fun v v0 v1 => by
    rw [g6.2.2 v v0 v1]
    unfold lvO
    split
    · simp
    · rw [f_s_len]
      have h1 := f_tk_le (hArt I) (sub.drop (I 69 v).toNat) 1
      rw [List.length_drop] at h1
      have h2 := g5.1.1.2.1
      omega
  have hle : ∀ v, 0 ≤ v → v < 6 → ((lv v).length ≠ 0 ↔ I 69 v ≠ -1) := fun v v0 v1 => by
    rw [g6.2.2 v v0 v1]
    unfold lvO
    by_cases h : I 69 v = -1
    · rw [if_pos h]
      simp [h]
    · rw [if_neg h]
      rcases g5.2.2 v v0 v1 with h3 | h3
      · exact absurd h3 h
      · have := (f_s_pos (hArt I) (p := (I 69 v).toNat) g5.1.2.2 (by omega)).1
        rw [f_s_len]
        exact ⟨fun _ => h, fun _ => by omega⟩
  refine op_of (fN_ne 0 1 1 (by decide) (by decide)) (c_L_bo (d := 7) ha hv (c_B_bound (d := 0) hl (by decide) g1 ha hv g5.1 g5.2.2) (fun n I' h => ?_)) (fun r I0 hP => ?_)
  · rcases h with ⟨h, -⟩ | ⟨-, -, h, -⟩
    · cases h; rfl
    · cases h
  · have hRc : ∀ I1, (∀ w, 84 ≤ w → w ≤ 123 → I1 w = I w) → sCall l G mM_bound (sRm 404 0) [.inr (.inl 84), .inl a, .inl v] (hS L 1 I1) _ := fun I1 h1 => c_R_bo (d := 402) (rS_fr hR h1) hlv g6.1 ha hv
    rcases hP with ⟨hr, hI, hc⟩ | ⟨ca, ⟨cv0, cv1, cv2⟩, hr, ht, hw⟩
    · rw [hr, hI]
      refine ⟨rfl, fun I1 h124 => sCall_mono (hRc I1 (fun w g1 g2 => h124 w (by omega))) (fun r S' h => ?_)⟩
      obtain ⟨q, I2, rfl, rfl, hfr, h⟩ := h
      refine ⟨q, I2, rfl, rfl, ?_⟩
      rcases h with ⟨t, -, hS⟩ | ⟨t, c1, c2, c3, c4, -⟩
      · exact ⟨t, hfr, rw, sl, sub, mo, lv, JB_mono hB, hS⟩
      · exact absurd ⟨c1, c3.1, c3.2, (hle v c3.1 c3.2).mp c4⟩ hc
    · rw [hr]
      have ca' := ca
      unfold okS at ca'
      have hw2 : ∀ w, (w < 6 ∨ 53 < w) → (w < 60 ∨ 63 ≤ w) → I0 w = I w := fun w w1 w2 => hw w w2 (by omega) (by omega) (by omega)
      have eA : hArt I0 = hArt I := hArt_eq (hw2 3 (by omega) (by omega))
      have eP : hPr I0 = hPr I := hPr_eq (hw2 4 (by omega) (by omega))
      have elv : lv v = f_s (hArt I) sub (I 69 v).toNat := by
        rw [g6.2.2 v cv0 cv1]
        unfold lvO
        rw [if_neg cv2]
      have hmo : mo = 1 := by
        rcases g6.1 with h | h
        · exact absurd (g6.2.1 h v cv0 cv1) cv2
        · exact h
      rw [← elv] at ht ⊢
      have hB0 : JB c I0 rw (slU sl a (lv v)) sub mo lv := by
        refine ⟨alf_fr g1 (hw2 _ (by omega) (by omega)) (hw2 _ (by omega) (by omega)) (hw2 _ (by omega) (by omega)), by rw [hw2 2 (by omega) (by omega), hw2 3 (by omega) (by omega)]; exact g2, hSl_set g3 (hw2 _ (by omega) (by omega)) (hw2 _ (by omega) (by omega)) ca (fun w w1 w2 w3 w4 w5 => hw w (by omega) w3 w4 w5) ht (fun e he => g5.2.1 e (by rw [elv] at he; exact f_s_mem he)), ⟨tm_upd g4.1 (hw2 _ (by omega) (by omega)) (hw2 _ (by omega) (by omega)), by rw [eA, hw2 1 (by omega) (by omega)]; exact g4.2.1, by rw [hw2 1 (by omega) (by omega)]; exact g4.2.2.1, by rw [hw2 1 (by omega) (by omega), hw2 54 (by omega) (by omega)]; exact g4.2.2.2.1, ?_⟩, ⟨tw_upd g5.1 (hw2 _ (by omega) (by omega)) (hw2 _ (by omega) (by omega)) (hw2 _ (by omega) (by omega)) (hw2 _ (by omega) (by omega)), ?_, by rw [hw2 69 (by omega) (by omega)]; exact g5.2.2⟩, by rw [hw2 69 (by omega) (by omega), eA]; exact g6, by rw [hw2 1 (by omega) (by omega)]; exact g7⟩
        · intro e' h'
          rw [hw2 2 (by omega) (by omega)]
          exact g4.2.2.2.2 e' h'
        · intro e' h'
          rw [hw2 2 (by omega) (by omega)]
          exact g5.2.1 e' h'
      refine ⟨hw2 0 (by omega) (by omega), fun I1 h124 => sCall_mono (hRc I1 (fun w g1 g2 => by rw [h124 w (by omega), hw2 w (by omega) (by omega)])) (fun r S' h => ?_)⟩
      obtain ⟨q, I2, rfl, rfl, hfr, h⟩ := h
      refine ⟨q, I2, rfl, rfl, ?_⟩
      rcases h with ⟨t, hc2, -⟩ | ⟨t, -, -, -, -, hq, hS⟩
      · exact absurd ⟨ca, hmo, cv0, cv1, (hle v cv0 cv1).mpr cv2⟩ hc2
      · refine ⟨⟨t, hq⟩, hfr, rw, slU sl a (lv v), sub, mo, lv, JB_mono hB0, ?_⟩
        rw [eA, eP, hw2 1 (by omega) (by omega), hw2 2 (by omega) (by omega)]
        exact hS
theorem op_rp (hl : l.stackTraces = false) (hJ : J c I) {z a p b : Int} (hz : sR z) (ha : sR a) (hp : sR p) (hb : sR b) : sCall l G mL_replace (sRm 8 5) [.inr (.inl 1), .inl z, .inl a, .inl p, .inl b, .inr (.inl 124)] (hS L 1 I) (qE L 1 (opQ l G L c I mM_replace [.inl z, .inl a, .inl p, .inl b])) := by
  obtain ⟨rw, sl, sub, mo, lv, hB, hR⟩ := hJ
  have hB' := hB
  obtain ⟨g1, g2, g3, g4, g5, g6, g7⟩ := hB'
  refine op_of (fN_ne 0 1 2 (by decide) (by decide)) (c_L_rp (d := 7) hz ha hp hb (c_B_replace (d := 0) hl (by decide) g1 g3 hz ha hp hb) (fun n I' h => ?_)) (fun r I0 hP => ?_)
  · rcases h with ⟨h, -⟩ | ⟨-, ⟨h, -⟩ | ⟨-, h, -⟩⟩
    · cases h; exact Or.inl rfl
    · cases h; exact Or.inr rfl
    · cases h
  · have hRc : ∀ I1, (∀ w, 84 ≤ w → w ≤ 123 → I1 w = I w) → sCall l G mM_replace (sRm 404 0) [.inr (.inl 84), .inl z, .inl a, .inl p, .inl b] (hS L 1 I1) _ := fun I1 h1 => c_R_rp (d := 202) (rS_fr hR h1) (JB_wS hB) hz ha hp hb
    rcases hP with ⟨hr, hI, hc⟩ | ⟨hc, ⟨hr, hI, h1⟩ | ⟨h1, hr, ht, hw⟩⟩
    · rw [hr, hI]
      refine ⟨rfl, fun I1 h124 => sCall_mono (hRc I1 (fun w g1 g2 => h124 w (by omega))) (fun r S' h => ?_)⟩
      obtain ⟨q, I2, rfl, rfl, hfr, h⟩ := h
      refine ⟨q, I2, rfl, rfl, ?_⟩
      rcases h with ⟨t, -, hS⟩ | ⟨t, c1, -⟩ | ⟨t, c1, -⟩
      · exact ⟨t, hfr, rw, sl, sub, mo, lv, JB_mono hB, hS⟩
      · exact absurd c1 hc
      · exact absurd c1 hc
    · rw [hr, hI]
      refine ⟨rfl, fun I1 h124 => sCall_mono (hRc I1 (fun w g1 g2 => h124 w (by omega))) (fun r S' h => ?_)⟩
      obtain ⟨q, I2, rfl, rfl, hfr, h⟩ := h
      refine ⟨q, I2, rfl, rfl, ?_⟩
      rcases h with ⟨t, c1, -⟩ | ⟨t, -, -, hS⟩ | ⟨t, -, h2, -⟩
      · exact absurd hc c1
      · exact ⟨t, hfr, rw, sl, sub, mo, lv, JB_mono hB, hS⟩
      · omega
    · rw [hr]
      obtain ⟨cz, ca, cb, cp0, cp1⟩ := hc
      have cz' := cz
      unfold okS at cz'
      have hw2 : ∀ w, (w < 6 ∨ 53 < w) → (w < 60 ∨ 63 ≤ w) → I0 w = I w := fun w w1 w2 => hw w w2 (by omega) (by omega) (by omega)
      have eA : hArt I0 = hArt I := hArt_eq (hw2 3 (by omega) (by omega))
      have eP : hPr I0 = hPr I := hPr_eq (hw2 4 (by omega) (by omega))
      have hco : cOkc I (spl (hArt I) (sl a) p.toNat (sl b)) := fun e he => by
        unfold spl at he
        rcases List.mem_append.mp he with he | he
        · exact (g3 a ca).2 e (List.mem_of_mem_take he)
        · rcases List.mem_append.mp he with he | he
          · exact (g3 b cb).2 e he
          · exact (g3 a ca).2 e (List.mem_of_mem_drop he)
      have hB0 : JB c I0 rw (slU sl z (spl (hArt I) (sl a) p.toNat (sl b))) sub mo lv := by
        refine ⟨alf_fr g1 (hw2 _ (by omega) (by omega)) (hw2 _ (by omega) (by omega)) (hw2 _ (by omega) (by omega)), by rw [hw2 2 (by omega) (by omega), hw2 3 (by omega) (by omega)]; exact g2, hSl_set g3 (hw2 _ (by omega) (by omega)) (hw2 _ (by omega) (by omega)) cz (fun w w1 w2 w3 w4 w5 => hw w (by omega) w3 w4 w5) ht hco, ⟨tm_upd g4.1 (hw2 _ (by omega) (by omega)) (hw2 _ (by omega) (by omega)), by rw [eA, hw2 1 (by omega) (by omega)]; exact g4.2.1, by rw [hw2 1 (by omega) (by omega)]; exact g4.2.2.1, by rw [hw2 1 (by omega) (by omega), hw2 54 (by omega) (by omega)]; exact g4.2.2.2.1, ?_⟩, ⟨tw_upd g5.1 (hw2 _ (by omega) (by omega)) (hw2 _ (by omega) (by omega)) (hw2 _ (by omega) (by omega)) (hw2 _ (by omega) (by omega)), ?_, by rw [hw2 69 (by omega) (by omega)]; exact g5.2.2⟩, by rw [hw2 69 (by omega) (by omega), eA]; exact g6, by rw [hw2 1 (by omega) (by omega)]; exact g7⟩
        · intro e' h'
          rw [hw2 2 (by omega) (by omega)]
          exact g4.2.2.2.2 e' h'
        · intro e' h'
          rw [hw2 2 (by omega) (by omega)]
          exact g5.2.1 e' h'
      refine ⟨hw2 0 (by omega) (by omega), fun I1 h124 => sCall_mono (hRc I1 (fun w g1 g2 => by rw [h124 w (by omega), hw2 w (by omega) (by omega)])) (fun r S' h => ?_)⟩
      obtain ⟨q, I2, rfl, rfl, hfr, h⟩ := h
      refine ⟨q, I2, rfl, rfl, ?_⟩
      rcases h with ⟨t, hc2, -⟩ | ⟨t, -, h2, -⟩ | ⟨t, -, -, hq, hS⟩
      · exact absurd ⟨cz, ca, cb, cp0, cp1⟩ hc2
      · omega
      · refine ⟨⟨t, hq⟩, hfr, rw, slU sl z (spl (hArt I) (sl a) p.toNat (sl b)), sub, mo, lv, JB_mono hB0, ?_⟩
        rw [eA, eP, hw2 1 (by omega) (by omega), hw2 2 (by omega) (by omega)]
        exact hS
end COP2
