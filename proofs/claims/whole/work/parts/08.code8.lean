set_option maxRecDepth 100000 in
set_option maxHeartbeats 4000000 in
theorem ct_L_law_14 : ∀ i, i < 30 → sCkAt mL_law (420 + i) = true := by decide +kernel
set_option maxRecDepth 100000 in
set_option maxHeartbeats 4000000 in
theorem ct_L_law_15 : ∀ i, i < 30 → sCkAt mL_law (450 + i) = true := by decide +kernel
set_option maxRecDepth 100000 in
set_option maxHeartbeats 4000000 in
theorem ct_L_law_16 : ∀ i, i < 30 → sCkAt mL_law (480 + i) = true := by decide +kernel
set_option maxRecDepth 100000 in
set_option maxHeartbeats 4000000 in
theorem ct_L_law_17 : ∀ i, i < 30 → sCkAt mL_law (510 + i) = true := by decide +kernel
set_option maxRecDepth 100000 in
set_option maxHeartbeats 4000000 in
theorem ct_L_law_18 : ∀ i, i < 30 → sCkAt mL_law (540 + i) = true := by decide +kernel
set_option maxRecDepth 100000 in
set_option maxHeartbeats 4000000 in
theorem ct_L_law_19 : ∀ i, i < 30 → sCkAt mL_law (570 + i) = true := by decide +kernel
set_option maxRecDepth 100000 in
set_option maxHeartbeats 4000000 in
theorem ct_L_law_20 : ∀ i, i < 30 → sCkAt mL_law (600 + i) = true := by decide +kernel
theorem ct_L_law_end : ∀ i, 630 ≤ i → sCkAt mL_law i = true := by
  intro i hi
  have h : (sCd mL_law)[i]? = none := List.getElem?_eq_none (Nat.le_trans (by decide +kernel) hi)
  unfold sCkAt
  rw [h]
theorem ct_L_law : sCert mL_law := sCert_by (fun i => by
  by_cases h : 630 ≤ i
  · exact ct_L_law_end i h
  by_cases h0 : i < 30
  · have e : i = 0 + (i - 0) := by omega
    rw [e]
    exact ct_L_law_0 (i - 0) (by omega)
  by_cases h1 : i < 60
  · have e : i = 30 + (i - 30) := by omega
    rw [e]
    exact ct_L_law_1 (i - 30) (by omega)
  by_cases h2 : i < 90
  · have e : i = 60 + (i - 60) := by omega
    rw [e]
    exact ct_L_law_2 (i - 60) (by omega)
  by_cases h3 : i < 120
  · have e : i = 90 + (i - 90) := by omega
    rw [e]
    exact ct_L_law_3 (i - 90) (by omega)
  by_cases h4 : i < 150
  · have e : i = 120 + (i - 120) := by omega
    rw [e]
    exact ct_L_law_4 (i - 120) (by omega)
  by_cases h5 : i < 180
  · have e : i = 150 + (i - 150) := by omega
    rw [e]
    exact ct_L_law_5 (i - 150) (by omega)
  by_cases h6 : i < 210
  · have e : i = 180 + (i - 180) := by omega
    rw [e]
    exact ct_L_law_6 (i - 180) (by omega)
  by_cases h7 : i < 240
  · have e : i = 210 + (i - 210) := by omega
    rw [e]
    exact ct_L_law_7 (i - 210) (by omega)
  by_cases h8 : i < 270
  · have e : i = 240 + (i - 240) := by omega
    rw [e]
    exact ct_L_law_8 (i - 240) (by omega)
  by_cases h9 : i < 300
  · have e : i = 270 + (i - 270) := by omega
    rw [e]
    exact ct_L_law_9 (i - 270) (by omega)
  by_cases h10 : i < 330
  · have e : i = 300 + (i - 300) := by omega
    rw [e]
    exact ct_L_law_10 (i - 300) (by omega)
  by_cases h11 : i < 360
  · have e : i = 330 + (i - 330) := by omega
    rw [e]
    exact ct_L_law_11 (i - 330) (by omega)
  by_cases h12 : i < 390
  · have e : i = 360 + (i - 360) := by omega
    rw [e]
    exact ct_L_law_12 (i - 360) (by omega)
  by_cases h13 : i < 420
  · have e : i = 390 + (i - 390) := by omega
    rw [e]
    exact ct_L_law_13 (i - 390) (by omega)
  by_cases h14 : i < 450
  · have e : i = 420 + (i - 420) := by omega
    rw [e]
    exact ct_L_law_14 (i - 420) (by omega)
  by_cases h15 : i < 480
  · have e : i = 450 + (i - 450) := by omega
    rw [e]
    exact ct_L_law_15 (i - 450) (by omega)
  by_cases h16 : i < 510
  · have e : i = 480 + (i - 480) := by omega
    rw [e]
    exact ct_L_law_16 (i - 480) (by omega)
  by_cases h17 : i < 540
  · have e : i = 510 + (i - 510) := by omega
    rw [e]
    exact ct_L_law_17 (i - 510) (by omega)
  by_cases h18 : i < 570
  · have e : i = 540 + (i - 540) := by omega
    rw [e]
    exact ct_L_law_18 (i - 540) (by omega)
  by_cases h19 : i < 600
  · have e : i = 570 + (i - 570) := by omega
    rw [e]
    exact ct_L_law_19 (i - 570) (by omega)
  have e : i = 600 + (i - 600) := by omega
  rw [e]
  exact ct_L_law_20 (i - 600) (by omega))
