set_option maxRecDepth 100000 in
set_option maxHeartbeats 4000000 in
theorem ct_L_law_7 : ∀ i, i < 30 → sCkAt mL_law (210 + i) = true := by decide +kernel
set_option maxRecDepth 100000 in
set_option maxHeartbeats 4000000 in
theorem ct_L_law_8 : ∀ i, i < 30 → sCkAt mL_law (240 + i) = true := by decide +kernel
set_option maxRecDepth 100000 in
set_option maxHeartbeats 4000000 in
theorem ct_L_law_9 : ∀ i, i < 30 → sCkAt mL_law (270 + i) = true := by decide +kernel
set_option maxRecDepth 100000 in
set_option maxHeartbeats 4000000 in
theorem ct_L_law_10 : ∀ i, i < 30 → sCkAt mL_law (300 + i) = true := by decide +kernel
set_option maxRecDepth 100000 in
set_option maxHeartbeats 4000000 in
theorem ct_L_law_11 : ∀ i, i < 30 → sCkAt mL_law (330 + i) = true := by decide +kernel
set_option maxRecDepth 100000 in
set_option maxHeartbeats 4000000 in
theorem ct_L_law_12 : ∀ i, i < 30 → sCkAt mL_law (360 + i) = true := by decide +kernel
set_option maxRecDepth 100000 in
set_option maxHeartbeats 4000000 in
theorem ct_L_law_13 : ∀ i, i < 30 → sCkAt mL_law (390 + i) = true := by decide +kernel
