/-! the law, from its first instruction to its last -/
def QW : sQ := fun r _ => r = .inl (some (.inl 1))
section LL
variable {l : Launch} {G : sG} {L : Nat}
set_option maxRecDepth 100000 in
set_option maxHeartbeats 4000000 in
theorem law_end {j : Nat} {I : sI} {i : Int} {w5 w6 : Option sV} (hj : j ≤ 513) (hL : L ≤ 2560) (hi : (L : Int) - 5 < i) : sJ l G mL_law room_1 QW (124 + 5 * j) (32256 + 30 * j) 13 (lsW i w5 w6) [] (hS L 1 I) := by
  unfold lsW
  refine sg_W_x (k1 := rfl) (r2 := by show sR ((L : Int) - 5); unfold sR; omega) (b3 := hi) (k := ?_)
  exact sj_retZ ct_L_law (by rfl) rfl (Or.inr rfl) (by show _ ≤ 601024; omega) (by show _ ≤ 7293034; omega) rfl
set_option maxRecDepth 100000 in
set_option maxHeartbeats 4000000 in
theorem law_sw (hl : l.stackTraces = false) {j : Nat} {I : sI} {i e : Int} {w5 w6 : Option sV} (hJ : J j I) (hj : j ≤ 512) (hi : 0 ≤ i) (hi5 : i + 5 ≤ L) (hL : L ≤ 2560) (K : ∀ I2 v5 v6, J (j + 1) I2 → sJ l G mL_law room_1 QW (124 + 5 * (j + 1)) (32256 + 30 * (j + 1)) 13 (lsW (i + 5) v5 v6) [] (hS L 1 I2)) : sJ l G mL_law room_1 QW (124 + 5 * j) (32256 + 30 * j) 24 (lsW i w5 w6) [.inl e] (hS L 1 I) := by
  by_cases h0 : e = 0
  · rw [h0]; exact sj_tin (off := 61) 25 ct_L_law (by rfl) (by decide) (by decide) (by rfl) (by decide +kernel) (W_sy hl hJ hj hi hi5 hL K)
  by_cases h1 : e = 1
  · rw [h1]; exact sj_tin (off := 145) 78 ct_L_law (by rfl) (by decide) (by decide) (by rfl) (by decide +kernel) (W_pu hl hJ hj hi hi5 hL K)
  by_cases h2 : e = 2
  · rw [h2]; exact sj_tin (off := 201) 113 ct_L_law (by rfl) (by decide) (by decide) (by rfl) (by decide +kernel) (W_ke hl hJ hj hi hi5 hL K)
  by_cases h3 : e = 3
  · rw [h3]; exact sj_tin (off := 257) 148 ct_L_law (by rfl) (by decide) (by decide) (by rfl) (by decide +kernel) (W_or hl hJ hj hi hi5 hL K)
  by_cases h4 : e = 4
  · rw [h4]; exact sj_tin (off := 325) 193 ct_L_law (by rfl) (by decide) (by decide) (by rfl) (by decide +kernel) (W_un hl hJ hj hi hi5 hL K)
  by_cases h5 : e = 5
  · rw [h5]; exact sj_tin (off := 433) 266 ct_L_law (by rfl) (by decide) (by decide) (by rfl) (by decide +kernel) (W_ma hl hJ hj hi hi5 hL K)
  by_cases h6 : e = 6
  · rw [h6]; exact sj_tin (off := 508) 314 ct_L_law (by rfl) (by decide) (by decide) (by rfl) (by decide +kernel) (W_bo hl hJ hj hi hi5 hL K)
  by_cases h7 : e = 7
  · rw [h7]; exact sj_tin (off := 576) 359 ct_L_law (by rfl) (by decide) (by decide) (by rfl) (by decide +kernel) (W_rp hl hJ hj hi hi5 hL K)
  by_cases h8 : e = 8
  · rw [h8]; exact sj_tin (off := 668) 424 ct_L_law (by rfl) (by decide) (by decide) (by rfl) (by decide +kernel) (W_rw hl hJ hj hi hi5 hL K)
  by_cases h9 : e = 9
  · rw [h9]; exact sj_tin (off := 760) 489 ct_L_law (by rfl) (by decide) (by decide) (by rfl) (by decide +kernel) (W_co hl hJ hj hi hi5 hL K)
  by_cases h10 : e = 10
  · rw [h10]; exact sj_tin (off := 828) 534 ct_L_law (by rfl) (by decide) (by decide) (by rfl) (by decide +kernel) (W_to hl hJ hj hi hi5 hL K)
  by_cases h11 : e = 11
  · rw [h11]; exact sj_tin (off := 896) 579 ct_L_law (by rfl) (by decide) (by decide) (by rfl) (by decide +kernel) (W_ct hJ hj hi hi5 hL K)
  refine sj_tout 596 ct_L_law (by rfl) (by omega) (by decide +kernel) ?_
  unfold lsW at K ⊢
  refine sg_W_n (k := ?_)
  obtain ⟨rw, sl, sub, mo, lv, hB, hR⟩ := hJ
  exact sJ_w (by omega) (by omega) (K _ _ _ ⟨rw, sl, sub, mo, lv, JB_mono hB, hR⟩)
set_option maxRecDepth 100000 in
theorem law_loop (hl : l.stackTraces = false) (hL : L ≤ 2560) : ∀ (n j : Nat) (I : sI) (w5 w6 : Option sV), j + n = 513 → J j I → sJ l G mL_law room_1 QW (124 + 5 * j) (32256 + 30 * j) 13 (lsW (5 * (j : Int)) w5 w6) [] (hS L 1 I) := by
  intro n
  induction n with
  | zero =>
    intro j I w5 w6 hn hJ
    exact law_end (by omega) hL (by omega)
  | succ n ih =>
    intro j I w5 w6 hn hJ
    by_cases hx : (L : Int) - 5 < 5 * (j : Int)
    · exact law_end (by omega) hL hx
    · have hst := law_sw (G := G) (i := 5 * (j : Int)) (e := (Int32.ofInt (I 0 (5 * (j : Int))) &&& Int32.ofInt 15).toInt) (w5 := w5) (w6 := w6) hl hJ (by omega) (by omega) (by omega) hL (fun I2 v5 v6 h2 => by
        have := ih (j + 1) I2 v5 v6 (by omega) h2
        rw [show (5 * ((j + 1 : Nat) : Int)) = 5 * (j : Int) + 5 by omega] at this
        exact this)
      unfold lsW at hst ⊢
      exact sg_W_h (k1 := rfl) (r2 := by show sR ((L : Int) - 5); unfold sR; omega) (b3 := hx) (a4 := hAr rfl (by omega) (by omega)) (k := hst)
end LL
/-! the made cells are the ones that the contracts speak of -/
theorem arrV_cg {cI : ClassId} {n : Nat} {f g : Nat → Value} (h : ∀ j, j < n → f j = g j) : arrV cI n f = arrV cI n g := by
  unfold arrV
  congr 1
  congr 1
  funext j
  exact h j.1 j.2
theorem sP_mv {G : sG} {L : Nat} {RF : sF} {I : sI} {s : State} {H : Heap} (h : sP G (hSh L, RF, I, 0) s H) (hr : ∀ a, 1 ≤ a → a < 125 → ∀ j : Nat, relB a j = true → RF a j = hRF a j) : sP G (hS L 1 I) s H := by
  obtain ⟨hPw, hlen, hsz, h4⟩ := h
  refine ⟨fun k x hx => ?_, hlen, ⟨hsz.1, fun h => by cases h⟩, h4⟩
  obtain ⟨hl, rfl⟩ := sW_at hx
  have h0 := hPw k _ (sW_get (S := (hSh L, RF, I, 0)) hl)
  have hk := hr (k + 1) (by omega) hl
  unfold relB at hk
  rw [hK_s] at hk
  rw [show sKd (hSh L, RF, I, 0).1 (k + 1) = sKd hTl k from rfl] at h0
  rw [show sKd (hS L 1 I).1 (k + 1) = sKd hTl k from rfl]
  generalize sKd hTl k = q at hk h0 ⊢
  obtain ⟨kd, n⟩ := q
  match kd, hk, h0 with
  | 0, _, h0 => exact h0
  | 1, _, h0 => exact h0
  | 2, _, h0 => exact h0
  | 3, hk, h0 =>
    have hc : (vp_cell (G.2.2.2 3) (n, .inr (.inr (.inr (.inr (fun j => sN G (hRF (k + 1) j))))))) = vp_cell (G.2.2.2 3) (n, .inr (.inr (.inr (.inr (fun j => sN G (RF (k + 1) j)))))) := by
      rw [vp_cell_q, vp_cell_q]
      exact arrV_cg (fun j hj => by rw [hk j (decide_eq_true hj)])
    show H[_]? = some (vp_cell (G.2.2.2 3) (n, .inr (.inr (.inr (.inr (fun j => sN G (hRF (k + 1) j)))))))
    rw [hc]
    exact h0
  | 4, hk, h0 =>
    have hc : (vp_cell (G.2.2.2 4) (n, .inr (.inr (.inr (.inr (fun j => sN G (hRF (k + 1) j))))))) = vp_cell (G.2.2.2 4) (n, .inr (.inr (.inr (.inr (fun j => sN G (RF (k + 1) j)))))) := by
      rw [vp_cell_q, vp_cell_q]
      exact arrV_cg (fun j hj => by rw [hk j (decide_eq_true hj)])
    show H[_]? = some (vp_cell (G.2.2.2 4) (n, .inr (.inr (.inr (.inr (fun j => sN G (hRF (k + 1) j)))))))
    rw [hc]
    exact h0
  | c + 5, hk, h0 =>
    have hc : sFd G c n hRF I (k + 1) = sFd G c n RF I (k + 1) := by
      unfold sFd
      refine List.map_congr_left (fun j hj => ?_)
      have hj' := List.mem_range.mp hj
      by_cases hf : cFT c j = 2
      · rw [if_pos hf, if_pos hf, hk j (by show (decide (j < n) && decide (cFT c j = 2)) = true; rw [decide_eq_true hj', decide_eq_true hf]; rfl)]
      · rw [if_neg hf, if_neg hf]
    show va_at G.2.2.1 classes (_, .inr (c, sFd G c n hRF I (k + 1))) H
    rw [hc]
    exact h0
theorem relB_f {a j : Nat} (h : (sKd (hSh 0) a).1 < 3) : relB a j = false := by
  unfold relB
  generalize sKd (hSh 0) a = q at h
  obtain ⟨kd, n⟩ := q
  match kd, h with
  | 0, _ => rfl
  | 1, _ => rfl
  | 2, _ => rfl
theorem rel_85 : ∀ a, a < 125 → 85 ≤ a → a ≠ 88 → a ≠ 106 → (sKd (hSh 0) a).1 < 3 := by decide +kernel
theorem rel_1 {RF : sF} (h : ∀ p ∈ fsB, RF 1 p.1 = p.2) : ∀ j : Nat, relB 1 j = true → RF 1 j = hRF 1 j := by
  intro j hr
  have hr' : (decide (j < 13) && decide (cFT 0 j = 2)) = true := hr
  simp only [Bool.and_eq_true, decide_eq_true_eq] at hr'
  have hj : j = 0 ∨ j = 1 ∨ j = 2 ∨ j = 3 ∨ j = 4 ∨ j = 5 ∨ j = 6 ∨ j = 7 ∨ j = 8 ∨ j = 9 ∨ j = 10 ∨ j = 11 ∨ j = 12 := by omega
  rcases hj with rfl | rfl | rfl | rfl | rfl | rfl | rfl | rfl | rfl | rfl | rfl | rfl | rfl
  · exact h (0, 2) (by simp [fsB])
  · exact h (1, 5) (by simp [fsB])
  · exact h (2, 54) (by simp [fsB])
  · exact absurd hr'.2 (by decide)
  · exact h (4, 57) (by simp [fsB])
  · exact h (5, 60) (by simp [fsB])
  · exact h (6, 63) (by simp [fsB])
  · exact h (7, 66) (by simp [fsB])
  · exact h (8, 68) (by simp [fsB])
  · exact h (9, 70) (by simp [fsB])
  · exact h (10, 73) (by simp [fsB])
  · exact h (11, 75) (by simp [fsB])
  · exact absurd hr'.2 (by decide)
theorem fsM_all : ∀ j, j < 28 → cFT 6 j = 2 → ((j : Int), hRF 84 j) ∈ fsM := by decide +kernel
theorem rel_84 {RF : sF} (h : ∀ p ∈ fsM, RF 84 p.1 = p.2) : ∀ j : Nat, relB 84 j = true → RF 84 j = hRF 84 j := by
  intro j hr
  have hr' : (decide (j < 28) && decide (cFT 6 j = 2)) = true := hr
  simp only [Bool.and_eq_true, decide_eq_true_eq] at hr'
  exact h _ (fsM_all j hr'.1 hr'.2)
