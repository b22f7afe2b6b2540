/-! what is made first, and that all holds there -/
theorem cl_W8 : sIn (Cond.classLink "TermBenchLaw" 8 "TermBench") = true := by decide +kernel
theorem cl_W55 : sIn (Cond.classLink "TermBenchLaw" 55 "TermBenchModel") = true := by decide +kernel
theorem in_B : sIn (Cond.instantiable "TermBench" 13) = true := by decide +kernel
theorem in_M : sIn (Cond.instantiable "TermBenchModel" 28) = true := by decide +kernel
theorem ii_B : sIn (Cond.initialized "TermBench") = true := by decide +kernel
theorem ii_M : sIn (Cond.initialized "TermBenchModel") = true := by decide +kernel
theorem lm_W_54 : sLm "TermBenchLaw" 54 mB_init = true := by decide +kernel
theorem lm_W_57 : sLm "TermBenchLaw" 57 mM_init = true := by decide +kernel
theorem tw_1 {I : sI} {t : Nat} (h0 : I t 2 = 1) (h1 : I (t + 1) 0 = -1) (h2 : I (t + 2) 0 = 1) : tw I t [-1] := by
  have ha : hArt I (-1) = 0 := by unfold hArt; rw [if_pos (by omega)]
  refine ⟨⟨by rw [h0]; rfl, by simp, fun k hk => ?_, fun e he => ?_⟩, fun k hk => ?_, ?_⟩
  · simp only [List.length_singleton] at hk
    have : k = 0 := by omega
    subst this
    exact h1
  · rw [List.mem_singleton] at he
    rw [he]
    decide
  · simp only [List.length_singleton] at hk
    have : k = 0 := by omega
    subst this
    show I (t + 2) 0 = ((0 : Nat) : Int) + f_tk (hArt I) (0 + 1) [-1]
    rw [h2, f_tk_c, f_tk_nil]
    rfl
  · show f_wf (hArt I) (0 + 1) [-1]
    rw [f_wf_c, f_wf_nil, ha]
theorem J_0 {I : sI} (h1 : I 1 = fun j => if j = 3 then 1 else 0) (hB : ∀ a, 2 ≤ a → a < 84 → nmB 0 a (I a)) (h84 : I 84 = ItM) (hM : ∀ b, 85 ≤ b → b < 124 → ∀ j, I b j = (if 89 ≤ b ∧ b < 105 ∧ j = 0 then -1 else if b = 105 ∧ 0 ≤ j ∧ j < 16 then 1 else 0)) : J 0 I := by
  have b2 : I 2 2 = 0 := (hB 2 (by omega) (by omega)).2.2.2.1 rfl
  have b3 : ∀ e, I 3 e = 0 := (hB 3 (by omega) (by omega)).2.2.2.2.1 (Or.inl rfl)
  have b4 : ∀ e, I 4 e = 0 := (hB 4 (by omega) (by omega)).2.2.2.2.1 (Or.inr rfl)
  have b69 : ∀ v, 0 ≤ v → v < 6 → I 69 v = -1 := (hB 69 (by omega) (by omega)).2.2.2.2.2 rfl
  have i13 : I 1 3 = 1 := by rw [h1]; rfl
  have i112 : I 1 12 = 0 := by rw [h1]; rfl
  have i54 : I 54 2 = 0 := (hB 54 (by omega) (by omega)).1 hT_54
  have hA : ∀ e, hArt I e = 0 := fun e => by
    unfold hArt
    split
    · rfl
    · rw [b3]; rfl
  have hP : ∀ e, hPr I e = false := fun e => by
    unfold hPr
    rw [b4]
    simp
  have htw : ∀ t, hT t → t ≠ 54 → tw I t [-1] := fun t ht h54 => by
    have hlt := hT_lt ht
    refine tw_1 ?_ ?_ ?_
    · have := (hB t (by omega) (by omega)).1 ht
      rw [if_neg h54] at this
      exact this
    · have := (hB (t + 1) (by omega) (by omega)).2.1 ⟨t, ht, rfl⟩ 0
      exact this
    · have := (hB (t + 2) (by omega) (by omega)).2.2.1 ⟨t, ht, rfl⟩ 0
      exact this
  have hco : cOkc I [-1] := fun e he => by
    rw [List.mem_singleton] at he
    rw [he, b2]
    decide
  refine ⟨[], fun _ => [-1], [-1], 0, fun _ => [], ⟨⟨by rw [b2]; decide, fun e _ _ => by rw [b3]; decide, fun e => Or.inl (b4 e)⟩, fun e _ => b3 e, fun a ha => ⟨htw _ (hT_slot ha.1 ha.2) (by have := ha.2; have := ha.1; omega), hco⟩, ⟨⟨by rw [i54]; rfl, by simp, fun k hk => by simp at hk, fun e he => by cases he⟩, by rw [i13]; rfl, by rw [i13]; decide, by rw [i13, i54]; decide, fun e he => by cases he⟩, ⟨htw 70 hT_70 (by decide), hco, fun k k0 k1 => Or.inl (b69 k k0 k1)⟩, ⟨Or.inl rfl, fun _ => b69, fun v v0 v1 => by unfold lvO; rw [if_pos (b69 v v0 v1)]⟩, by rw [i112]; decide⟩, ?_⟩
  have m : ∀ b, 85 ≤ b → b < 124 → (b < 89 ∨ 105 < b) → ∀ j, I b j = 0 := fun b q1 q2 q3 j => by
    rw [hM b q1 q2 j, if_neg (by omega), if_neg (by omega)]
  refine ⟨by rw [h84, b2]; rfl, ⟨fun e _ => hA e, fun e _ _ => ⟨by rw [m 85 (by omega) (by omega) (by omega), hA]; rfl, by rw [hA]; decide⟩⟩, ⟨fun e _ => hP e, fun e _ _ => Or.inl ⟨m 87 (by omega) (by omega) (by omega) e, hP e⟩⟩, ⟨by rw [h84]; rfl, fun k hk => by simp at hk⟩, by rw [h84, i13]; rfl, by rw [h84, i112]; rfl, by rw [h84]; rfl, fun a ha => ⟨?_, fun k hk => ?_⟩, fun v v0 v1 => ⟨?_, fun k hk => by simp at hk⟩⟩
  · have := ha.1
    have := ha.2
    rw [hM 105 (by omega) (by omega) a, if_neg (by omega), if_pos (by omega)]
    rfl
  · have := ha.1
    have := ha.2
    simp only [List.length_singleton] at hk
    have hk0 : k = 0 := by omega
    subst hk0
    rw [hM _ (by omega) (by omega), if_pos (by omega)]
    rfl
  · rw [m 113 (by omega) (by omega) (by omega)]
    rfl
section LM
variable {l : Launch} {G : sG} {L : Nat}
set_option maxRecDepth 100000 in
set_option maxHeartbeats 4000000 in
theorem law_all (hl : l.stackTraces = false) (hL : L ≤ 2560) {RF : sF} {I0 : sI} : sJ l G mL_law room_1 QW 0 0 0 [some (.inr (.inl 0)), none, none, none, none, none, none] [] ([(0, L)], RF, I0, 0) := by
  refine sj_new (ci := 0) (N := 13) (C := "TermBench") (T := cF0) ct_L_law (by rfl) rfl cl_W8 in_B ii_B rfl (by show 0 + 1 ≤ 601024; omega) (by show 0 + 13 ≤ 7293034; omega) ?_
  refine sg_W_d1 (k := ?_)
  refine sj_callI (as := []) (rest := [.inr (.inl 1)]) (x := 1) (rm2 := rK (0 + 2) 82 5642) (by rfl) (ct_L_law 2 _ (by rfl) (by simp)) lk_B_init lm_W_54 rfl rfl (by decide) (c_B_in (d := 0) (L := L) (by funext j; rfl)) (by show 1 ≤ 8; decide) (by show 2 + 1 ≤ 2048; omega) (by show 8 + (2 + 11) + (40 * 2 + 100) ≤ 84000; omega) (by show 0 + 1 + 82 ≤ 601024; omega) (by show 0 + 13 + 5642 ≤ 7293034; omega) (fun v S1 h1 => ?_) (fun n S1 h1 => by obtain ⟨h1, -⟩ := h1; cases h1)
  obtain ⟨hv1, hx1, W1⟩ := h1
  cases hv1
  obtain ⟨sh1, RF1, I1, x1⟩ := S1
  change x1 = 0 at hx1
  subst hx1
  change bW _ _ _ _ _ _ _ sh1 RF1 I1 at W1
  have hl1 : sh1.length = 84 := by rw [W1.1]; exact bW_l (by omega) (by omega)
  refine sg_W_d2 (k := ?_)
  refine sj_new (ci := 6) (N := 28) (C := "TermBenchModel") (T := cF6) ct_L_law (by rfl) rfl cl_W55 in_M ii_M rfl (by show 0 + 1 + 82 + 1 ≤ 601024; omega) (by show 0 + 13 + 5642 + 28 ≤ 7293034; omega) ?_
  have hl1' : ((sh1, RF1, I1, 0) : sS).1.length = 84 := hl1
  rw [hl1']
  refine sg_W_d3 (k := ?_)
  have hm84 : (sMk (sh1, RF1, I1, 0) (6 + 5, 28)).2.2.1 84 = fun _ => 0 := by
    funext j
    rw [← hl1']
    exact sMk_n (S := (sh1, RF1, I1, 0)) (q := (6 + 5, 28)) j
  refine sj_callI (as := []) (rest := [.inr (.inl 84)]) (x := 84) (rm2 := rK (0 + 1) 39 26572) (by rfl) (ct_L_law 6 _ (by rfl) (by simp)) lk_M_init lm_W_57 rfl rfl (by decide) (c_M_in (d := 0) (by show (sh1 ++ [(6 + 5, 28)]).length = 85; rw [List.length_append, hl1, List.length_singleton]) (by show sKd (sh1 ++ [(6 + 5, 28)]) 84 = _; rw [← hl1, sKd_last]) rfl hm84) (by show 1 ≤ 8; decide) (by show 1 + 1 ≤ 2048; omega) (by show 8 + (2 + 11) + (40 * 1 + 100) ≤ 84000; omega) (by show 0 + 1 + 82 + 1 + 39 ≤ 601024; omega) (by show 0 + 13 + 5642 + 28 + 26572 ≤ 7293034; omega) (fun v S2 h2 => ?_) (fun n S2 h2 => by obtain ⟨h2, -⟩ := h2; cases h2)
  obtain ⟨hv2, P2⟩ := h2
  cases hv2
  obtain ⟨sh2, RF2, I2, x2⟩ := S2
  obtain ⟨e1, e2, e3, e4, e5, e6, e7, e8⟩ := P2
  change x2 = 0 at e2
  subst e2
  change sh2 = sh1 ++ [(6 + 5, 28)] ++ addM at e1
  change ∀ b, b < 84 → RF2 b = _ ∧ I2 b = _ at e3
  have hsh2 : sh2 = (0, L) :: hTl.take 123 := by
    rw [e1, W1.1]
    rfl
  have hl2 : ((sh2, RF2, I2, 0) : sS).1.length = 124 := by
    show sh2.length = 124
    rw [hsh2]
    exact bW_l (L := L) (n := 124) (by omega) (by omega)
  refine sg_W_d4 (k := ?_)
  refine sj_newa (atype := .long) (ty := .long) (n := 1) 2 ct_L_law (by rfl) rfl ac_long hk_long.1 hk_long.2.1 hk_long.2.2 (by decide) (by decide) rfl (by show 0 + 1 + 82 + 1 + 39 + 1 ≤ 601024; omega) (by show 0 + 13 + 5642 + 28 + 26572 + 1 ≤ 7293034; omega) ?_
  rw [hl2]
  refine sg_W_d5 (k := ?_)
  have hsh3 : (sMk (sh2, RF2, I2, 0) (2, 1)).1 = hSh L := by
    show sh2 ++ [(2, 1)] = _
    rw [hsh2]
    rfl
  have hold : ∀ b, b < 124 → (sMk (sh2, RF2, I2, 0) (2, 1)).2.1 b = RF2 b ∧ (sMk (sh2, RF2, I2, 0) (2, 1)).2.2.1 b = I2 b := fun b hb => sMk_o (by rw [hl2]; omega)
  have hold1 : ∀ b, b < 84 → RF2 b = RF1 b ∧ I2 b = I1 b := fun b hb => by
    have g := e3 b hb
    have g2 := sMk_o (S := (sh1, RF1, I1, 0)) (q := (6 + 5, 28)) (b := b) (by rw [hl1']; omega)
    exact ⟨g.1.trans g2.1, g.2.trans g2.2⟩
  have hrf : ∀ a, 1 ≤ a → a < 125 → ∀ j : Nat, relB a j = true → (sMk (sh2, RF2, I2, 0) (2, 1)).2.1 a j = hRF a j := by
    intro a a1 a2 j hr
    by_cases ha : a < 124
    · rw [(hold a ha).1]
      by_cases ha1 : a = 1
      · subst ha1
        rw [(hold1 1 (by omega)).1]
        exact rel_1 W1.2.2.2.1 j hr
      · by_cases ha84 : a < 84
        · rw [(hold1 a ha84).1]
          exact (W1.2.2.2.2 a (by omega) ha84).1 j hr (fun h5 => by
            subst h5
            have : decide (j < 16) = true := hr
            exact of_decide_eq_true this)
        · by_cases h84 : a = 84
          · subst h84
            exact rel_84 e4 j hr
          · by_cases h88 : a = 88
            · subst h88
              have : decide (j < 16) = true := hr
              exact e5 j (of_decide_eq_true this)
            · by_cases h106 : a = 106
              · subst h106
                have : decide (j < 6) = true := hr
                exact e6 j (of_decide_eq_true this)
              · rw [relB_f (rel_85 a a2 (by omega) h88 h106)] at hr
                cases hr
    · rw [relB_f (rel_85 a a2 (by omega) (by omega) (by omega))] at hr
      cases hr
  have hJ : J 0 (sMk (sh2, RF2, I2, 0) (2, 1)).2.2.1 := by
    refine J_0 ?_ (fun a a1 a2 => ?_) ?_ (fun b b1 b2 j => ?_)
    · rw [(hold 1 (by omega)).2, (hold1 1 (by omega)).2]
      exact W1.2.2.1
    · rw [(hold a (by omega)).2, (hold1 a a2).2]
      exact (W1.2.2.2.2 a a1 a2).2
    · rw [(hold 84 (by omega)).2]
      exact e7
    · rw [(hold b (by omega)).2]
      exact e8 b b1 b2 j
  have main := law_loop (G := G) hl hL 513 0 _ none none (by omega) hJ
  intro p e s m args below meth c H locs arr hB hC h0 hP hS hLs hst
  refine main p e s m args below meth c H locs arr hB hC h0 (sP_mv ?_ hrf) hS hLs hst
  have hP2 : sP G ((sMk (sh2, RF2, I2, 0) (2, 1)).1, (sMk (sh2, RF2, I2, 0) (2, 1)).2.1, (sMk (sh2, RF2, I2, 0) (2, 1)).2.2.1, 0) s H := hP
  rw [hsh3] at hP2
  exact hP2
end LM
