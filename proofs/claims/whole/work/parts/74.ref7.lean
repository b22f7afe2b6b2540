/-! the reference: found -/
/-- the nodes that are there -/
def fI (ar : Int → Nat) (I : sI) (cs : List Int) : Prop := (∃ k, f_wf ar k cs) ∧ cs.length ≤ 6000 ∧ (∀ c ∈ cs, -6 ≤ c ∧ c < 40) ∧ (∀ p, p < cs.length → f_tk ar 1 (cs.drop p) ≤ 100) ∧ tr ar I 0 cs ∧ I 84 17 = cs.length
theorem fI_upd {ar : Int → Nat} {I I' : sI} {cs : List Int} (h : fI ar I cs) (h1 : ∀ w, 114 ≤ w → w ≤ 117 → I' w = I w) (h2 : I' 84 17 = I 84 17) : fI ar I' cs := by
  obtain ⟨⟨k, hk⟩, g1, g2, g3, g4, g5⟩ := h
  exact ⟨⟨k, hk⟩, g1, g2, g3, tr_upd hk g4 (fun w q1 q2 j _ _ => by rw [h1 w q1 q2]), by rw [h2]; exact g5⟩
theorem fI_mk {ar : Int → Nat} {I I' : sI} {cs X : List Int} {r : Int} (h : fI ar I cs) (hm : mkP I ar X r I') (hw : f_wf ar 1 X) (hr : ∀ c ∈ X, -6 ≤ c ∧ c < 40) (hl : X.length ≤ 100) (h6 : cs.length + X.length ≤ 6000) : fI ar I' (cs ++ X) := by
  obtain ⟨⟨k, hk⟩, g1, g2, g3, g4, g5⟩ := h
  obtain ⟨-, F, T, X1, R1⟩ := hm
  refine ⟨⟨k + 1, f_wf_app ar _ _ _ _ hk hw⟩, by rw [List.length_append]; exact h6, fun c hc => ?_, fun p hp => ?_, ?_, by rw [T, g5, List.length_append]; omega⟩
  · rcases List.mem_append.mp hc with q | q
    · exact g2 c q
    · exact hr c q
  · rw [List.length_append] at hp
    by_cases hpc : p < cs.length
    · rw [(f_tk_at ar hk hpc).1]
      exact g3 p hpc
    · rw [List.drop_append, List.drop_eq_nil_of_le (by omega), List.nil_append]
      have := f_tk_le ar (X.drop (p - cs.length)) 1
      rw [List.length_drop] at this
      omega
  · refine tr_app hk (bF_tr F hk g4 (by omega)) ?_
    rw [g5] at X1
    rw [Int.zero_add]
    exact X1
def ke (ar : Int → Nat) (o : Nat) (ss : List Int) (p n i : Nat) : Int := if i < n then ((o + ap ar ss p i : Nat) : Int) else -1
theorem fo_at {ar : Int → Nat} {I : sI} {A ss Y : List Int} {k p : Nat} (h : tr ar I 0 (A ++ (ss ++ Y))) (hw : f_wf ar k ss) (hp : p < ss.length) : I 114 ((A.length + p : Nat) : Int) = ss[p] ∧ I 117 ((A.length + p : Nat) : Int) = f_tk ar 1 (ss.drop p) ∧ I 115 ((A.length + p : Nat) : Int) = ke ar A.length ss p (ar ss[p]) 0 ∧ ∀ i, i < ar ss[p] → I 116 ((A.length + ap ar ss p i : Nat) : Int) = ke ar A.length ss p (ar ss[p]) (i + 1) := by
  obtain ⟨hq, e1, e2, e3, e4⟩ := em_at ar (A := A) (C := Y) hw hp
  obtain ⟨t1, t2, t3, t4⟩ := tr_at h hq
  have ek : ∀ i, i ≤ ar ss[p] → kc ar (A ++ (ss ++ Y)) (A.length + p) (ar ss[p]) i = ke ar A.length ss p (ar ss[p]) i := fun i hi => by
    unfold kc ke
    rw [e4 i hi]
  rw [e1] at t1 t3 t4
  refine ⟨t1, by rw [t2, e2], by rw [t3, ek 0 (by omega)], fun i hi => ?_⟩
  have := t4 i hi
  rw [e4 i (by omega), ek (i + 1) (by omega)] at this
  exact this
def fF (I I' : sI) : Prop := (∀ w, (w < 114 ∨ 118 < w) → w ≠ 84 → w ≠ 122 → I' w = I w) ∧ ∀ j, j ≠ 17 → j ≠ 18 → j ≠ 25 → j ≠ 26 → I' 84 j = I 84 j
theorem fF_trans {I I1 I2 : sI} (h1 : fF I I1) (h2 : fF I1 I2) : fF I I2 := ⟨fun w g1 g2 g3 => by rw [h2.1 w g1 g2 g3, h1.1 w g1 g2 g3], fun j g1 g2 g3 g4 => by rw [h2.2 j g1 g2 g3 g4, h1.2 j g1 g2 g3 g4]⟩
theorem fF_of {I I' : sI} (h : ∀ w, w ≠ 118 → w ≠ 122 → I' w = I w) : fF I I' := ⟨fun w g1 _ g3 => h w (by omega) g3, fun j _ _ _ _ => by rw [h 84 (by omega) (by omega)]⟩
def foQ (ar : Int → Nat) (pr : Int → Bool) (I : sI) (ls ts ss : List Int) (p W : Nat) (Y : List Int) : Int → sI → Prop := fun r I' => fF I I' ∧ ∃ Y', fI ar I' ((ls ++ ts) ++ (ss ++ Y')) ∧ Y'.length ≤ Y.length + tri W ∧ ((r = 0 ∧ ∀ q bb, p ≤ q → q < p + W → ¬ apX ar pr ls ts ss q bb) ∨ (r = 1 ∧ ∃ q bb, p ≤ q ∧ q < p + W ∧ (∀ q' b2, p ≤ q' → q' < q → ¬ apX ar pr ls ts ss q' b2) ∧ apX ar pr ls ts ss q bb ∧ I' 84 25 = ((ls ++ ts).length + q : Nat) ∧ ∃ s : Nat, s < ((ls ++ ts) ++ (ss ++ Y')).length ∧ I' 84 26 = s ∧ f_s ar ((ls ++ ts) ++ (ss ++ Y')) s = f_sub (vl ar ss bb) ts))
section CR7
variable {l : Launch} {G : sG} {L x d : Nat} {ar : Int → Nat} {pr : Int → Bool}
theorem c_R_fo (hv : ∀ c, c < 0 → ar c = 0) {ls ts ss : List Int} (hlw : f_wf ar 1 ls) (htw : f_wf ar 1 ts) (hsw : f_wf ar 1 ss) : ∀ (n p : Nat) (I : sI) (Y : List Int), p < ss.length → f_tk ar 1 (ss.drop p) ≤ n → fI ar I ((ls ++ ts) ++ (ss ++ Y)) → ((ls ++ ts) ++ (ss ++ Y)).length + tri (f_tk ar 1 (ss.drop p)) ≤ 6000 → rP I pr →
    sCall l G mM_found (sRm (d + 202 + n) 0) [.inr (.inl 84), .inl (((ls ++ ts).length + p : Nat) : Int), .inl 0, .inl (ls.length : Int)] (hS L x I) (qE L x (foQ ar pr I ls ts ss p (f_tk ar 1 (ss.drop p)) Y)) := by
  intro n
  induction n with
  | zero =>
    intro p I Y hp hn
    have := (f_s_pos ar hsw hp).1
    omega
  | succ n ih =>
    intro p I Y hp hn hI h6 hP
    obtain ⟨⟨k, hk⟩, g1, g2, g3, g4, g5⟩ := id hI
    have hpos := f_s_pos ar hsw hp
    obtain ⟨hq, e1, e2, e3, e4⟩ := em_at ar (A := ls ++ ts) (C := Y) hsw hp
    have hll : 0 < ls.length := List.length_pos_iff.mpr (f_wf_ne ar hlw)
    have htl : 0 < ts.length := List.length_pos_iff.mpr (f_wf_ne ar htw)
    obtain ⟨q1, -, q2, q3, -⟩ := em_at ar (A := []) (C := ts ++ (ss ++ Y)) hlw hll
    obtain ⟨r1, -, r2, r3, -⟩ := em_at ar (A := ls) (C := ss ++ Y) htw htl
    rw [List.nil_append, ← List.append_assoc] at q2 q3
    rw [← List.append_assoc] at r2 r3
    simp only [List.length_nil, Nat.add_zero] at q2 q3 r2 r3
    rw [f_s_0 ar hlw] at q3
    rw [f_s_0 ar htw] at r3
    have hA : (ls ++ ts).length = ls.length + ts.length := List.length_append
    have hlen : ((ls ++ ts) ++ (ss ++ Y)).length = ls.length + ts.length + (ss.length + Y.length) := by simp only [List.length_append]
    have htrW : f_tk ar 1 (ss.drop p) ≤ tri (f_tk ar 1 (ss.drop p)) := by
      cases f_tk ar 1 (ss.drop p) with
      | zero => exact Nat.zero_le _
      | succ w => show w + 1 ≤ tri w + (w + 1); omega
    have htr2 : tri (f_tk ar 1 (ss.drop p)) = f_tk ar 1 (ss.drop p) + tri (f_tk ar 1 (ss.drop p) - 1) := by
      cases hw : f_tk ar 1 (ss.drop p) with
      | zero => omega
      | succ w => show tri w + (w + 1) = _; rw [show w + 1 - 1 = w by omega]; omega
    have hsp : f_tk ar 1 (ss.drop p) ≤ 100 := by rw [← e2]; exact g3 _ hq
    refine sCall_of (by decide) (Nat.le_of_ble_eq_true rfl) (sV1s_c trivial (sV1s_c (sV1_i (by omega) (by omega)) (sV1s_c (sV1_i (by omega) (by omega)) (sV1s_c (sV1_i (by omega) (by omega)) sV1s_n)))) rfl ?_
    show sJ l G mM_found (sRm (d + 202 + (n + 1)) 0) _ 0 (6 * 0) 0 [some (.inr (.inl 84)), some (.inl (((ls ++ ts).length + p : Nat) : Int)), some (.inl 0), some (.inl (ls.length : Int)), none] [] (hSh L, hRF, I, x)
    have hae := ap_end ar hsw hp
    -- the terms behind it
    have kids : ∀ (I1 : sI) (Y1 : List Int), fF I I1 → fI ar I1 ((ls ++ ts) ++ (ss ++ Y1)) → Y1.length ≤ Y.length + f_tk ar 1 (ss.drop p) → (∀ bb, ¬ apX ar pr ls ts ss p bb) →
        sJ l G mM_found (sRm (d + 202 + (n + 1)) 0) (qE L x (foQ ar pr I ls ts ss p (f_tk ar 1 (ss.drop p)) Y)) 0 (6 * 0) 38 [some (.inr (.inl 84)), some (.inl (((ls ++ ts).length + p : Nat) : Int)), some (.inl 0), some (.inl (ls.length : Int)), some (.inl (I1 115 (((ls ++ ts).length + p : Nat) : Int)))] [] (hSh L, hRF, I1, x) := by
      intro I1 Y1 hF1 hI1 hY1 hno
      have loop : ∀ (m i : Nat) (ka : Int) (I2 : sI) (Y2 : List Int), m = ar ss[p] - i → i ≤ ar ss[p] → ka = ke ar (ls ++ ts).length ss p (ar ss[p]) i → fF I I2 → fI ar I2 ((ls ++ ts) ++ (ss ++ Y2)) → Y2.length ≤ Y.length + f_tk ar 1 (ss.drop p) + tri (ap ar ss p i - (p + 1)) → (∀ q bb, p ≤ q → q < ap ar ss p i → ¬ apX ar pr ls ts ss q bb) →
          sJ l G mM_found (sRm (d + 202 + (n + 1)) 0) (qE L x (foQ ar pr I ls ts ss p (f_tk ar 1 (ss.drop p)) Y)) 0 (6 * 0) 38 [some (.inr (.inl 84)), some (.inl (((ls ++ ts).length + p : Nat) : Int)), some (.inl 0), some (.inl (ls.length : Int)), some (.inl ka)] [] (hSh L, hRF, I2, x) := by
        intro m
        induction m with
        | zero =>
          intro i ka I2 Y2 hm hi hka hF2 hI2 hY2 hn2
          have hi' : i = ar ss[p] := by omega
          subst hi'
          rw [hae] at hY2 hn2
          have hka' : ka = -1 := by rw [hka]; unfold ke; rw [if_neg (by omega)]
          refine sg_R_fo_x (k := ?_)
          exact sc_retZ ct_M_found ⟨_, _, rfl, rfl, hF2, Y2, hI2, by rw [show p + f_tk ar 1 (ss.drop p) - (p + 1) = f_tk ar 1 (ss.drop p) - 1 by omega] at hY2; omega, Or.inl ⟨rfl, hn2⟩⟩
        | succ m ihm =>
          intro i ka I2 Y2 hm hi hka hF2 hI2 hY2 hn2
          have hi' : i < ar ss[p] := by omega
          have hka' : ka = (((ls ++ ts).length + ap ar ss p i : Nat) : Int) := by rw [hka]; unfold ke; rw [if_pos hi']
          subst hka'
          have hlt := ap_lt ar hsw hp hi'
          have hkd := ap_kid ar hsw hp hi'
          have has := ap_s ar hsw hp hi'
          have hal := ap_le ar hsw hp (i := i + 1) (j := ar ss[p]) (by omega) (Nat.le_refl _)
          have ht1 := tri_add (ap ar ss p i - (p + 1)) (f_tk ar 1 (ss.drop (ap ar ss p i)))
          rw [show ap ar ss p i - (p + 1) + f_tk ar 1 (ss.drop (ap ar ss p i)) = ap ar ss p (i + 1) - (p + 1) by omega] at ht1
          have ht2 : tri (ap ar ss p (i + 1) - (p + 1)) ≤ tri (f_tk ar 1 (ss.drop p) - 1) := tri_mono (by omega)
          have hlen2 : ((ls ++ ts) ++ (ss ++ Y2)).length = ls.length + ts.length + (ss.length + Y2.length) := by simp only [List.length_append]
          obtain ⟨-, -, -, v4⟩ := fo_at hI2.2.2.2.2.1 hsw hp
          have hP2 : rP I2 pr := ⟨hP.1, fun c q1 q2 => by rw [hF2.1 87 (by omega) (by omega) (by omega)]; exact hP.2 c q1 q2⟩
          have hl2 := hI2.2.1
          refine sg_R_fo_k (k := ?_)
          refine sc_vE (as := [.inl _, .inl _, .inl _]) (rest := []) (cc := 6) ct_M_found lk_M_found lm_M_187 (ih (ap ar ss p i) I2 Y2 hlt.2 (by omega) hI2 (by omega) hP2) rfl (fun r I3 hr => ?_)
          obtain ⟨hF3, Y3, hI3, hY3, hr⟩ := hr
          rcases hr with ⟨rfl, hn3⟩ | ⟨rfl, q, bb, u1, u2, u3, u4, u5⟩
          · obtain ⟨-, -, -, w4⟩ := fo_at hI3.2.2.2.2.1 hsw hp
            refine sg_R_fo_n (k := ?_)
            refine ihm (i + 1) _ I3 Y3 (by omega) (by omega) (w4 i hi') (fF_trans hF2 hF3) hI3 (by omega) (fun q bb g1 g2 => ?_)
            by_cases hqa : q < ap ar ss p i
            · exact hn2 q bb g1 hqa
            · exact hn3 q bb (by omega) (by omega)
          · refine sg_R_fo_t (k := ?_)
            refine sc_retZ ct_M_found ⟨_, _, rfl, rfl, fF_trans hF2 hF3, Y3, hI3, by omega, Or.inr ⟨rfl, q, bb, by omega, by omega, fun q' b2 g1 g2 => ?_, u4, u5⟩⟩
            by_cases hqa : q' < ap ar ss p i
            · exact hn2 q' b2 g1 hqa
            · exact u3 q' b2 (by omega) g2
      obtain ⟨-, -, v3, -⟩ := fo_at hI1.2.2.2.2.1 hsw hp
      refine loop (ar ss[p]) 0 _ I1 Y1 rfl (Nat.zero_le _) v3 hF1 hI1 (by omega) (fun q bb g1 g2 => ?_)
      rw [ap_0] at g2
      rw [show q = p by omega]
      exact hno bb
    refine sg_R_fo_0 (k := ?_)
    refine sc_vE (as := [.inl _, .inl _]) (rest := []) (cc := 6) ct_M_found lk_M_tried lm_M_184 (c_R_td (d := d) (p := 0) hk g1 g2 g3 hv (by omega) hq g4 hP) rfl (fun r I1 hr => ?_)
    obtain ⟨hw1, hr⟩ := hr
    rw [q3] at hr
    have hI1 : fI ar I1 ((ls ++ ts) ++ (ss ++ Y)) := fI_upd hI (fun w q1 q2 => hw1 w (by omega)) (by rw [hw1 84 (by omega)])
    have hF1 : fF I I1 := fF_of (fun w _ q2 => hw1 w q2)
    obtain ⟨j, hj⟩ := f_wf_at ar hsw hp
    have hemb := mf_emb ar pr (A := ls ++ ts) (C := Y) hsw hv ls 1 j p (fun _ => -1) (fun _ => -1) hlw hj (by omega) (fun v => Or.inl ⟨rfl, rfl⟩)
    rcases hr with ⟨rfl, hm⟩ | ⟨rfl, e, bb', hm, hab, hbo⟩
    · refine sg_R_fo_1n (k := ?_)
      refine kids I1 Y hF1 hI1 (by omega) (fun bb hx => ?_)
      obtain ⟨⟨e', he', -⟩, -⟩ := hx
      rcases hemb with ⟨h1, -⟩ | ⟨e2, b2, b3, h1, h2, -⟩
      · rw [h1] at he'; cases he'
      · rw [hm] at h2; cases h2
    · rcases hemb with ⟨-, h2⟩ | ⟨ee, bb, b3, h1, h2, hbb⟩
      · rw [hm] at h2; cases h2
      · rw [hm] at h2
        cases h2
        have huniq : ∀ b2, apX ar pr ls ts ss p b2 → b2 = bb := fun b2 hx => by
          obtain ⟨⟨e', he', -⟩, -⟩ := hx
          rw [h1] at he'
          cases he'
          rfl
        refine sg_R_fo_1y (k := ?_)
        refine sc_vE (as := [.inl _]) (rest := []) (cc := 6) ct_M_found lk_M_hasAll lm_M_169 (c_R_ha (d := d) hk g1 g2 hv hI1.2.2.2.2.1 100 ls.length (by omega) (g3 _ (by omega))) rfl (fun r I2 hr => ?_)
        obtain ⟨rfl, hr⟩ := hr
        rw [r3] at hr
        have t6 : ∀ c ∈ ts, -6 ≤ c := fun c hc => (g2 c (List.mem_append_left _ (List.mem_append_right _ hc))).1
        rcases hr with ⟨rfl, hall⟩ | ⟨rfl, c, hc, hn0, hz⟩
        · refine sg_R_fo_2y (k := ?_)
          have hval : ∀ c ∈ ts, c < 0 → (0 ≤ bb (-1 - c) ∧ bb (-1 - c) < ss.length) ∧ I2 122 (-1 - c) = (ls ++ ts).length + bb (-1 - c) := fun c hc hn0 => by
            have h3 := hall c hc hn0
            have h4 := hab (-1 - c) (by omega) (by have := t6 c hc; omega)
            rcases hbb (-1 - c) with ⟨z1, z2⟩ | ⟨z1, z2, z3⟩
            · omega
            · exact ⟨⟨z1, z2⟩, by rw [h4, z3]⟩
          have hX : f_sub (vl ar ((ls ++ ts) ++ (ss ++ Y)) (I2 122)) ts = f_sub (vl ar ss bb) ts := f_sub_congr (fun c hc hn0 => by
            obtain ⟨⟨z1, z2⟩, z3⟩ := hval c hc hn0
            unfold vl
            obtain ⟨-, -, -, z4, -⟩ := em_at ar (A := ls ++ ts) (C := Y) hsw (p := (bb (-1 - c)).toNat) (by omega)
            rw [z3, show (((ls ++ ts).length : Int) + bb (-1 - c)).toNat = (ls ++ ts).length + (bb (-1 - c)).toNat by omega, z4])
          refine sc_vI (as := [.inl _]) (rest := []) (cc := 6) ct_M_found lk_M_weighMatched lm_M_172 (c_R_wm (d := d) hk g1 g2 g3 hv hI1.2.2.2.2.1 100 ls.length (by omega) (g3 _ (by omega)) (fun c hc hn0 => by
            rw [r3] at hc
            obtain ⟨⟨z1, z2⟩, z3⟩ := hval c hc hn0
            rw [z3]
            omega)) rfl ?_
          rw [r3, hX]
          obtain ⟨-, v2, v3, -⟩ := fo_at hI1.2.2.2.2.1 hsw hp
          by_cases hgt : f_tk ar 1 (ss.drop p) < (f_sub (vl ar ss bb) ts).length
          · refine sg_R_fo_3n (k := ?_)
            refine kids I2 Y hF1 hI1 (by omega) (fun b2 hx => ?_)
            have hb2 := huniq b2 hx
            subst hb2
            obtain ⟨⟨e', he', hg⟩, -⟩ := hx
            have := gt_len hg
            rw [f_s_len] at this
            omega
          · refine sg_R_fo_3y (k := ?_)
            have hXw : f_wf ar 1 (f_sub (vl ar ss bb) ts) := f_sub_wfr ar hv (fun c hc hn0 => by
              obtain ⟨⟨z1, z2⟩, -⟩ := hval c hc hn0
              exact f_s_wf ar hsw (by omega)) htw
            have hXr : ∀ c ∈ f_sub (vl ar ss bb) ts, -6 ≤ c ∧ c < 40 := fun c hc => by
              rcases f_sub_mem hc with h | ⟨y, hy, hn0, h⟩
              · exact g2 c (List.mem_append_left _ (List.mem_append_right _ h.2))
              · exact g2 c (List.mem_append_right _ (List.mem_append_left _ (f_s_mem h)))
            have hXl : 0 < (f_sub (vl ar ss bb) ts).length := List.length_pos_iff.mpr (f_wf_ne ar hXw)
            refine sc_vE (as := [.inl _]) (rest := [.inr (.inl _)]) (cc := 6) ct_M_found lk_M_withMatched lm_M_175 (c_R_im (d := d) (σ := vl ar ((ls ++ ts) ++ (ss ++ Y)) (I2 122)) (b0 := I2 122) hk g2 g3 hv (fun c => rfl) 100 ls.length I2 (by omega) (g3 _ (by omega)) hI1.2.2.2.2.1 (by rw [hI1.2.2.2.2.2]; omega) (by rw [r3, hX, hI1.2.2.2.2.2]; omega) rfl (fun c hc hn0 => by
              rw [r3] at hc
              obtain ⟨⟨z1, z2⟩, z3⟩ := hval c hc hn0
              rw [z3]
              omega)) rfl (fun r I3 hr3 => ?_)
            rw [r3, hX] at hr3
            have hI3 := fI_mk hI1 hr3 hXw hXr (by omega) (by omega)
            obtain ⟨rfl, F3, -, -, -⟩ := hr3
            rw [hI1.2.2.2.2.2]
            refine sg_R_fo_4 (k := ?_)
            generalize hI4 : sU I3 84 26 (((ls ++ ts) ++ (ss ++ Y)).length : Int) = I4
            have hw4 : ∀ w, w ≠ 84 → I4 w = I3 w := fun w q1 => by rw [← hI4, sU_ne q1]
            have h84 : ∀ j, j ≠ 26 → I4 84 j = I3 84 j := fun j q1 => by rw [← hI4, hU_nj q1]
            have h26 : I4 84 26 = (((ls ++ ts) ++ (ss ++ Y)).length : Int) := by rw [← hI4, hU_eq]
            have hI4' : fI ar I4 (((ls ++ ts) ++ (ss ++ Y)) ++ f_sub (vl ar ss bb) ts) := fI_upd hI3 (fun w q1 q2 => hw4 w (by omega)) (h84 17 (by omega))
            have hF4 : fF I I4 := fF_trans hF1 ⟨fun w q1 q2 q3 => by rw [hw4 w q2]; exact F3.1 w (by omega) q2, fun j q1 q2 q3 q4 => by rw [h84 j q4]; exact F3.2.1 j q1 q2⟩
            have hea : (((ls ++ ts) ++ (ss ++ Y)) ++ f_sub (vl ar ss bb) ts) = ((ls ++ ts) ++ (ss ++ (Y ++ f_sub (vl ar ss bb) ts))) := by simp only [List.append_assoc]
            obtain ⟨⟨k4, hk4⟩, y1, y2, y3, y4, y5⟩ := id hI4'
            have hla : (((ls ++ ts) ++ (ss ++ Y)) ++ f_sub (vl ar ss bb) ts).length = ((ls ++ ts) ++ (ss ++ Y)).length + (f_sub (vl ar ss bb) ts).length := List.length_append
            have hqx : ((ls ++ ts) ++ (ss ++ Y)).length < (((ls ++ ts) ++ (ss ++ Y)) ++ f_sub (vl ar ss bb) ts).length := by omega
            have hqp : (ls ++ ts).length + p < (((ls ++ ts) ++ (ss ++ Y)) ++ f_sub (vl ar ss bb) ts).length := by omega
            have fsX : f_s ar (((ls ++ ts) ++ (ss ++ Y)) ++ f_sub (vl ar ss bb) ts) ((ls ++ ts) ++ (ss ++ Y)).length = f_sub (vl ar ss bb) ts := by
              obtain ⟨-, -, -, z4, -⟩ := em_at ar (A := (ls ++ ts) ++ (ss ++ Y)) (C := []) hXw (p := 0) hXl
              rw [List.append_nil, Nat.add_zero, f_s_0 ar hXw] at z4
              exact z4
            have fsp : f_s ar (((ls ++ ts) ++ (ss ++ Y)) ++ f_sub (vl ar ss bb) ts) ((ls ++ ts).length + p) = f_s ar ss p := by
              rw [hea]
              obtain ⟨-, -, -, z4, -⟩ := em_at ar (A := ls ++ ts) (C := Y ++ f_sub (vl ar ss bb) ts) hsw hp
              exact z4
            refine sc_vE (as := [.inl _, .inl _]) (rest := []) (cc := 6) ct_M_found lk_M_greater lm_M_133 (c_R_gr (d := d) hk4 y1 y2 y3 100 ((ls ++ ts).length + p) ((ls ++ ts) ++ (ss ++ Y)).length I4 hqp hqx (y3 _ hqp) y4) rfl (fun r I5 hr5 => ?_)
            obtain ⟨hw5, hr5⟩ := hr5
            rw [fsp, fsX] at hr5
            have hI5 : fI ar I5 ((ls ++ ts) ++ (ss ++ (Y ++ f_sub (vl ar ss bb) ts))) := by
              rw [← hea]
              exact fI_upd hI4' (fun w q1 q2 => hw5 w (by omega)) (by rw [hw5 84 (by omega)])
            have hF5 : fF I I5 := fF_trans hF4 (fF_of (fun w q1 _ => hw5 w q1))
            rcases hr5 with ⟨rfl, hg⟩ | ⟨rfl, hg⟩
            · refine sg_R_fo_5y (k := ?_)
              refine sc_retZ ct_M_found ⟨_, _, rfl, rfl, fF_trans hF5 ⟨fun w _ q2 _ => sU_ne q2, fun j _ _ q3 _ => hU_nj q3⟩, Y ++ f_sub (vl ar ss bb) ts, fI_upd hI5 (fun w q1 q2 => sU_ne (by omega)) (hU_nj (by omega)), by rw [List.length_append]; omega, Or.inr ⟨rfl, p, bb, Nat.le_refl _, by omega, fun q' b2 q1 q2 => by omega, ⟨⟨_, h1, hg⟩, fun c hc hn0 => by have := (hval c hc hn0).1; omega⟩, hU_eq _ _ _ _, ((ls ++ ts) ++ (ss ++ Y)).length, by rw [← hea]; exact hqx, ?_, by rw [← hea]; exact fsX⟩⟩
              rw [hU_nj (by omega), hw5 84 (by omega)]
              exact h26
            · refine sg_R_fo_5n (k := ?_)
              refine kids I5 _ hF5 hI5 (by rw [List.length_append]; omega) (fun b2 hx => ?_)
              have hb2 := huniq b2 hx
              subst hb2
              obtain ⟨⟨e', he', hg2⟩, -⟩ := hx
              exact hg hg2
        · refine sg_R_fo_2n (k := ?_)
          refine kids I2 Y hF1 hI1 (by omega) (fun b2 hx => ?_)
          have hb2 := huniq b2 hx
          subst hb2
          have h3 := hx.2 c hc hn0
          have h4 := hab (-1 - c) (by omega) (by have := t6 c hc; omega)
          rcases hbb (-1 - c) with ⟨z1, z2⟩ | ⟨z1, z2, z3⟩
          · exact h3 z1
          · omega
end CR7
