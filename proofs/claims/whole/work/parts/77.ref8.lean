/-! the reference: depth, number -/
def nuQ (I : sI) (ar : Int → Nat) (cs : List Int) (p W : Nat) (S : List Int) : sI → Prop := fun I' => (∀ w, w ≠ 84 → w ≠ 114 → w ≠ 121 → I' w = I w) ∧ (∀ j, j ≠ 23 → I' 84 j = I 84 j) ∧ I' 84 23 = S.length ∧ (∀ k : Nat, (h : k < S.length) → I' 121 k = S[k]) ∧ (∀ j : Nat, (h : j < cs.length) → p ≤ j → j < p + W → I' 114 j = cv S cs[j]) ∧ ∀ j : Int, (j < p ∨ p + W ≤ j) → I' 114 j = I 114 j
section CR8
variable {l : Launch} {G : sG} {L x d : Nat} {ar : Int → Nat} {cs : List Int} {kk : Nat}
theorem c_R_de (hwf : f_wf ar kk cs) (h6 : cs.length ≤ 6000) {I : sI} (ht : tr ar I 0 cs) : ∀ (n p : Nat), p < cs.length → f_tk ar 1 (cs.drop p) ≤ n →
    sCall l G mM_depth (sRm (d + n) 0) [.inr (.inl 84), .inl (p : Int)] (hS L x I) (qI L x (dpt (en ar cs p) (f_tk ar 1 (cs.drop p))) I) := by
  intro n
  induction n with
  | zero =>
    intro p hp hn
    have := (f_s_pos ar hwf hp).1
    omega
  | succ n ih =>
    intro p hp hn
    have hpos := f_s_pos ar hwf hp
    obtain ⟨t1, t2, t3, t4⟩ := tr_at ht hp
    have hae := ap_end ar hwf hp
    refine sCall_of (by decide) (Nat.le_of_ble_eq_true rfl) (sV1s_c trivial (sV1s_c (sV1_i (by omega) (by omega)) sV1s_n)) rfl ?_
    show sJ l G mM_depth (sRm (d + (n + 1)) 0) _ 0 (6 * 0) 0 [some (.inr (.inl 84)), some (.inl (p : Int)), none, none] [] (hSh L, hRF, I, x)
    refine sg_R_de_0 (k := ?_)
    have loop : ∀ (m i : Nat) (w ka : Int), m = ar cs[p] - i → i ≤ ar cs[p] → ka = kc ar cs p (ar cs[p]) i → w = dpt (en ar cs p) (ap ar cs p i - p) - 1 →
        sJ l G mM_depth (sRm (d + (n + 1)) 0) (qI L x (dpt (en ar cs p) (f_tk ar 1 (cs.drop p))) I) 0 (6 * 0) 7 [some (.inr (.inl 84)), some (.inl (p : Int)), some (.inl w), some (.inl ka)] [] (hSh L, hRF, I, x) := by
      intro m
      induction m with
      | zero =>
        intro i w ka hm hi hka hw
        have hi' : i = ar cs[p] := by omega
        subst hi'
        rw [kc_no] at hka
        rw [hae, show p + f_tk ar 1 (cs.drop p) - p = f_tk ar 1 (cs.drop p) by omega] at hw
        have hb := dpt_b (en ar cs p) (f_tk ar 1 (cs.drop p))
        refine sg_R_de_x (k := ?_)
        exact sc_ret ct_M_depth ⟨by rw [hw]; congr 3; omega, rfl⟩
      | succ m ihm =>
        intro i w ka hm hi hka hw
        have hi' : i < ar cs[p] := by omega
        rw [kc_in hi'] at hka
        subst hka
        have hlt := ap_lt ar hwf hp hi'
        have hkd := ap_kid ar hwf hp hi'
        have has := ap_s ar hwf hp hi'
        have hdi := dpt_in ar hwf hp hi' _ (by omega) (Nat.le_refl _)
        rw [show ap ar cs p i - p + f_tk ar 1 (cs.drop (ap ar cs p i)) = ap ar cs p (i + 1) - p by omega] at hdi
        refine sg_R_de_k (k := ?_)
        refine sc_vI (as := [.inl _]) (rest := [.inl _]) (cc := 6) ct_M_depth lk_M_depth lm_M_200 (ih (ap ar cs p i) hlt.2 (by omega)) rfl ?_
        refine sc_max (rest := []) ct_M_depth lm_M_max ?_
        refine sg_R_de_n (k := ?_)
        exact ihm (i + 1) _ _ (by omega) (by omega) (t4 i hi') (by
          rw [hdi, hw]
          split <;> omega)
    exact loop (ar cs[p]) 0 _ _ rfl (Nat.zero_le _) t3 (by rw [dpt_first ar hwf hp]; rfl)
theorem c_R_nu (hwf : f_wf ar kk cs) (h6 : cs.length ≤ 6000) (hrg : ∀ c ∈ cs, -12 ≤ c ∧ c < 40) (hv : ∀ c, c < 0 → ar c = 0) {I0 : sI} (ht : tr ar I0 0 cs) : ∀ (n p : Nat) (I : sI) (S : List Int), p < cs.length → f_tk ar 1 (cs.drop p) ≤ n → I 115 = I0 115 → I 116 = I0 116 → (∀ j : Nat, (h : j < cs.length) → p ≤ j → j < p + f_tk ar 1 (cs.drop p) → I 114 j = cs[j]) → I 84 23 = S.length → (∀ k : Nat, (h : k < S.length) → I 121 k = S[k]) → (nml S (f_s ar cs p)).length ≤ 12 →
    sCall l G mM_number (sRm (d + n) 0) [.inr (.inl 84), .inl (p : Int)] (hS L x I) (qF L x (nuQ I ar cs p (f_tk ar 1 (cs.drop p)) (nml S (f_s ar cs p)))) := by
  intro n
  induction n with
  | zero =>
    intro p I S hp hn
    have := (f_s_pos ar hwf hp).1
    omega
  | succ n ih =>
    intro p I S hp hn h115 h116 h114 h23 hS hL
    have hpos := f_s_pos ar hwf hp
    obtain ⟨t1, t2, t3, t4⟩ := tr_at ht hp
    have hca := hrg cs[p] (List.getElem_mem hp)
    have hend := pre_end ar hwf hp
    have hcp : I 114 p = cs[p] := h114 p hp (by omega) (by omega)
    have hae := ap_end ar hwf hp
    refine sCall_of (by decide) (Nat.le_of_ble_eq_true rfl) (sV1s_c trivial (sV1s_c (sV1_i (by omega) (by omega)) sV1s_n)) rfl ?_
    show sJ l G mM_number (sRm (d + (n + 1)) 0) _ 0 (6 * 0) 0 [some (.inr (.inl 84)), some (.inl (p : Int)), none] [] (hSh L, hRF, I, x)
    by_cases hc : cs[p] < 0
    · have h0 := hv _ hc
      have hW : f_tk ar 1 (cs.drop p) = 1 := by rw [f_tk_1 ar hwf hp, h0, f_tk_0]
      have hfs : f_s ar cs p = [cs[p]] := by rw [hend, h0, pre_0]
      have hk15 : I0 115 p = -1 := by rw [t3, h0]; rfl
      rw [hfs] at hL ⊢
      rw [hW]
      have hnm : nml S [cs[p]] = if cs[p] < 0 ∧ cs[p] ∉ S then S ++ [cs[p]] else S := by simp only [nml]
      have hSl : S.length ≤ 12 := by
        obtain ⟨R, hR⟩ := nml_pre [cs[p]] S
        rw [hR, List.length_append] at hL
        omega
      refine sg_R_nu_v (k := ?_)
      have loop : ∀ (m j : Nat), m = S.length - j → j ≤ S.length → (∀ i, (h : i < j) → (h2 : i < S.length) → S[i] ≠ cs[p]) →
          sJ l G mM_number (sRm (d + (n + 1)) 0) (qF L x (nuQ I ar cs p 1 (nml S [cs[p]]))) 0 (6 * 0) 7 [some (.inr (.inl 84)), some (.inl (p : Int)), some (.inl (j : Int))] [] (hSh L, hRF, I, x) := by
        intro m
        induction m with
        | zero =>
          intro j hm hj hno
          have hj' : j = S.length := by omega
          subst hj'
          have hni : cs[p] ∉ S := fun h => by
            obtain ⟨i, hi, hie⟩ := List.getElem_of_mem h
            exact hno i hi hi hie
          rw [if_pos ⟨hc, hni⟩] at hnm
          rw [hnm] at hL ⊢
          rw [List.length_append, List.length_singleton] at hL
          refine sg_R_nu_e (k := ?_)
          have hk2 : I 115 p = -1 := by rw [h115]; exact hk15
          refine sg_R_nu_a (v12 := cs[p]) (v19 := -1) (e12 := by rw [sU_ne (by omega)]; exact hcp) (e19 := by rw [sU_ne (by omega), sU_ne (by omega), sU_ne (by omega)]; exact hk2) (k := ?_)
          refine sg_R_nu_x (k := ?_)
          refine sc_retV ct_M_number ⟨_, rfl, rfl, fun w g1 g2 g3 => ?_, fun j g1 => ?_, ?_, fun q hq => ?_, fun j hj g1 g2 => ?_, fun j g1 => ?_⟩
          · rw [sU_ne g2, sU_ne g3, sU_ne g1]
          · rw [sU_ne (by omega), sU_ne (by omega), hU_nj g1]
          · rw [sU_ne (by omega), sU_ne (by omega), hU_eq, h23, List.length_append, List.length_singleton]
            rfl
          · rw [sU_ne (by omega), h23]
            rw [List.length_append, List.length_singleton] at hq
            by_cases hqs : q = S.length
            · subst hqs
              rw [hU_eq, List.getElem_append_right (Nat.le_refl _)]
              simp
            · rw [hU_nj (by omega), sU_ne (by omega), hS q (by omega), List.getElem_append_left (by omega)]
          · have : j = p := by omega
            subst this
            rw [hU_eq]
            unfold cv
            rw [if_pos hc, idx_new hni]
          · rw [hU_nj (by omega), sU_ne (by omega), sU_ne (by omega)]
        | succ m ihm =>
          intro j hm hj hno
          have hj' : j < S.length := by omega
          have hsj := hS j hj'
          by_cases hsc : S[j] = cs[p]
          · refine sg_R_nu_q (k := ?_)
            have hin : cs[p] ∈ S := by rw [← hsc]; exact List.getElem_mem hj'
            rw [if_neg (fun h => h.2 hin)] at hnm
            rw [hnm]
            have hk2 : I 115 p = -1 := by rw [h115]; exact hk15
            refine sg_R_nu_o (v12 := -1) (e12 := by rw [sU_ne (by omega)]; exact hk2) (k := ?_)
            refine sg_R_nu_x (k := ?_)
            refine sc_retV ct_M_number ⟨_, rfl, rfl, fun w g1 g2 g3 => sU_ne g2, fun j g1 => by rw [sU_ne (by omega)], by rw [sU_ne (by omega)]; exact h23, fun q hq => by rw [sU_ne (by omega)]; exact hS q hq, fun i hi g1 g2 => ?_, fun i g1 => hU_nj (by omega)⟩
            have : i = p := by omega
            subst this
            rw [hU_eq]
            unfold cv
            rw [if_pos hc, idx_first hj' hsc (fun q hq => hno q hq (by omega))]
          · refine sg_R_nu_l (k := ?_)
            refine ihm (j + 1) (by omega) (by omega) (fun i h h2 => ?_)
            by_cases hij : i = j
            · subst hij; exact hsc
            · exact hno i (by omega) h2
      exact loop S.length 0 rfl (Nat.zero_le _) (fun i h => by omega)
    · refine sg_R_nu_s (k := ?_)
      have hn0 : nml S (f_s ar cs p) = nml S (pre ar cs p (ar cs[p])) := by
        rw [hend]
        simp only [nml]
        rw [if_neg (fun h => hc h.1)]
      have loop : ∀ (m i : Nat) (ka : Int) (I2 : sI), m = ar cs[p] - i → i ≤ ar cs[p] → ka = kc ar cs p (ar cs[p]) i → nuQ I ar cs p (ap ar cs p i - p) (nml S (pre ar cs p i)) I2 →
          sJ l G mM_number (sRm (d + (n + 1)) 0) (qF L x (nuQ I ar cs p (f_tk ar 1 (cs.drop p)) (nml S (f_s ar cs p)))) 0 (6 * 0) 52 [some (.inr (.inl 84)), some (.inl (p : Int)), some (.inl ka)] [] (hSh L, hRF, I2, x) := by
        intro m
        induction m with
        | zero =>
          intro i ka I2 hm hi hka hQ
          have hi' : i = ar cs[p] := by omega
          subst hi'
          rw [kc_no] at hka
          rw [hae, show p + f_tk ar 1 (cs.drop p) - p = f_tk ar 1 (cs.drop p) by omega, ← hn0] at hQ
          refine sg_R_nu_x (k := ?_)
          exact sc_retV ct_M_number ⟨_, rfl, rfl, hQ⟩
        | succ m ihm =>
          intro i ka I2 hm hi hka hQ
          have hi' : i < ar cs[p] := by omega
          rw [kc_in hi'] at hka
          subst hka
          have hlt := ap_lt ar hwf hp hi'
          have hkd := ap_kid ar hwf hp hi'
          have has := ap_s ar hwf hp hi'
          obtain ⟨y1, y2, y3, y4, y5, y6⟩ := hQ
          have hL2 : (nml (nml S (pre ar cs p i)) (f_s ar cs (ap ar cs p i))).length ≤ 12 := by
            rw [← nml_app, ← pre_s ar hwf hp hi']
            obtain ⟨r, hr⟩ := pre_le ar hwf hp (i := i + 1) (n := ar cs[p]) (by omega) (Nat.le_refl _)
            rw [hn0, hr, nml_app] at hL
            obtain ⟨R, hR⟩ := nml_pre r (nml S (pre ar cs p (i + 1)))
            rw [hR, List.length_append] at hL
            omega
          refine sg_R_nu_k (k := ?_)
          refine sc_vF (as := [.inl _]) (rest := []) (cc := 6) ct_M_number lk_M_number lm_M_162 (ih (ap ar cs p i) I2 (nml S (pre ar cs p i)) hlt.2 (by omega) (by rw [y1 115 (by omega) (by omega) (by omega)]; exact h115) (by rw [y1 116 (by omega) (by omega) (by omega)]; exact h116) (fun j hj g1 g2 => by rw [y6 j (by omega)]; exact h114 j hj (by omega) (by omega)) y3 y4 hL2) rfl (fun I3 hI3 => ?_)
          obtain ⟨z1, z2, z3, z4, z5, z6⟩ := hI3
          rw [← nml_app, ← pre_s ar hwf hp hi'] at z3 z4 z5
          have e116 : I3 116 (ap ar cs p i : Int) = kc ar cs p (ar cs[p]) (i + 1) := by
            rw [z1 116 (by omega) (by omega) (by omega), y1 116 (by omega) (by omega) (by omega), h116]
            exact t4 i hi'
          refine sg_R_nu_n (k := ?_)
          refine ihm (i + 1) _ I3 (by omega) (by omega) e116 ⟨fun w g1 g2 g3 => by rw [z1 w g1 g2 g3, y1 w g1 g2 g3], fun j g1 => by rw [z2 j g1, y2 j g1], z3, z4, fun j hj g1 g2 => ?_, fun j g1 => ?_⟩
          · by_cases hja : j < ap ar cs p i
            · rw [z6 j (by omega), y5 j hj g1 (by omega), pre_s ar hwf hp hi', nml_app]
              refine (cv_nml _ _ (fun hn1 => ?_)).symm
              refine (nml_mem _ _ _).mpr (Or.inr ⟨?_, hn1⟩)
              by_cases hjp : j = p
              · subst hjp; exact absurd hn1 hc
              · have hpl := pre_ap ar cs p i
                unfold pre
                rw [List.mem_take_iff_getElem]
                refine ⟨j - (p + 1), ?_, ?_⟩
                · rw [List.length_drop]
                  unfold ap at hja
                  omega
                · rw [List.getElem_drop]
                  congr 1
                  omega
            · exact z5 j hj (by omega) (by omega)
          · rw [z6 j (by omega), y6 j (by omega)]
      have hk2 : I 115 p = kc ar cs p (ar cs[p]) 0 := by rw [h115]; exact t3
      refine loop (ar cs[p]) 0 _ I rfl (Nat.zero_le _) hk2 ⟨fun _ _ _ _ => rfl, fun _ _ => rfl, by rw [pre_0]; exact h23, by rw [pre_0]; exact hS, fun j hj g1 g2 => ?_, fun _ _ => rfl⟩
      rw [ap_0] at g2
      have : j = p := by omega
      subst this
      rw [hcp]
      unfold cv
      rw [if_neg hc]
end CR8
