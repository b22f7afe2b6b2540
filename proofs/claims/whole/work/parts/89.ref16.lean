/-! the reference: unify -/
theorem shv_0 (l : List Int) : l.map (shv 0) = l := by
  induction l with
  | nil => rfl
  | cons c l ih =>
    rw [List.map_cons, ih]
    congr 1
    unfold shv
    split <;> omega
def bkO (n0 : Nat) (b : Int) : Nat → Int := fun n => if n < n0 then 0 else b
theorem uX_of {ar : Int → Nat} {pr : Int → Bool} {u w : List Int} {b : Int} (hv : ∀ c, c < 0 → ar c = 0) (hp : ∀ c, c < 0 → pr c = false) (hu : f_wf ar 1 u) (hw : f_wf ar 1 w) (ru : ∀ c ∈ u, -6 ≤ c ∧ c < 40) (rw' : ∀ c ∈ w, -6 ≤ c ∧ c < 40) (hb : b = 0 ∨ b = 6) : uX ar pr (u ++ w) (bkO u.length b) := by
  have hk : f_wf ar 2 (u ++ w) := f_wf_app ar _ _ 1 1 hu hw
  refine ⟨⟨2, hk⟩, hv, hp, fun c hc => ?_, fun n hn => ⟨?_, fun i hi => ?_⟩⟩
  · rcases List.mem_append.mp hc with h | h
    · exact ru c h
    · exact rw' c h
  · unfold bkO
    split
    · exact Or.inl rfl
    · exact hb
  · have hlt := ap_lt ar hk hn hi
    unfold bkO
    by_cases h : n < u.length
    · have e : (u ++ w)[n] = u[n] := List.getElem_append_left h
      rw [e] at hi
      have := (f_tk_at ar (r := w) hu h).2 i (by omega)
      have h2 := ap_lt ar hu h hi
      rw [if_pos h, if_pos (by omega)]
    · rw [if_neg h, if_neg (by omega)]
theorem uI_0 {ar : Int → Nat} {pr : Int → Bool} {cs : List Int} {bk : Nat → Int} (X : uX ar pr cs bk) {vo : Int → Int} (h : ∀ v, 0 ≤ v → v < 12 → vo v = -1) : uI ar pr cs bk vo (fun c => [c]) (fun n => cs.length - 1 - n) := by
  obtain ⟨k, hk⟩ := X.1
  refine ⟨fun v g1 g2 => Or.inl (h v g1 g2), fun v _ _ _ => rfl, fun v g1 g2 g3 => absurd (h v g1 g2) g3, fun c hc => ⟨?_, X.2.2.1 c hc⟩, fun n hn => ⟨by dsimp only; omega, fun i hi => ?_, fun hc hu => ?_⟩⟩
  · rw [f_wf_c, X.2.1 c hc]
    rfl
  · have := ap_lt ar hk hn hi
    dsimp only
    omega
  · have hj := jv_b X hn hc
    exact absurd (h _ hj.1 hj.2) hu
theorem sN_rng {ar : Int → Nat} {pr : Int → Bool} {cs : List Int} {bk : Nat → Int} {vo : Int → Int} {th : Int → List Int} {ρ : Nat → Nat} (X : uX ar pr cs bk) (h : uI ar pr cs bk vo th ρ) : ∀ (N n : Nat), ρ n < N → n < cs.length → ∀ e ∈ f_sub th (tN ar cs bk n), -12 ≤ e ∧ e < 40 := by
  intro N
  induction N with
  | zero => intro n h0; omega
  | succ N ih =>
    intro n hN hn e hm
    have hcn := X.2.2.2.1 cs[n] (List.getElem_mem hn)
    by_cases hc : cs[n] < 0
    · have hj := jv_b X hn hc
      by_cases hu : vo (-1 - cs[n] + bk n) = -1
      · rw [sN_u X h hn hc hu, List.mem_singleton] at hm
        omega
      · obtain ⟨e1, e2⟩ := sN_b X h hn hc hu
        have hr := (h.2.2.2.2 n hn).2.2 hc hu
        rw [e1] at hm
        exact ih _ (by omega) e2 e hm
    · rw [sN_c X hn hc] at hm
      rcases List.mem_cons.mp hm with h1 | h1
      · omega
      · have key : ∀ i, i ≤ ar cs[n] → ∀ e ∈ f_sub th ((pre ar cs n i).map (shv (bk n))), -12 ≤ e ∧ e < 40 := by
          intro i
          induction i with
          | zero => intro _ e h2; rw [pre_0] at h2; cases h2
          | succ i ihi =>
            intro hi e h2
            obtain ⟨k, hk⟩ := X.1
            have hr := (h.2.2.2.2 n hn).2.1 i (by omega)
            rw [tN_s X hn (by omega), f_sub_app] at h2
            rcases List.mem_append.mp h2 with h3 | h3
            · exact ihi (by omega) e h3
            · exact ih _ (by omega) (ap_lt ar hk hn (by omega)).2 e h3
        exact key _ (Nat.le_refl _) e h1
section CR16
variable {l : Launch} {G : sG} {L x d : Nat} {I : sI} {ar : Int → Nat} {pr : Int → Bool} {ns : Int} {rw : List Int} {lk nr mo : Int} {sl lv : Int → List Int}
theorem c_R_uf (hR : rS I ar pr ns rw lk nr mo sl lv) (hW : wS ar sl) {z a b e : Int} (hz : sR z) (ha : sR a) (hb : sR b) (he : e = 0 ∨ e = 1) :
    sCall l G mM_unify (sRm (d + 404) 0) [.inr (.inl 84), .inl z, .inl a, .inl b, .inl e] (hS L x I) (qE L x (fun r I' => fR I I' ∧ ((I' 84 0 = 1 ∧ ¬ (okS z ∧ okS a ∧ okS b) ∧ rS I' ar pr ns rw lk nr mo sl lv) ∨ (I' 84 0 = 0 ∧ okS z ∧ okS a ∧ okS b ∧ ∃ out, uAns ar pr (sl a) ((sl b).map (shv (if e = 0 then 0 else 6))) r out ∧ (r ≠ 1 → rS I' ar pr ns rw lk nr mo sl lv) ∧ (r = 1 → rS I' ar pr ns rw lk nr mo (slU sl z out) lv))))) := by
  refine sCall_of (by decide) (Nat.le_of_ble_eq_true rfl) (sV1s_c trivial (sV1s_c hz (sV1s_c ha (sV1s_c hb (sV1s_c (sV1_i (by omega) (by omega)) sV1s_n))))) rfl ?_
  generalize hQ : (qE L x (fun r I' => fR I I' ∧ ((I' 84 0 = 1 ∧ ¬ (okS z ∧ okS a ∧ okS b) ∧ rS I' ar pr ns rw lk nr mo sl lv) ∨ (I' 84 0 = 0 ∧ okS z ∧ okS a ∧ okS b ∧ ∃ out, uAns ar pr (sl a) ((sl b).map (shv (if e = 0 then 0 else 6))) r out ∧ (r ≠ 1 → rS I' ar pr ns rw lk nr mo sl lv) ∧ (r = 1 → rS I' ar pr ns rw lk nr mo (slU sl z out) lv))))) = Q
  show sJ l G mM_unify (sRm (d + 404) 0) Q 0 (6 * 0) 0 [some (.inr (.inl 84)), some (.inl z), some (.inl a), some (.inl b), some (.inl e), none, none, none] [] (hSh L, hRF, I, x)
  refine sg_R_uf_0 (k := ?_)
  refine sc_vE (as := [.inl _, .inl _, .inl _, .inl _]) (rest := []) (cc := 6) ct_M_unify lk_M_noSlots lm_M_190 (c_R_nn (d := d) hz ha hb hb) rfl (fun r I1 hr => ?_)
  obtain ⟨rfl, ⟨rfl, hokz, hoka, hokb, -⟩ | ⟨rfl, hok⟩⟩ := hr
  · have bz := hokz
    have ba := hoka
    have bb := hokb
    unfold okS at bz ba bb
    obtain ⟨wa1, wa2, wa3⟩ := hW a hoka
    obtain ⟨wb1, wb2, wb3⟩ := hW b hokb
    have la : 0 < (sl a).length := List.length_pos_iff.mpr (f_wf_ne ar wa1)
    have lb : 0 < (sl b).length := List.length_pos_iff.mpr (f_wf_ne ar wb1)
    have hv := hR.2.1.1
    refine sg_R_uf_1 (k := ?_)
    generalize hI1 : sU (sU I 84 0 0) 84 17 0 = I1
    have S1 : scF I I1 := by rw [← hI1]; exact scF_trans (scF_0 I 0) (scT_F (scT_u _ 0 (by omega)))
    have z1 : I1 84 0 = 0 := by rw [← hI1, hU_nj (by omega), hU_eq]
    have T1 : fI ar I1 [] := fI_nil (by rw [← hI1, hU_eq])
    refine sc_vE (as := [.inr (.inl _)]) (rest := []) (cc := 6) ct_M_unify lk_M_tree lm_M_193 (c_R_tf (d := d) (rS_upd hR S1) hW hoka T1 (by simp; omega)) rfl (fun r I2 hr => ?_)
    obtain ⟨hr0, S2, T2⟩ := hr
    have hr1 : r = ((0 : Nat) : Int) := by rw [hr0]; rfl
    subst hr1
    refine sg_R_uf_2 (k := ?_)
    rw [List.nil_append] at T2
    refine sc_vE (as := [.inr (.inl _)]) (rest := []) (cc := 6) ct_M_unify lk_M_tree lm_M_193 (c_R_tf (d := d) (rS_upd hR (scF_trans S1 (scT_F S2))) hW hokb T2 (by omega)) rfl (fun r I3 hr => ?_)
    obtain ⟨rfl, S3, T3⟩ := hr
    have S13 : scT I1 I3 := scT_trans S2 S3
    have hl3 : (sl a ++ sl b).length = (sl a).length + (sl b).length := List.length_append
    obtain ⟨fa, fb⟩ := fs_two wa1 wb1
    generalize hβ : (if e = 0 then (0 : Int) else 6) = β at hQ
    have hβ' : β = 0 ∨ β = 6 := by rw [← hβ]; split <;> omega
    have X : uX ar pr (sl a ++ sl b) (bkO (sl a).length β) := uX_of hv hR.2.2.1.1 wa1 wb1 wa3 wb3 hβ'
    have bk0 : bkO (sl a).length β 0 = 0 := by unfold bkO; rw [if_pos la]
    have bk1 : bkO (sl a).length β (sl a).length = β := by unfold bkO; rw [if_neg (by omega)]
    have tn0 : tN ar (sl a ++ sl b) (bkO (sl a).length β) 0 = sl a := by unfold tN; rw [bk0, fa, shv_0]
    have tn1 : tN ar (sl a ++ sl b) (bkO (sl a).length β) (sl a).length = (sl b).map (shv β) := by unfold tN; rw [bk1, fb]
    refine sg_R_uf_3 (k := ?_)
    -- the trees are made, no variable has a value
    have main : ∀ I4 : sI, scT I1 I4 → fI ar I4 (sl a ++ sl b) → (∀ v, 0 ≤ v → v < 12 → I4 119 v = -1) → sJ l G mM_unify (sRm (d + 404) 0) Q (0 + 0 + 0 + 0) (6 * (0 + 0 + 0 + 0)) 28 [some (.inr (.inl 84)), some (.inl z), some (.inl a), some (.inl b), some (.inl e), some (.inl ((0 : Nat) : Int)), some (.inl ((sl a).length : Int)), some (.inl ((12 : Nat) : Int))] [] (hSh L, hRF, I4, x) := by
      intro I4 S4 T4 hno
      have SI4 : scF I I4 := scF_trans S1 (scT_F S4)
      have z4 : I4 84 0 = 0 := by rw [S4.2 0 (by omega) (by omega)]; exact z1
      obtain ⟨⟨k, hk⟩, g1, g2, g3, g4, g5⟩ := id T4
      have hP4 : rP I4 pr := (rS_upd hR SI4).2.2.1
      have hcall := c_R_u (l := l) (G := G) (L := L) (x := x) (d := d) X (by omega) 200 0 0 (sl a).length I4 (fun c => [c]) _ (by omega) (show 0 < (sl a ++ sl b).length by omega) (by omega) (by omega) (uI_0 X hno) (fun v q1 q2 q3 => absurd (hno v q1 q2) q3) g4 hP4
      rw [bk0, bk1] at hcall
      have rest : sJ l G mM_unify (sRm (d + 404) 0) Q (0 + 0 + 0 + 0) (6 * (0 + 0 + 0 + 0)) 47 [some (.inr (.inl 84)), some (.inl z), some (.inl a), some (.inl b), some (.inl e), some (.inl ((0 : Nat) : Int)), some (.inl ((sl a).length : Int)), some (.inl ((12 : Nat) : Int))] [.inl β, .inl ((sl a).length : Int), .inl 0, .inl ((0 : Nat) : Int), .inr (.inl 84)] (hSh L, hRF, I4, x) := by
        refine sc_vE (as := [.inl _, .inl _, .inl _, .inl _]) (rest := []) (cc := 6) ct_M_unify lk_M_unify4 lm_M_140 hcall rfl (fun r I5 hr => ?_)
        obtain ⟨f5, hr⟩ := hr
        rw [tn0, tn1] at hr
        have S5 : scT I4 I5 := scT_w (fun w h => f5 w (by omega) (by omega))
        have SI5 : scF I I5 := scF_trans SI4 (scT_F S5)
        have z5 : I5 84 0 = 0 := by rw [S5.2 0 (by omega) (by omega)]; exact z4
        have hsat0 : ∀ σ, sat ar (sl a ++ sl b) (bkO (sl a).length β) (I4 119) σ := fun σ v q1 q2 q3 => absurd (hno v q1 q2) q3
        rcases hr with ⟨rfl, th, ρ, U5, B5, E5, heq, hsat⟩ | ⟨rfl, hnone⟩
        · refine sg_R_uf_y (k := ?_)
          have hmgu : mgu ar pr (sl a) ((sl b).map (shv β)) th := ⟨⟨U5.2.2.2.1, heq⟩, fun σ hσ c q1 q2 => sat_c X U5 (hsat σ hσ.1 (hsat0 σ) hσ.2) c q1 q2⟩
          have t5 : tr ar I5 0 (sl a ++ sl b) := tr_upd hk g4 (fun w q1 q2 j _ _ => by rw [f5 w (by omega) (by omega)])
          have hρ := (U5.2.2.2.2 0 (by omega)).1
          have hwe := c_R_we (l := l) (G := G) (L := L) (x := x) (d := d) X (by omega) U5 B5 t5 200 0 (by omega) (by omega)
          rw [bk0, tn0] at hwe
          generalize hZ : f_sub th (sl a) = Z at *
          have hZw : f_wf ar 1 Z := by rw [← hZ]; exact f_sub_wf ar _ hv (fun c hc => (U5.2.2.2.1 c hc).1) _ _ wa1
          refine sc_vI (as := [.inl _, .inl _]) (rest := []) (cc := 6) ct_M_unify lk_M_weigh lm_M_150 hwe rfl ?_
          by_cases hbig : 100 < Z.length
          · refine sg_R_uf_h (k := ?_)
            rw [← hQ]
            exact sc_ret ct_M_unify ⟨_, _, rfl, rfl, scF_R SI5, Or.inr ⟨z5, hokz, hoka, hokb, [], Or.inr ⟨th, hmgu, Or.inl ⟨rfl, Or.inl (by rw [hZ]; exact hbig)⟩⟩, fun _ => rS_upd hR SI5, fun h => by omega⟩⟩
          · refine sg_R_uf_4 (k := ?_)
            have e17 : I5 84 17 = (sl a ++ sl b).length := by rw [f5 84 (by omega) (by omega)]; exact g5
            have hwi := c_R_wi (l := l) (G := G) (L := L) (x := x) (d := d) X U5 200 0 I5 (by omega) (by omega) t5 rfl B5 (by omega) (by rw [tn0, hZ, e17]; omega)
            rw [bk0, tn0, hZ] at hwi
            refine sc_vE (as := [.inl _, .inl _]) (rest := []) (cc := 6) ct_M_unify lk_M_with lm_M_159 hwi rfl (fun r I6 hr6 => ?_)
            obtain ⟨rfl, F6, T6, X6, R6⟩ := hr6
            rw [e17] at T6 X6 ⊢
            have hZr : ∀ c ∈ Z, -12 ≤ c ∧ c < 40 := by
              have := sN_rng X U5 _ 0 (Nat.lt_succ_self _) (by omega)
              rw [tn0, hZ] at this
              exact this
            have hlZ : (sl a ++ sl b ++ Z).length = (sl a ++ sl b).length + Z.length := List.length_append
            have t6 : tr ar I6 0 (sl a ++ sl b ++ Z) := tr_app hk (bF_tr F6 hk t5 (by omega)) (by rw [Int.zero_add]; exact X6)
            have hk6 : f_wf ar (k + 1) (sl a ++ sl b ++ Z) := f_wf_app ar _ _ _ _ hk hZw
            obtain ⟨fl, fll⟩ := fs_last (cs := sl a ++ sl b) hZw
            have hWZ : f_tk ar 1 ((sl a ++ sl b ++ Z).drop (sl a ++ sl b).length) = Z.length := by rw [← f_s_len, fl]
            have hr6 : ∀ c ∈ sl a ++ sl b ++ Z, -12 ≤ c ∧ c < 40 := fun c hc => by
              rcases List.mem_append.mp hc with h | h
              · have := g2 c h
                omega
              · exact hZr c h
            have S6 : scT I5 I6 := scT_b F6
            have SI6 : scF I I6 := scF_trans SI5 (scT_F S6)
            have z6 : I6 84 0 = 0 := by rw [S6.2 0 (by omega) (by omega)]; exact z5
            refine sg_R_uf_5 (k := ?_)
            refine sc_vF (as := [.inl _]) (rest := []) (cc := 6) ct_M_unify lk_M_number lm_M_162 (c_R_nu (d := d) (p := (sl a ++ sl b).length) (S := []) hk6 (by omega) hr6 hv t6 100 _ fll (by omega) (by rw [sU_ne (by omega)]) (by rw [sU_ne (by omega)]) (fun j hj _ _ => by rw [sU_ne (by omega)]; exact (tr_at t6 hj).1) (by rw [hU_eq]; rfl) (fun k h => by simp at h) (by rw [fl]; exact nml_12 (fun c hc => (hZr c hc).1))) rfl (fun I8 hI8 => ?_)
            rw [fl, hWZ] at hI8
            obtain ⟨n1, n2, n3, n4, n5, n6⟩ := hI8
            have S8 : scT I6 I8 := ⟨fun w q1 q2 => by rw [n1 w q2 (by omega) (by omega), sU_ne q2], fun j q1 q2 => by rw [n2 j (by omega), hU_nj (by omega)]⟩
            have SI8 : scF I I8 := scF_trans SI6 (scT_F S8)
            have z8 : I8 84 0 = 0 := by rw [S8.2 0 (by omega) (by omega)]; exact z6
            by_cases h6 : 6 < (nml [] Z).length
            · refine sg_R_uf_m (k := ?_)
              rw [← hQ]
              exact sc_ret ct_M_unify ⟨_, _, rfl, rfl, scF_R SI8, Or.inr ⟨z8, hokz, hoka, hokb, [], Or.inr ⟨th, hmgu, Or.inl ⟨rfl, Or.inr (by rw [hZ]; exact h6)⟩⟩, fun _ => rS_upd hR SI8, fun h => by omega⟩⟩
            · have hmap : (sl a ++ sl b ++ Z).map ar = (sl a ++ sl b ++ canon Z).map ar := by
                rw [List.map_append (l₁ := sl a ++ sl b) (l₂ := Z), List.map_append (l₁ := sl a ++ sl b) (l₂ := canon Z)]
                congr 1
                unfold canon
                rw [List.map_map]
                apply List.map_congr_left
                intro c _
                exact (cv_arr hv _ c).symm
              have hcl : (canon Z).length = Z.length := by unfold canon; rw [List.length_map]
              have hlC : (sl a ++ sl b ++ canon Z).length = (sl a ++ sl b).length + (canon Z).length := List.length_append
              have t8 : tr ar I8 0 (sl a ++ sl b ++ canon Z) := tr_arc hk6 t6 hmap (fun w q1 q2 => by rw [n1 w (by omega) (by omega) (by omega), sU_ne (by omega)]) (fun p hp => by
                by_cases hpc : p < (sl a ++ sl b).length
                · rw [n6 p (by omega), sU_ne (by omega), (tr_at t6 (p := p) (by omega)).1, List.getElem_append_left hpc, List.getElem_append_left hpc]
                · rw [n5 p (by omega) (by omega) (by omega), List.getElem_append_right (by omega), List.getElem_append_right (by omega)]
                  unfold canon
                  rw [List.getElem_map])
              have hk8 : f_wf ar (k + 1) (sl a ++ sl b ++ canon Z) := f_wf_arc ar _ _ _ hmap hk6
              have hCw : f_wf ar 1 (canon Z) := f_wf_arc ar Z _ 1 (by
                unfold canon
                rw [List.map_map]
                apply List.map_congr_left
                intro c _
                exact (cv_arr hv _ c).symm) hZw
              have hCr : ∀ c ∈ sl a ++ sl b ++ canon Z, -12 ≤ c ∧ c < 40 := fun c hc => by
                rcases List.mem_append.mp hc with h | h
                · have := g2 c h
                  omega
                · unfold canon at h
                  obtain ⟨q, hq, rfl⟩ := List.mem_map.mp h
                  unfold cv
                  by_cases hq0 : q < 0
                  · rw [if_pos hq0]
                    have := List.idxOf_le_length (a := q) (l := nml [] Z)
                    omega
                  · rw [if_neg hq0]
                    exact hZr q hq
              obtain ⟨fc, fcl⟩ := fs_last (cs := sl a ++ sl b) hCw
              have hWC : f_tk ar 1 ((sl a ++ sl b ++ canon Z).drop (sl a ++ sl b).length) ≤ 100 := by rw [← f_s_len, fc]; omega
              refine sg_R_uf_6 (k := ?_)
              refine sc_vI (as := [.inl _, .inr (.inl _)]) (rest := [.inl _, .inr (.inl _)]) (cc := 6) ct_M_unify lk_M_written lm_M_196 (c_R_wn (d := d) hk8 (by omega) hCr (hC_k L bz.1 bz.2) (by omega) fcl t8 hWC) rfl ?_
              rw [fc]
              have hsz : sArr (hSh L) 0 105 z := hAr rfl bz.1 bz.2
              refine sg_R_uf_7 (k := ?_)
              rw [← hQ]
              refine sc_ret ct_M_unify ⟨_, _, rfl, rfl, fun w g => by rw [sU_ne (by omega), wrt_o _ _ _ _ (by omega) (by omega)]; exact scF_R SI8 w g, Or.inr ⟨by rw [sU_ne (by omega), wrt_84 _ _ _ (by omega) (by omega)]; exact z8, hokz, hoka, hokb, canon Z, Or.inr ⟨th, hmgu, Or.inr ⟨rfl, by rw [hZ]; omega, by rw [hZ]; omega, by rw [hZ]⟩⟩, fun h => absurd rfl h, fun _ => ?_⟩⟩
              exact rS_slot (rS_upd hR SI8) hokz (fun w u1 u2 u3 _ => by rw [sU_ne u2, wrt_o _ _ _ _ u3 u1]) (fun j u1 u2 => by rw [sU_ne (by omega), wrt_84 _ _ _ (by omega) (by omega)]) (fun j u => by rw [hU_nj u, wrt_o _ _ _ _ (by omega) (by omega)]) ⟨by rw [hU_eq], fun k hk => by rw [sU_ne (by omega)]; exact wrt_f I8 _ hk⟩
        · refine sg_R_uf_n (k := ?_)
          rw [← hQ]
          exact sc_ret ct_M_unify ⟨_, _, rfl, rfl, scF_R SI5, Or.inr ⟨z5, hokz, hoka, hokb, [], Or.inl ⟨rfl, fun σ hσ => hnone σ hσ.1 (hsat0 σ) hσ.2⟩, fun _ => rS_upd hR SI5, fun h => by omega⟩⟩
      rcases he with rfl | rfl
      · rw [if_pos rfl] at hβ
        subst hβ
        refine sg_R_uf_u0 (k := ?_)
        exact rest
      · rw [if_neg (by omega)] at hβ
        subst hβ
        refine sg_R_uf_u6 (k := ?_)
        exact rest
    have loop : ∀ (m j : Nat) (I4 : sI), m = 12 - j → j ≤ 12 → scT I1 I4 → fI ar I4 (sl a ++ sl b) → (∀ v : Int, 0 ≤ v → v < j → I4 119 v = -1) → sJ l G mM_unify (sRm (d + 404) 0) Q (0 + 0 + 0 + 0) (6 * (0 + 0 + 0 + 0)) 28 [some (.inr (.inl 84)), some (.inl z), some (.inl a), some (.inl b), some (.inl e), some (.inl ((0 : Nat) : Int)), some (.inl ((sl a).length : Int)), some (.inl (j : Int))] [] (hSh L, hRF, I4, x) := by
      intro m
      induction m with
      | zero =>
        intro j I4 hm hj S4 T4 hno
        have hj' : j = 12 := by omega
        subst hj'
        exact main I4 S4 T4 (fun v q1 q2 => hno v q1 (by omega))
      | succ m ihm =>
        intro j I4 hm hj S4 T4 hno
        refine sg_R_uf_z (k := ?_)
        refine ihm (j + 1) _ (by omega) (by omega) (scT_trans S4 ⟨fun w q1 q2 => sU_ne (by omega), fun q _ _ => by rw [sU_ne (by omega)]⟩) (fI_upd T4 (fun w q1 q2 => sU_ne (by omega)) (by rw [sU_ne (by omega)])) (fun v q1 q2 => ?_)
        by_cases hvj : v = j
        · rw [hvj, hU_eq]
        · rw [hU_nj hvj]
          exact hno v q1 (by omega)
    exact loop 12 0 I3 rfl (by omega) S13 T3 (fun v q1 q2 => by omega)
  · refine sg_R_uf_r (k := ?_)
    rw [← hQ]
    exact sc_ret ct_M_unify ⟨_, _, rfl, rfl, scF_R (scF_0 I 1), Or.inl ⟨hU_eq _ _ _ _, fun h => hok ⟨h.1, h.2.1, h.2.2, h.2.2⟩, rS_upd hR (scF_0 I 1)⟩⟩
end CR16
