/-! the reference: occurs, weigh, with, bind -/
theorem lm_M_136 : sLm "TermBenchModel" 136 mM_bind = true := by decide +kernel
theorem lm_M_140 : sLm "TermBenchModel" 140 mM_unify4 = true := by decide +kernel
theorem lm_M_147 : sLm "TermBenchModel" 147 mM_occurs = true := by decide +kernel
theorem lm_M_150 : sLm "TermBenchModel" 150 mM_weigh = true := by decide +kernel
theorem lm_M_159 : sLm "TermBenchModel" 159 mM_with = true := by decide +kernel
theorem lm_M_min : sIn (Cond.methodLink "TermBenchModel" 154 Lib.Math.min.name) = true := by decide +kernel
def uB (I : sI) (bk : Nat → Int) : Prop := ∀ v, 0 ≤ v → v < 12 → I 119 v ≠ -1 → I 120 v = bk (I 119 v).toNat
section CR9
variable {l : Launch} {G : sG} {L x d : Nat} {ar : Int → Nat} {pr : Int → Bool} {cs : List Int} {bk : Nat → Int} {th : Int → List Int} {ρ : Nat → Nat}
theorem c_R_oc {I : sI} (X : uX ar pr cs bk) (h6 : cs.length ≤ 6000) (hU : uI ar pr cs bk (I 119) th ρ) (hB : uB I bk) (ht : tr ar I 0 cs) {v : Int} (hv0 : 0 ≤ v) (hv1 : v < 12) (hvu : I 119 v = -1) : ∀ (N n : Nat), n < cs.length → ρ n < N →
    sCall l G mM_occurs (sRm (d + N) 0) [.inr (.inl 84), .inl v, .inl (n : Int), .inl (bk n)] (hS L x I) (qE L x (fun r I' => I' = I ∧ ((r = 1 ∧ (-1 - v) ∈ f_sub th (tN ar cs bk n)) ∨ (r = 0 ∧ (-1 - v) ∉ f_sub th (tN ar cs bk n))))) := by
  intro N
  induction N with
  | zero => intro n _ h; omega
  | succ N ih =>
    intro n hn hN
    obtain ⟨k, hk⟩ := X.1
    obtain ⟨t1, t2, t3, t4⟩ := tr_at ht hn
    have hbn := (X.2.2.2.2 n hn).1
    have hrn := hU.2.2.2.2 n hn
    have hcn := X.2.2.2.1 cs[n] (List.getElem_mem hn)
    refine sCall_of (by decide) (Nat.le_of_ble_eq_true rfl) (sV1s_c trivial (sV1s_c (sV1_i (by omega) (by omega)) (sV1s_c (sV1_i (by omega) (by omega)) (sV1s_c (sV1_i (by omega) (by omega)) sV1s_n)))) rfl ?_
    show sJ l G mM_occurs (sRm (d + (N + 1)) 0) _ 0 (6 * 0) 0 [some (.inr (.inl 84)), some (.inl v), some (.inl (n : Int)), some (.inl (bk n)), none] [] (hSh L, hRF, I, x)
    by_cases hc : cs[n] < 0
    · have hj := jv_b X hn hc
      have hjj : -1 - I 114 n + bk n = -1 - cs[n] + bk n := by rw [t1]
      by_cases hjv : -1 - cs[n] + bk n = v
      · refine sg_R_oc_e (k := ?_)
        exact sc_retZ ct_M_occurs ⟨_, _, rfl, rfl, rfl, Or.inl ⟨rfl, by rw [sN_u X hU hn hc (by rw [hjv]; exact hvu), List.mem_singleton]; omega⟩⟩
      · by_cases hu : I 119 (-1 - cs[n] + bk n) = -1
        · have hu2 : I 119 (-1 - I 114 n + bk n) = -1 := by rw [hjj]; exact hu
          refine sg_R_oc_u (k := ?_)
          exact sc_retZ ct_M_occurs ⟨_, _, rfl, rfl, rfl, Or.inr ⟨rfl, by rw [sN_u X hU hn hc hu, List.mem_singleton]; omega⟩⟩
        · obtain ⟨e1, e2⟩ := sN_b X hU hn hc hu
          have h1 := hU.1 _ hj.1 hj.2
          have a1 : I 119 (-1 - I 114 n + bk n) = (((I 119 (-1 - cs[n] + bk n)).toNat : Nat) : Int) := by rw [hjj]; omega
          have a2 : I 120 (-1 - I 114 n + bk n) = bk (I 119 (-1 - cs[n] + bk n)).toNat := by rw [hjj]; exact hB _ hj.1 hj.2 hu
          have hr := hrn.2.2 hc hu
          refine sg_R_oc_k (k := ?_)
          rw [a1, a2]
          refine sc_vE (as := [.inl _, .inl _, .inl _]) (rest := []) (cc := 6) ct_M_occurs lk_M_occurs lm_M_147 (ih _ e2 (by omega)) rfl (fun r I1 hr1 => ?_)
          obtain ⟨rfl, ⟨rfl, hm⟩ | ⟨rfl, hm⟩⟩ := hr1
          · refine sg_R_oc_r1 (k := ?_)
            exact sc_retZ ct_M_occurs ⟨_, _, rfl, rfl, rfl, Or.inl ⟨rfl, by rw [e1]; exact hm⟩⟩
          · refine sg_R_oc_r0 (k := ?_)
            exact sc_retZ ct_M_occurs ⟨_, _, rfl, rfl, rfl, Or.inr ⟨rfl, by rw [e1]; exact hm⟩⟩
    · refine sg_R_oc_g (k := ?_)
      have loop : ∀ (m i : Nat) (ka : Int), m = ar cs[n] - i → i ≤ ar cs[n] → ka = kc ar cs n (ar cs[n]) i → (-1 - v) ∉ f_sub th ((pre ar cs n i).map (shv (bk n))) →
          sJ l G mM_occurs (sRm (d + (N + 1)) 0) (qE L x (fun r I' => I' = I ∧ ((r = 1 ∧ (-1 - v) ∈ f_sub th (tN ar cs bk n)) ∨ (r = 0 ∧ (-1 - v) ∉ f_sub th (tN ar cs bk n))))) 0 (6 * 0) 43 [some (.inr (.inl 84)), some (.inl v), some (.inl (n : Int)), some (.inl (bk n)), some (.inl ka)] [] (hSh L, hRF, I, x) := by
        intro m
        induction m with
        | zero =>
          intro i ka hm hi hka hno
          have hi' : i = ar cs[n] := by omega
          subst hi'
          rw [kc_no] at hka
          refine sg_R_oc_x (k := ?_)
          exact sc_retZ ct_M_occurs ⟨_, _, rfl, rfl, rfl, Or.inr ⟨rfl, by
            rw [sN_c X hn hc]
            intro h
            rcases List.mem_cons.mp h with h | h
            · omega
            · exact hno h⟩⟩
        | succ m ihm =>
          intro i ka hm hi hka hno
          have hi' : i < ar cs[n] := by omega
          rw [kc_in hi'] at hka
          subst hka
          have hlt := ap_lt ar hk hn hi'
          have hr := hrn.2.1 i hi'
          have hih := ih (ap ar cs n i) hlt.2 (by omega)
          rw [(X.2.2.2.2 n hn).2 i hi'] at hih
          refine sg_R_oc_l (k := ?_)
          refine sc_vE (as := [.inl _, .inl _, .inl _]) (rest := []) (cc := 6) ct_M_occurs lk_M_occurs lm_M_147 hih rfl (fun r I1 hr1 => ?_)
          obtain ⟨rfl, ⟨rfl, hmm⟩ | ⟨rfl, hmm⟩⟩ := hr1
          · refine sg_R_oc_t (k := ?_)
            exact sc_retZ ct_M_occurs ⟨_, _, rfl, rfl, rfl, Or.inl ⟨rfl, f_sub_mono (fun c hcm => tN_mem X hn hi' hcm) hmm⟩⟩
          · refine sg_R_oc_n (k := ?_)
            refine ihm (i + 1) _ (by omega) (by omega) (t4 i hi') ?_
            rw [tN_s X hn hi', f_sub_app]
            intro h
            rcases List.mem_append.mp h with h | h
            · exact hno h
            · exact hmm h
      exact loop (ar cs[n]) 0 _ rfl (Nat.zero_le _) t3 (by rw [pre_0]; intro h; cases h)
theorem c_R_we {I : sI} (X : uX ar pr cs bk) (h6 : cs.length ≤ 6000) (hU : uI ar pr cs bk (I 119) th ρ) (hB : uB I bk) (ht : tr ar I 0 cs) : ∀ (N n : Nat), n < cs.length → ρ n < N →
    sCall l G mM_weigh (sRm (d + N) 0) [.inr (.inl 84), .inl (n : Int), .inl (bk n)] (hS L x I) (qI L x (min 1000 ((f_sub th (tN ar cs bk n)).length : Int)) I) := by
  intro N
  induction N with
  | zero => intro n _ h; omega
  | succ N ih =>
    intro n hn hN
    obtain ⟨k, hk⟩ := X.1
    obtain ⟨t1, t2, t3, t4⟩ := tr_at ht hn
    have hbn := (X.2.2.2.2 n hn).1
    have hrn := hU.2.2.2.2 n hn
    have hcn := X.2.2.2.1 cs[n] (List.getElem_mem hn)
    refine sCall_of (by decide) (Nat.le_of_ble_eq_true rfl) (sV1s_c trivial (sV1s_c (sV1_i (by omega) (by omega)) (sV1s_c (sV1_i (by omega) (by omega)) sV1s_n))) rfl ?_
    show sJ l G mM_weigh (sRm (d + (N + 1)) 0) _ 0 (6 * 0) 0 [some (.inr (.inl 84)), some (.inl (n : Int)), some (.inl (bk n)), none, none] [] (hSh L, hRF, I, x)
    by_cases hc : cs[n] < 0
    · have hj := jv_b X hn hc
      have hjj : -1 - I 114 n + bk n = -1 - cs[n] + bk n := by rw [t1]
      by_cases hu : I 119 (-1 - cs[n] + bk n) = -1
      · have hu2 : I 119 (-1 - I 114 n + bk n) = -1 := by rw [hjj]; exact hu
        refine sg_R_we_u (k := ?_)
        exact sc_ret ct_M_weigh ⟨by rw [sN_u X hU hn hc hu]; rfl, rfl⟩
      · obtain ⟨e1, e2⟩ := sN_b X hU hn hc hu
        have h1 := hU.1 _ hj.1 hj.2
        have a1 : I 119 (-1 - I 114 n + bk n) = (((I 119 (-1 - cs[n] + bk n)).toNat : Nat) : Int) := by rw [hjj]; omega
        have a2 : I 120 (-1 - I 114 n + bk n) = bk (I 119 (-1 - cs[n] + bk n)).toNat := by rw [hjj]; exact hB _ hj.1 hj.2 hu
        have hr := hrn.2.2 hc hu
        refine sg_R_we_k (k := ?_)
        rw [a1, a2]
        refine sc_vI (as := [.inl _, .inl _]) (rest := []) (cc := 6) ct_M_weigh lk_M_weigh lm_M_150 (ih _ e2 (by omega)) rfl ?_
        exact sc_ret ct_M_weigh ⟨by rw [e1], rfl⟩
    · refine sg_R_we_g (k := ?_)
      have hmono : ∀ i, i ≤ ar cs[n] → (f_sub th ((pre ar cs n i).map (shv (bk n)))).length + 1 ≤ (f_sub th (tN ar cs bk n)).length := fun i hi => by
        obtain ⟨r, hr⟩ := pre_le ar hk hn hi (Nat.le_refl _)
        rw [sN_c X hn hc, hr, List.map_append, f_sub_app, List.length_cons, List.length_append]
        omega
      have loop : ∀ (m i : Nat) (w ka : Int), m = ar cs[n] - i → i ≤ ar cs[n] → ka = kc ar cs n (ar cs[n]) i → 0 ≤ w → w ≤ 2000 → min 1000 w = min 1000 (1 + ((f_sub th ((pre ar cs n i).map (shv (bk n)))).length : Int)) →
          sJ l G mM_weigh (sRm (d + (N + 1)) 0) (qI L x (min 1000 ((f_sub th (tN ar cs bk n)).length : Int)) I) 0 (6 * 0) 39 [some (.inr (.inl 84)), some (.inl (n : Int)), some (.inl (bk n)), some (.inl w), some (.inl ka)] [] (hSh L, hRF, I, x) := by
        intro m
        induction m with
        | zero =>
          intro i w ka hm hi hka h0 h2 hw
          have hi' : i = ar cs[n] := by omega
          subst hi'
          rw [kc_no] at hka
          refine sg_R_we_x (k := ?_)
          refine sc_min (rest := []) ct_M_weigh lm_M_min ?_
          refine sc_ret ct_M_weigh ⟨?_, rfl⟩
          rw [sN_c X hn hc, List.length_cons]
          congr 3
          split <;> omega
        | succ m ihm =>
          intro i w ka hm hi hka h0 h2 hw
          have hi' : i < ar cs[n] := by omega
          rw [kc_in hi'] at hka
          subst hka
          have hlt := ap_lt ar hk hn hi'
          by_cases hbig : 1000 ≤ w
          · refine sg_R_we_o (k := ?_)
            refine sc_min (rest := []) ct_M_weigh lm_M_min ?_
            refine sc_ret ct_M_weigh ⟨?_, rfl⟩
            have := hmono i hi
            congr 3
            split <;> omega
          · have hr := hrn.2.1 i hi'
            have hih := ih (ap ar cs n i) hlt.2 (by omega)
            rw [(X.2.2.2.2 n hn).2 i hi'] at hih
            refine sg_R_we_l (k := ?_)
            refine sc_vI (as := [.inl _, .inl _]) (rest := [.inl _]) (cc := 6) ct_M_weigh lk_M_weigh lm_M_150 hih rfl ?_
            refine sg_R_we_n (k := ?_)
            exact ihm (i + 1) _ _ (by omega) (by omega) (t4 i hi') (by omega) (by omega) (by
              rw [tN_s X hn hi', f_sub_app, List.length_append]
              omega)
      exact loop (ar cs[n]) 0 _ _ rfl (Nat.zero_le _) t3 (by omega) (by omega) (by rw [pre_0]; simp [f_sub])
theorem c_R_wi (X : uX ar pr cs bk) {vo : Int → Int} (hU : uI ar pr cs bk vo th ρ) : ∀ (N n : Nat) (I : sI), n < cs.length → ρ n < N → tr ar I 0 cs → I 119 = vo → uB I bk → (cs.length : Int) ≤ I 84 17 → I 84 17 + (f_sub th (tN ar cs bk n)).length ≤ 6000 →
    sCall l G mM_with (sRm (d + N) 0) [.inr (.inl 84), .inl (n : Int), .inl (bk n)] (hS L x I) (qE L x (mkP I ar (f_sub th (tN ar cs bk n)))) := by
  intro N
  induction N with
  | zero => intro n I _ h; omega
  | succ N ih =>
    intro n I hn hN ht hvo hB htop h6
    obtain ⟨k, hk⟩ := X.1
    have hv := X.2.1
    obtain ⟨t1, t2, t3, t4⟩ := tr_at ht hn
    have hbn := (X.2.2.2.2 n hn).1
    have hrn := hU.2.2.2.2 n hn
    have hcn := X.2.2.2.1 cs[n] (List.getElem_mem hn)
    have hnw : ∀ n, n < cs.length → f_wf ar 1 (f_sub th (tN ar cs bk n)) := fun n hn => f_sub_wf ar _ hv (fun c hc => (hU.2.2.2.1 c hc).1) _ _ (tN_wf X hn)
    have hpos : 0 < (f_sub th (tN ar cs bk n)).length := List.length_pos_iff.mpr (f_wf_ne ar (hnw n hn))
    refine sCall_of (by decide) (Nat.le_of_ble_eq_true rfl) (sV1s_c trivial (sV1s_c (sV1_i (by omega) (by omega)) (sV1s_c (sV1_i (by omega) (by omega)) sV1s_n))) rfl ?_
    show sJ l G mM_with (sRm (d + (N + 1)) 0) _ 0 (6 * 0) 0 [some (.inr (.inl 84)), some (.inl (n : Int)), some (.inl (bk n)), none, none, none, none] [] (hSh L, hRF, I, x)
    by_cases hc : cs[n] < 0
    · have hj := jv_b X hn hc
      have hjj : -1 - I 114 n + bk n = -1 - cs[n] + bk n := by rw [t1]
      by_cases hu : vo (-1 - cs[n] + bk n) = -1
      · have hu2 : I 119 (-1 - I 114 n + bk n) = -1 := by rw [hjj, hvo]; exact hu
        have es := sN_u X hU hn hc hu
        rw [es] at h6 ⊢
        rw [List.length_singleton] at h6
        refine sg_R_wi_u (k := ?_)
        rw [hjj]
        refine sc_vI (as := [.inl _]) (rest := []) (cc := 6) ct_M_with lk_M_fresh lm_M_111 (c_R_fr (d := 0) (by unfold sR; omega) (by omega) (by omega)) rfl ?_
        rw [show -1 - (-1 - cs[n] + bk n) = cs[n] - bk n by omega]
        refine sg_R_wi_ur (k := ?_)
        have P2 := frI_pt ar I (cs[n] - bk n)
        have h0c : ar (cs[n] - bk n) = 0 := hv _ (by omega)
        have hP : pt ar (frI I (cs[n] - bk n)) (I 84 17) (cs[n] - bk n) (ar (cs[n] - bk n)) [] (-1) := by rw [h0c]; exact P2
        obtain ⟨D1, D2, D3⟩ := pt_done hP
        exact sc_ret ct_M_with ⟨_, _, rfl, rfl, rfl, frI_F I _, by rw [frI_top]; rfl, D1, D3⟩
      · obtain ⟨e1, e2⟩ := sN_b X hU hn hc hu
        have h1 := hU.1 _ hj.1 hj.2
        have a1 : I 119 (-1 - I 114 n + bk n) = (((vo (-1 - cs[n] + bk n)).toNat : Nat) : Int) := by rw [hjj, hvo]; omega
        have a2 : I 120 (-1 - I 114 n + bk n) = bk (vo (-1 - cs[n] + bk n)).toNat := by
          have := hB _ hj.1 hj.2 (by rw [hvo]; exact hu)
          rw [hjj, this, hvo]
        have hr := hrn.2.2 hc hu
        rw [e1] at h6 ⊢
        refine sg_R_wi_k (k := ?_)
        rw [a1, a2]
        refine sc_vE (as := [.inl _, .inl _]) (rest := []) (cc := 6) ct_M_with lk_M_with lm_M_159 (ih _ I e2 (by omega) ht hvo hB htop h6) rfl (fun r I3 hr3 => ?_)
        exact sc_ret ct_M_with ⟨_, _, rfl, rfl, hr3⟩
    · have es := sN_c (th := th) X hn hc
      have hmono : ∀ i, i ≤ ar cs[n] → (f_sub th ((pre ar cs n i).map (shv (bk n)))).length + 1 ≤ (f_sub th (tN ar cs bk n)).length := fun i hi => by
        obtain ⟨r, hr⟩ := pre_le ar hk hn hi (Nat.le_refl _)
        rw [es, hr, List.map_append, f_sub_app, List.length_cons, List.length_append]
        omega
      refine sg_R_wi_0 (k := ?_)
      refine sc_vI (as := [.inl _]) (rest := []) (cc := 6) ct_M_with lk_M_fresh lm_M_111 (c_R_fr (d := 0) (by unfold sR; omega) (by omega) (by omega)) rfl ?_
      rw [t1]
      have F2 : bF I (frI I cs[n]) := frI_F I cs[n]
      have T2 := frI_top I cs[n]
      have P2 := frI_pt ar I cs[n]
      refine sg_R_wi_1 (k := ?_)
      have loop : ∀ (m i : Nat) (I2 : sI) (la ka : Int) (oA : Option sV), m = ar cs[n] - i → i ≤ ar cs[n] → ka = kc ar cs n (ar cs[n]) i → bF I I2 → pt ar I2 (I 84 17) cs[n] i (f_sub th ((pre ar cs n i).map (shv (bk n)))) la → I2 84 17 = I 84 17 + 1 + (f_sub th ((pre ar cs n i).map (shv (bk n)))).length →
          sJ l G mM_with (sRm (d + (N + 1)) 0) (qE L x (mkP I ar (f_sub th (tN ar cs bk n)))) 0 (6 * 0) 50 [some (.inr (.inl 84)), some (.inl (n : Int)), some (.inl (bk n)), some (.inl (I 84 17)), some (.inl la), some (.inl ka), oA] [] (hSh L, hRF, I2, x) := by
        intro m
        induction m with
        | zero =>
          intro i I2 la ka oA hm hi hka F P T
          have hi' : i = ar cs[n] := by omega
          subst hi'
          rw [kc_no] at hka
          refine sg_R_wi_x (k := ?_)
          obtain ⟨D1, D2, D3⟩ := pt_done P
          rw [es]
          exact sc_ret ct_M_with ⟨_, _, rfl, rfl, rfl, F, by rw [T, List.length_cons]; omega, D1, D3⟩
        | succ m ihm =>
          intro i I2 la ka oA hm hi hka F P T
          have hi' : i < ar cs[n] := by omega
          rw [kc_in hi'] at hka
          subst hka
          have hlt := ap_lt ar hk hn hi'
          have hr := hrn.2.1 i hi'
          have hl1 := hmono (i + 1) (by omega)
          rw [tN_s X hn hi', f_sub_app, List.length_append] at hl1
          have hih := ih (ap ar cs n i) I2 hlt.2 (by omega) (bF_tr F hk ht htop) (by rw [F.1 119 (by omega) (by omega)]; exact hvo) (fun v g1 g2 g3 => by
            rw [F.1 119 (by omega) (by omega)] at g3 ⊢
            rw [F.1 120 (by omega) (by omega)]
            exact hB v g1 g2 g3) (by omega) (by omega)
          rw [(X.2.2.2.2 n hn).2 i hi'] at hih
          refine sg_R_wi_l (k := ?_)
          refine sc_vE (as := [.inl _, .inl _]) (rest := []) (cc := 6) ct_M_with lk_M_with lm_M_159 hih rfl (fun r I3 hr3 => ?_)
          obtain ⟨rfl, F3, T3, X3, R3⟩ := hr3
          have hw3 := hnw _ hlt.2
          obtain ⟨S1, S2, S3⟩ := mk_step rfl (by omega) F P T F3 X3 hw3 R3 T3
          refine sg_R_wi_w (k := ?_)
          have hla := pt_la (by omega) P
          have hwt : I3 117 (I 84 17) = 1 + (f_sub th ((pre ar cs n i).map (shv (bk n)))).length := by rw [F3.2.2 117 _ (by omega) (by omega) (by omega)]; exact P.2.1
          have hwx := tr_root X3 hw3
          have hne := List.length_pos_iff.mpr (f_wf_ne ar hw3)
          refine sc_vV (as := [.inl _, .inl _, .inl _]) (rest := []) (cc := 6) ct_M_with lk_M_under lm_M_115 (c_R_un (d := 0) (by omega) (by omega) (by omega) (by omega) (by omega) (by omega) (by omega) (by omega)) rfl ?_
          have e116 : un I3 (I 84 17) la (I2 84 17) 116 (ap ar cs n i : Int) = kc ar cs n (ar cs[n]) (i + 1) := by
            rw [S1.2.2 116 _ (by omega) (by omega) (by omega)]
            exact t4 i hi'
          refine sg_R_wi_n (k := ?_)
          rw [← f_sub_app, ← tN_s X hn hi'] at S2 S3
          exact ihm (i + 1) _ _ _ _ (by omega) (by omega) e116 S1 S2 S3
      have e115 : frI I cs[n] 115 (n : Int) = kc ar cs n (ar cs[n]) 0 := by rw [F2.2.2 115 _ (by omega) (by omega) (by omega)]; exact t3
      exact loop (ar cs[n]) 0 _ _ _ _ rfl (Nat.zero_le _) e115 F2 (by rw [pre_0]; exact P2) (by rw [T2, pre_0]; simp [f_sub])
end CR9
