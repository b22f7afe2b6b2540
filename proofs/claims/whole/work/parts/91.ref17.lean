/-! the reference: rewrite -/
section CR17
variable {l : Launch} {G : sG} {L x d : Nat} {I : sI} {ar : Int → Nat} {pr : Int → Bool} {ns : Int} {rw : List Int} {lk nr mo : Int} {sl lv : Int → List Int}
theorem rS_cnt {I1 : sI} (h : rS I1 ar pr ns rw lk nr mo sl lv) {z : Int} : rS (sU I1 84 4 z) ar pr ns rw lk z mo sl lv := by
  obtain ⟨y1, y2, y3, y4, y5, y6, y7, y8, y9⟩ := h
  refine ⟨by rw [hU_nj (by omega)]; exact y1, ⟨y2.1, fun e g1 g2 => by rw [sU_ne (by omega)]; exact y2.2 e g1 g2⟩, ⟨y3.1, fun e g1 g2 => by rw [sU_ne (by omega)]; exact y3.2 e g1 g2⟩, ?_, by rw [hU_nj (by omega)]; exact y5, hU_eq _ _ _ _, by rw [hU_nj (by omega)]; exact y7, fun q hq => ?_, fun v g1 g2 => ?_⟩
  · unfold rL
    rw [hU_nj (by omega), sU_ne (by omega)]
    exact y4
  · have hqb := hq
    unfold okS at hqb
    unfold rL
    rw [sU_ne (by omega), sU_ne (by omega)]
    exact y8 q hq
  · unfold rL
    rw [sU_ne (by omega), sU_ne (by omega)]
    exact y9 v g1 g2
theorem c_R_tb (hR : rS I ar pr ns rw lk nr mo sl lv) (hW : wS ar sl) {a : Int} (ha : okS a) {cs : List Int} (hI : fI ar I cs) (h6 : cs.length + (sl a).length ≤ 6000) :
    sCall l G mM_tree (sRm (d + 101) 0) [.inr (.inl 84), .inr (.inl (89 + a.toNat))] (hS L x I) (qE L x (fun r I' => r = cs.length ∧ bF I I' ∧ fI ar I' (cs ++ sl a))) := by
  obtain ⟨w1, w2, w3⟩ := hW a ha
  have hb := ha
  unfold okS at hb
  have y8 := hR.2.2.2.2.2.2.2.1 a ha
  refine sCall_mono (c_R_tr w1 (fun c hc => ⟨by have := w3 c hc; omega, (w3 c hc).2⟩) (f := 89 + a.toNat) ⟨hC_k L hb.1 hb.2, by omega, w2, y8.2⟩ hR.2.1 (by rw [hI.2.2.2.2.2]; omega) (by rw [hI.2.2.2.2.2]; omega)) ?_
  rintro r S ⟨v, I', rfl, rfl, hm⟩
  exact ⟨v, I', rfl, rfl, by rw [hm.1]; exact hI.2.2.2.2.2, hm.2.1, fI_mk hI hm w1 w3 w2 h6⟩
theorem c_R_rw (hR : rS I ar pr ns rw lk nr mo sl lv) (hW : wS ar sl) (hnr : 0 ≤ nr ∧ nr ≤ 1000000) {z a b w : Int} (hz : sR z) (ha : sR a) (hb : sR b) (hw : sR w) :
    sCall l G mM_rewrite (sRm (d + 304) 0) [.inr (.inl 84), .inl z, .inl a, .inl b, .inl w] (hS L x I) (qE L x (fun r I' => fR I I' ∧ ((I' 84 0 = 1 ∧ ¬ (okS z ∧ okS a ∧ okS b ∧ okS w) ∧ rS I' ar pr ns rw lk nr mo sl lv) ∨ (I' 84 0 = 0 ∧ (okS z ∧ okS a ∧ okS b ∧ okS w) ∧ ∃ n o, rwR ar pr (sl b) (sl w) 60 (sl a) n o ∧ r = (n : Nat) ∧ rS I' ar pr ns rw lk (nr + n) mo (slU sl z o) lv)))) := by
  refine sCall_of (by decide) (Nat.le_of_ble_eq_true rfl) (sV1s_c trivial (sV1s_c hz (sV1s_c ha (sV1s_c hb (sV1s_c hw sV1s_n))))) rfl ?_
  generalize hQ : (qE L x (fun r I' => fR I I' ∧ ((I' 84 0 = 1 ∧ ¬ (okS z ∧ okS a ∧ okS b ∧ okS w) ∧ rS I' ar pr ns rw lk nr mo sl lv) ∨ (I' 84 0 = 0 ∧ (okS z ∧ okS a ∧ okS b ∧ okS w) ∧ ∃ n o, rwR ar pr (sl b) (sl w) 60 (sl a) n o ∧ r = (n : Nat) ∧ rS I' ar pr ns rw lk (nr + n) mo (slU sl z o) lv)))) = Q
  show sJ l G mM_rewrite (sRm (d + 304) 0) Q 0 (6 * 0) 0 [some (.inr (.inl 84)), some (.inl z), some (.inl a), some (.inl b), some (.inl w), none, none, none, none, none, none] [] (hSh L, hRF, I, x)
  refine sg_R_rw_0 (k := ?_)
  refine sc_vE (as := [.inl _, .inl _, .inl _, .inl _]) (rest := []) (cc := 6) ct_M_rewrite lk_M_noSlots lm_M_190 (c_R_nn (d := d) hz ha hb hw) rfl (fun r I1 hr => ?_)
  obtain ⟨rfl, ⟨rfl, hokz, hoka, hokb, hokw⟩ | ⟨rfl, hok⟩⟩ := hr
  · have bz := hokz
    have ba := hoka
    have bb := hokb
    have bw := hokw
    unfold okS at bz ba bb bw
    obtain ⟨wa1, wa2, wa3⟩ := hW a hoka
    obtain ⟨wb1, wb2, wb3⟩ := hW b hokb
    obtain ⟨ww1, ww2, ww3⟩ := hW w hokw
    have lb : 0 < (sl b).length := List.length_pos_iff.mpr (f_wf_ne ar wb1)
    have lw : 0 < (sl w).length := List.length_pos_iff.mpr (f_wf_ne ar ww1)
    have hv := hR.2.1.1
    refine sg_R_rw_1 (k := ?_)
    generalize hI1 : sU I 84 0 0 = I1
    have S1 : scF I I1 := by rw [← hI1]; exact scF_0 I 0
    have z1 : I1 84 0 = 0 := by rw [← hI1, hU_eq]
    have R1 := rS_upd hR S1
    have y8 := R1.2.2.2.2.2.2.2.1 a hoka
    have e5 : I1 105 a = (sl a).length := y8.1
    have hka := hC_k L ba.1 ba.2
    -- the end: the row into its slot
    have done : ∀ (n : Nat) (o : List Int) (mm : Int) (I4 : sI) (oB oC : Option sV), scT I1 I4 → n ≤ 60 → o.length ≤ 100 → rwR ar pr (sl b) (sl w) 60 (sl a) n o → (∀ k : Nat, (h : k < o.length) → I4 123 k = o[k]) →
        sJ l G mM_rewrite (sRm (d + 304) 0) Q (0 + 0) (6 * (0 + 0)) 85 [some (.inr (.inl 84)), some (.inl z), some (.inl a), some (.inl b), some (.inl w), some (.inl (o.length : Int)), some (.inl (n : Int)), some (.inl mm), some (.inl 0), oB, oC] [] (hSh L, hRF, I4, x) := by
      intro n o mm I4 oB oC S4 hn ho hrw h123
      have SI4 : scF I I4 := scF_trans S1 (scT_F S4)
      have z4 : I4 84 0 = 0 := by rw [S4.2 0 (by omega) (by omega)]; exact z1
      have R4 := rS_upd hR SI4
      have e4 : I4 84 4 = nr := R4.2.2.2.2.2.1
      have hkz := hC_k L bz.1 bz.2
      have loop : ∀ (m j : Nat), m = o.length - j → j ≤ o.length → sJ l G mM_rewrite (sRm (d + 304) 0) Q (0 + 0) (6 * (0 + 0)) 85 [some (.inr (.inl 84)), some (.inl z), some (.inl a), some (.inl b), some (.inl w), some (.inl (o.length : Int)), some (.inl (n : Int)), some (.inl mm), some (.inl (j : Int)), oB, oC] [] (hSh L, hRF, sCp I4 (89 + z.toNat) 123 j, x) := by
        intro m
        induction m with
        | zero =>
          intro j hm hj
          have hj' : j = o.length := by omega
          subst hj'
          have hsz : sArr (hSh L) 0 105 z := hAr rfl bz.1 bz.2
          have c4 : sU (sCp I4 (89 + z.toNat) 123 o.length) 105 z o.length 84 4 = nr := by rw [sU_ne (by omega), sCp_ne (by omega)]; exact e4
          refine sg_R_rw_x (k := ?_)
          rw [← hQ]
          have R5 : rS (sU (sCp I4 (89 + z.toNat) 123 o.length) 105 z o.length) ar pr ns rw lk nr mo (slU sl z o) lv := rS_slot R4 hokz (fun w g1 g2 g3 _ => by rw [sU_ne g2, sCp_ne g3]) (fun j _ _ => by rw [sU_ne (by omega), sCp_ne (by omega)]) (fun j g => by rw [hU_nj g, sCp_ne (by omega)]) ⟨by rw [hU_eq], fun k hk => by rw [sU_ne (by omega), sCp_in _ (by omega) (by omega)]; exact h123 k hk⟩
          exact sc_ret ct_M_rewrite ⟨_, _, rfl, rfl, fun w g => by rw [sU_ne (by omega), sU_ne (by omega), sCp_ne (by omega)]; exact scF_R SI4 w g, Or.inr ⟨by rw [hU_nj (by omega), sU_ne (by omega), sCp_ne (by omega)]; exact z4, ⟨hokz, hoka, hokb, hokw⟩, n, o, hrw, rfl, rS_cnt R5⟩⟩
        | succ m ihm =>
          intro j hm hj
          have hsa : sArr (hSh L) 0 (89 + z.toNat) (j : Int) := hAr hkz (by omega) (by omega)
          refine sg_R_rw_d (k := ?_)
          rw [show sCp I4 (89 + z.toNat) 123 j 123 j = I4 123 j by rw [sCp_ne (by omega)], sCp_s I4 (by omega)]
          exact ihm (j + 1) (by omega) (by omega)
      have := loop o.length 0 rfl (Nat.zero_le _)
      rw [show ((0 : Nat) : Int) = 0 from rfl, sCp_0] at this
      exact this
    -- one rewriting after the other
    have steps : ∀ (f n : Nat) (ss : List Int) (I4 : sI) (oA oB oC : Option sV), f + n = 60 → scT I1 I4 → f_wf ar 1 ss → ss.length ≤ 100 → (∀ c ∈ ss, -6 ≤ c ∧ c < 40) → (∀ m o, rwR ar pr (sl b) (sl w) f ss m o → rwR ar pr (sl b) (sl w) 60 (sl a) (n + m) o) → (∀ k : Nat, (h : k < ss.length) → I4 123 k = ss[k]) →
        sJ l G mM_rewrite (sRm (d + 304) 0) Q (0 + 0) (6 * (0 + 0)) 38 [some (.inr (.inl 84)), some (.inl z), some (.inl a), some (.inl b), some (.inl w), some (.inl (ss.length : Int)), some (.inl (n : Int)), some (.inl 1), oA, oB, oC] [] (hSh L, hRF, I4, x) := by
      intro f
      induction f with
      | zero =>
        intro n ss I4 oA oB oC hf S4 hs1 hs2 hs3 hrw h123
        refine sg_R_rw_f (k := ?_)
        exact done n ss 1 I4 oB oC S4 (by omega) hs2 (hrw 0 ss ⟨rfl, rfl⟩) h123
      | succ f ihf =>
        intro n ss I4 oA oB oC hf S4 hs1 hs2 hs3 hrw h123
        have ls : 0 < ss.length := List.length_pos_iff.mpr (f_wf_ne ar hs1)
        refine sg_R_rw_3 (k := ?_)
        generalize hI5 : sU I4 84 17 0 = I5
        have S5 : scT I1 I5 := by rw [← hI5]; exact scT_trans S4 (scT_u _ 0 (by omega))
        have T5 : fI ar I5 [] := fI_nil (by rw [← hI5, hU_eq])
        have w5 : I5 123 = I4 123 := by rw [← hI5, sU_ne (by omega)]
        refine sc_vE (as := [.inr (.inl _)]) (rest := []) (cc := 6) ct_M_rewrite lk_M_tree lm_M_193 (c_R_tb (d := d) (rS_upd hR (scF_trans S1 (scT_F S5))) hW hokb T5 (by simp; omega)) rfl (fun r I6 hr => ?_)
        obtain ⟨hr0, F6, T6⟩ := hr
        have hr1 : r = 0 := by rw [hr0]; rfl
        subst hr1
        rw [List.nil_append] at T6
        have S6 : scT I1 I6 := scT_trans S5 (scT_b F6)
        refine sg_R_rw_4 (k := ?_)
        refine sc_vE (as := [.inr (.inl _)]) (rest := []) (cc := 6) ct_M_rewrite lk_M_tree lm_M_193 (c_R_tb (d := d) (rS_upd hR (scF_trans S1 (scT_F S6))) hW hokw T6 (by omega)) rfl (fun r I7 hr => ?_)
        obtain ⟨rfl, F7, T7⟩ := hr
        have S7 : scT I1 I7 := scT_trans S6 (scT_b F7)
        have w7 : I7 123 = I4 123 := by rw [F7.1 123 (by omega) (by omega), F6.1 123 (by omega) (by omega), w5]
        have hA : (sl b ++ sl w).length = (sl b).length + (sl w).length := List.length_append
        have R7 := rS_upd hR (scF_trans S1 (scT_F S7))
        refine sg_R_rw_5 (k := ?_)
        refine sc_vE (as := [.inr (.inl _)]) (rest := []) (cc := 6) ct_M_rewrite lk_M_tree lm_M_193 (c_R_tr (d := d) hs1 (fun c hc => ⟨by have := hs3 c hc; omega, (hs3 c hc).2⟩) (f := 123) ⟨rfl, by omega, hs2, by rw [w7]; exact h123⟩ R7.2.1 (by rw [T7.2.2.2.2.2]; omega) (by rw [T7.2.2.2.2.2]; omega)) rfl (fun r I8 hr => ?_)
        have T8 := fI_mk T7 hr hs1 hs3 hs2 (by omega)
        obtain ⟨rfl, F8, -, -, -⟩ := hr
        rw [T7.2.2.2.2.2]
        have S8 : scT I1 I8 := scT_trans S7 (scT_b F8)
        have w8 : I8 123 = I4 123 := by rw [F8.1 123 (by omega) (by omega), w7]
        have R8 := rS_upd hR (scF_trans S1 (scT_F S8))
        have hW0 : f_tk ar 1 (ss.drop 0) = ss.length := by rw [List.drop_zero, f_wf_len ar _ _ hs1]
        have ht100 : tri ss.length ≤ 5050 := by rw [← tri_100]; exact tri_mono hs2
        have hcall := c_R_fo (l := l) (G := G) (L := L) (x := x) (d := d) (pr := pr) hv wb1 ww1 hs1 100 0 I8 [] ls (by omega) (by rw [List.append_nil]; exact T8) (by rw [List.append_nil, hW0, List.length_append, hA]; omega) R8.2.2.1
        rw [Nat.add_zero, hW0] at hcall
        refine sg_R_rw_6 (k := ?_)
        refine sc_vE (as := [.inl _, .inl _, .inl _]) (rest := []) (cc := 6) ct_M_rewrite lk_M_found lm_M_187 hcall rfl (fun r I9 hr => ?_)
        obtain ⟨F9, Y, T9, hY, hr⟩ := hr
        have S9 : scT I1 I9 := scT_trans S8 (scT_f F9)
        have w9 : I9 123 = I4 123 := by rw [F9.1 123 (by omega) (by omega) (by omega), w8]
        rw [List.length_nil, Nat.zero_add] at hY
        rcases hr with ⟨rfl, hno⟩ | ⟨rfl, q, bv, q1, q2, q3, q4, q5, s, q6, q7, q8⟩
        · refine sg_R_rw_n (k := ?_)
          refine sg_R_rw_e (k := ?_)
          exact done n ss 0 I9 _ _ S9 (by omega) hs2 (hrw 0 ss (Or.inl ⟨rfl, rfl, fun p bb hp => hno p bb (Nat.zero_le _) (by omega)⟩)) (by rw [w9]; exact h123)
        · refine sg_R_rw_y (k := ?_)
          obtain ⟨o1, o2, o3, o4⟩ := apX_ok hv ww1 hs1 (by omega) q4 (apX_bb q4)
          generalize hX : f_sub (vl ar ss bv) (sl w) = X at *
          obtain ⟨⟨k9, hk9⟩, u1, u2, u3, u4, u5⟩ := id T9
          obtain ⟨j1, j2, j3, j4, j5⟩ := em_at ar (A := sl b ++ sl w) (C := Y) hs1 (p := 0) ls
          rw [Nat.add_zero] at j1 j3 j4
          rw [f_s_0 ar hs1] at j4
          rw [hW0] at j3
          have hlen9 : (sl b ++ sl w ++ (ss ++ Y)).length = (sl b).length + (sl w).length + (ss.length + Y.length) := by rw [List.length_append, List.length_append (as := ss), hA]
          have hrep : rep ar (sl b ++ sl w ++ (ss ++ Y)) ((sl b ++ sl w).length + q) (f_s ar (sl b ++ sl w ++ (ss ++ Y)) s) (sl b ++ sl w).length ((sl b ++ sl w).length + f_tk ar 1 ((sl b ++ sl w ++ (ss ++ Y)).drop (sl b ++ sl w).length)) = spl ar ss q X := by
            rw [rep_spl ar _ hk9 j1 (by omega) (by rw [j3]; omega), j4, q8, show (sl b ++ sl w).length + q - (sl b ++ sl w).length = q by omega]
          have hcall2 := c_R_rd (l := l) (G := G) (L := L) (x := x) (d := d) (q := (sl b ++ sl w).length + q) (s := s) hk9 (fun c hc => ⟨by have := u2 c hc; omega, (u2 c hc).2⟩) u3 q6 100 (sl b ++ sl w).length I9 j1 (u3 _ j1) u4 (by omega) (by rw [hrep, u5]; omega) q5 q7
          rw [hrep] at hcall2
          refine sc_vE (as := [.inl _]) (rest := [.inr (.inl _)]) (cc := 6) ct_M_rewrite lk_M_replaced lm_M_178 hcall2 rfl (fun r I10 hr10 => ?_)
          have hRr : ∀ c ∈ spl ar ss q X, -6 ≤ c ∧ c < 40 := fun c hc => by
            rcases o4 c hc with h | h
            · exact hs3 c h
            · exact ww3 c h
          have T10 := fI_mk T9 hr10 o2 hRr (by omega) (by omega)
          obtain ⟨rfl, F10, -, -, -⟩ := hr10
          rw [u5]
          obtain ⟨⟨k10, hk10⟩, v1, v2, v3, v4, v5⟩ := id T10
          obtain ⟨fl, fll⟩ := fs_last (cs := sl b ++ sl w ++ (ss ++ Y)) o2
          refine sg_R_rw_7 (k := ?_)
          refine sc_vI (as := [.inl _, .inr (.inl _)]) (rest := []) (cc := 6) ct_M_rewrite lk_M_written lm_M_196 (c_R_wn (d := d) (f := 123) hk10 v1 (fun c hc => ⟨by have := v2 c hc; omega, (v2 c hc).2⟩) rfl (by omega) fll v4 (v3 _ fll)) rfl ?_
          rw [fl]
          refine sg_R_rw_8 (k := ?_)
          have S10 : scT I1 I10 := scT_trans S9 (scT_b F10)
          refine ihf (n + 1) (spl ar ss q X) _ _ _ _ (by omega) (scT_trans S10 ⟨fun w g1 g2 => wrt_o _ _ _ _ (by omega) g2, fun j g1 g2 => wrt_84 _ _ _ (by omega) (by omega)⟩) o2 (by omega) hRr (fun m o h => ?_) (fun k hk => wrt_f I10 _ hk)
          rw [show n + 1 + m = n + (m + 1) by omega]
          exact hrw (m + 1) o (Or.inr ⟨q, bv, m, by omega, fun q' b2 h' => q3 q' b2 (Nat.zero_le _) h', q4, rfl, by rw [hX]; exact h⟩)
    have cp : ∀ (m j : Nat), m = (sl a).length - j → j ≤ (sl a).length → sJ l G mM_rewrite (sRm (d + 304) 0) Q (0 + 0) (6 * (0 + 0)) 11 [some (.inr (.inl 84)), some (.inl z), some (.inl a), some (.inl b), some (.inl w), some (.inl (j : Int)), none, none, none, none, none] [] (hSh L, hRF, sCp I1 123 (89 + a.toNat) j, x) := by
      intro m
      induction m with
      | zero =>
        intro j hm hj
        have hj' : j = (sl a).length := by omega
        subst hj'
        have c2 : sCp I1 123 (89 + a.toNat) (sl a).length 105 a = (sl a).length := by rw [sCp_ne (by omega)]; exact e5
        refine sg_R_rw_2 (k := ?_)
        rw [c2]
        exact steps 60 0 (sl a) _ _ _ _ rfl ⟨fun w g1 g2 => by rw [sCp_ne (by omega)], fun j _ _ => by rw [sCp_ne (by omega)]⟩ wa1 wa2 wa3 (fun m o h => by rw [Nat.zero_add]; exact h) (fun k hk => by rw [sCp_in _ (by omega) (by omega)]; exact y8.2 k hk)
      | succ m ihm =>
        intro j hm hj
        have c2 : sCp I1 123 (89 + a.toNat) j 105 a = (sl a).length := by rw [sCp_ne (by omega)]; exact e5
        have hsa : sArr (hSh L) 0 (89 + a.toNat) (j : Int) := hAr hka (by omega) (by omega)
        refine sg_R_rw_c (k := ?_)
        rw [show sCp I1 123 (89 + a.toNat) j (89 + a.toNat) j = I1 (89 + a.toNat) j by rw [sCp_ne (by omega)], sCp_s I1 (by omega)]
        exact ihm (j + 1) (by omega) (by omega)
    have := cp (sl a).length 0 rfl (Nat.zero_le _)
    rw [show ((0 : Nat) : Int) = 0 from rfl, sCp_0] at this
    exact this
  · refine sg_R_rw_r (k := ?_)
    rw [← hQ]
    exact sc_ret ct_M_rewrite ⟨_, _, rfl, rfl, scF_R (scF_0 I 1), Or.inl ⟨hU_eq _ _ _ _, hok, rS_upd hR (scF_0 I 1)⟩⟩
end CR17
