/-! the reference: replace -/
theorem spl_mem {ar : Int → Nat} {cs ds : List Int} {p : Nat} {c : Int} (h : c ∈ spl ar cs p ds) : c ∈ cs ∨ c ∈ ds := by
  unfold spl at h
  rcases List.mem_append.mp h with h | h
  · exact Or.inl (List.mem_of_mem_take h)
  · rcases List.mem_append.mp h with h | h
    · exact Or.inr h
    · exact Or.inl (List.mem_of_mem_drop h)
/-- a tree behind the others -/
theorem fs_last {ar : Int → Nat} {cs X : List Int} (hX : f_wf ar 1 X) : f_s ar (cs ++ X) cs.length = X ∧ cs.length < (cs ++ X).length := by
  have lb : 0 < X.length := List.length_pos_iff.mpr (f_wf_ne ar hX)
  obtain ⟨-, -, -, h, -⟩ := em_at ar (A := cs) (C := []) hX lb
  rw [f_s_0 ar hX, List.append_nil] at h
  exact ⟨h, by rw [List.length_append]; omega⟩
section CR15
variable {l : Launch} {G : sG} {L x d : Nat} {I : sI} {ar : Int → Nat} {pr : Int → Bool} {ns : Int} {rw : List Int} {lk nr mo : Int} {sl lv : Int → List Int}
theorem c_R_rp (hR : rS I ar pr ns rw lk nr mo sl lv) (hW : wS ar sl) {z a p b : Int} (hz : sR z) (ha : sR a) (hp : sR p) (hb : sR b) :
    sCall l G mM_replace (sRm (d + 202) 0) [.inr (.inl 84), .inl z, .inl a, .inl p, .inl b] (hS L x I) (qE L x (fun r I' => fR I I' ∧ ((I' 84 0 = 1 ∧ ¬ (okS z ∧ okS a ∧ okS b ∧ 0 ≤ p ∧ p < (sl a).length) ∧ rS I' ar pr ns rw lk nr mo sl lv) ∨ (I' 84 0 = 2 ∧ (okS z ∧ okS a ∧ okS b ∧ 0 ≤ p ∧ p < (sl a).length) ∧ 100 < (spl ar (sl a) p.toNat (sl b)).length ∧ rS I' ar pr ns rw lk nr mo sl lv) ∨ (I' 84 0 = 0 ∧ (okS z ∧ okS a ∧ okS b ∧ 0 ≤ p ∧ p < (sl a).length) ∧ (spl ar (sl a) p.toNat (sl b)).length ≤ 100 ∧ r = (spl ar (sl a) p.toNat (sl b)).length ∧ rS I' ar pr ns rw lk nr mo (slU sl z (spl ar (sl a) p.toNat (sl b))) lv)))) := by
  refine sCall_of (by decide) (Nat.le_of_ble_eq_true rfl) (sV1s_c trivial (sV1s_c hz (sV1s_c ha (sV1s_c hp (sV1s_c hb sV1s_n))))) rfl ?_
  generalize hQ : (qE L x (fun r I' => fR I I' ∧ ((I' 84 0 = 1 ∧ ¬ (okS z ∧ okS a ∧ okS b ∧ 0 ≤ p ∧ p < (sl a).length) ∧ rS I' ar pr ns rw lk nr mo sl lv) ∨ (I' 84 0 = 2 ∧ (okS z ∧ okS a ∧ okS b ∧ 0 ≤ p ∧ p < (sl a).length) ∧ 100 < (spl ar (sl a) p.toNat (sl b)).length ∧ rS I' ar pr ns rw lk nr mo sl lv) ∨ (I' 84 0 = 0 ∧ (okS z ∧ okS a ∧ okS b ∧ 0 ≤ p ∧ p < (sl a).length) ∧ (spl ar (sl a) p.toNat (sl b)).length ≤ 100 ∧ r = (spl ar (sl a) p.toNat (sl b)).length ∧ rS I' ar pr ns rw lk nr mo (slU sl z (spl ar (sl a) p.toNat (sl b))) lv)))) = Q
  show sJ l G mM_replace (sRm (d + 202) 0) Q 0 (6 * 0) 0 [some (.inr (.inl 84)), some (.inl z), some (.inl a), some (.inl p), some (.inl b), none] [] (hSh L, hRF, I, x)
  refine sg_R_rp_0 (k := ?_)
  refine sc_vE (as := [.inl _, .inl _, .inl _, .inl _]) (rest := []) (cc := 6) ct_M_replace lk_M_noSlots lm_M_190 (c_R_nn (d := d) hz ha hb hb) rfl (fun r I1 hr => ?_)
  obtain ⟨rfl, ⟨rfl, hokz, hoka, hokb, -⟩ | ⟨rfl, hok⟩⟩ := hr
  · have bz := hokz
    have ba := hoka
    have bb := hokb
    unfold okS at bz ba bb
    obtain ⟨wa1, wa2, wa3⟩ := hW a hoka
    obtain ⟨wb1, wb2, wb3⟩ := hW b hokb
    have la : 0 < (sl a).length := List.length_pos_iff.mpr (f_wf_ne ar wa1)
    have lb : 0 < (sl b).length := List.length_pos_iff.mpr (f_wf_ne ar wb1)
    have hv := hR.2.1.1
    have y8 := (rS_upd hR (scF_0 I 0)).2.2.2.2.2.2.2.1 a hoka
    have e5 : sU I 84 0 0 105 a = (sl a).length := y8.1
    have bad : ¬ (0 ≤ p ∧ p < (sl a).length) → sJ l G mM_replace (sRm (d + 202) 0) Q (0 + 0) (6 * (0 + 0)) 20 [some (.inr (.inl 84)), some (.inl z), some (.inl a), some (.inl p), some (.inl b), none] [.inl 1, .inl 1, .inr (.inl 84)] (hSh L, hRF, sU I 84 0 0, x) := by
      intro hno
      refine sc_vI (as := [.inl _, .inl _]) (rest := []) (cc := 6) ct_M_replace lk_M_refuse lm_M_99 (c_R_re (d := d) (by unfold sR; omega) (Or.inr rfl)) rfl ?_
      rw [if_neg (by omega), sU_sU]
      refine sg_R_rp_t (k := ?_)
      rw [← hQ]
      exact sc_ret ct_M_replace ⟨_, _, rfl, rfl, scF_R (scF_0 I 1), Or.inl ⟨hU_eq _ _ _ _, fun h => hno h.2.2.2, rS_upd hR (scF_0 I 1)⟩⟩
    by_cases h0 : p < 0
    · refine sg_R_rp_a (k := ?_)
      exact bad (by omega)
    · by_cases h1 : p < (sl a).length
      · refine sg_R_rp_o (k := ?_)
        refine sc_vI (as := [.inl _, .inl _]) (rest := []) (cc := 6) ct_M_replace lk_M_refuse lm_M_99 (c_R_re (d := d) (by unfold sR; omega) (Or.inl rfl)) rfl ?_
        rw [if_pos rfl]
        refine sg_R_rp_g (k := ?_)
        generalize hI1 : sU (sU I 84 0 0) 84 17 0 = I1
        have S1 : scF I I1 := by rw [← hI1]; exact scF_trans (scF_0 I 0) (scT_F (scT_u _ 0 (by omega)))
        have z1 : I1 84 0 = 0 := by rw [← hI1, hU_nj (by omega), hU_eq]
        have T1 : fI ar I1 [] := fI_nil (by rw [← hI1, hU_eq])
        refine sc_vE (as := [.inr (.inl _)]) (rest := []) (cc := 6) ct_M_replace lk_M_tree lm_M_193 (c_R_tf (d := d) (rS_upd hR S1) hW hoka T1 (by simp; omega)) rfl (fun r I2 hr => ?_)
        obtain ⟨hr0, S2, T2⟩ := hr
        have hr1 : r = ((0 : Nat) : Int) := by rw [hr0]; rfl
        subst hr1
        rw [List.nil_append] at T2
        refine sg_R_rp_1 (k := ?_)
        refine sc_vE (as := [.inr (.inl _)]) (rest := [.inr (.inl _)]) (cc := 6) ct_M_replace lk_M_tree lm_M_193 (c_R_tf (d := d) (rS_upd hR (scF_trans S1 (scT_F S2))) hW hokb T2 (by omega)) rfl (fun r I3 hr => ?_)
        obtain ⟨rfl, S3, T3⟩ := hr
        refine sg_R_rp_2 (k := ?_)
        generalize hI4 : sU I3 84 26 ((sl a).length : Int) = I4
        have S4 : scT I1 I4 := by rw [← hI4]; exact scT_trans (scT_trans S2 S3) (scT_u _ _ (by omega))
        have T4 : fI ar I4 (sl a ++ sl b) := by rw [← hI4]; exact fI_upd T3 (fun w g1 g2 => sU_ne (by omega)) (hU_nj (by omega))
        have q26 : I4 84 26 = (sl a).length := by rw [← hI4, hU_eq]
        obtain ⟨⟨k, hk⟩, g1, g2, g3, g4, g5⟩ := id T4
        have hl3 : (sl a ++ sl b).length = (sl a).length + (sl b).length := List.length_append
        obtain ⟨fa, fb⟩ := fs_two wa1 wb1
        have hW0 : f_tk ar 1 ((sl a ++ sl b).drop 0) = (sl a).length := by rw [← f_s_len, fa]
        have hWb : f_tk ar 1 ((sl a ++ sl b).drop (sl a).length) = (sl b).length := by rw [← f_s_len, fb]
        have ep : p = ((p.toNat : Nat) : Int) := by omega
        have hpn : p.toNat < (sl a).length := by omega
        have hWp : f_tk ar 1 ((sl a ++ sl b).drop p.toNat) = f_tk ar 1 ((sl a).drop p.toNat) := (f_tk_at ar wa1 hpn).1
        have hpl := f_s_pos ar wa1 hpn
        have hspl := spl_len ar (ds := sl b) wa1 hpn
        have hcall : sCall l G mM_nth (sRm (d + 100) 0) [.inr (.inl 84), .inl ((0 : Nat) : Int), .inl p] (hS L x I4) (qI L x p I4) := by
          have := c_R_nt (l := l) (G := G) (L := L) (x := x) (d := d) hk g1 g4 100 0 p.toNat (by omega) (g3 _ (by omega)) (by omega)
          rw [Nat.zero_add, ← ep] at this
          exact this
        refine sc_vI (as := [.inl _, .inl _]) (rest := [.inr (.inl _)]) (cc := 6) ct_M_replace lk_M_nth lm_M_181 hcall rfl ?_
        generalize hI5 : sU I4 84 25 p = I5
        have S5 : scT I1 I5 := by rw [← hI5]; exact scT_trans S4 (scT_u _ _ (by omega))
        have T5 : fI ar I5 (sl a ++ sl b) := by rw [← hI5]; exact fI_upd T4 (fun w g1 g2 => sU_ne (by omega)) (hU_nj (by omega))
        have q26' : I5 84 26 = (sl a).length := by rw [← hI5, hU_nj (by omega)]; exact q26
        have q25' : I5 84 25 = (p.toNat : Nat) := by rw [← hI5, hU_eq]; exact ep
        have SI5 : scF I I5 := scF_trans S1 (scT_F S5)
        have z5 : I5 84 0 = 0 := by rw [S5.2 0 (by omega) (by omega)]; exact z1
        have v0 : I5 117 ((0 : Nat) : Int) = (sl a).length := by rw [(tr_at T5.2.2.2.2.1 (p := 0) (by omega)).2.1, hW0]
        have vp : I5 117 p = f_tk ar 1 ((sl a).drop p.toNat) := by
          have := (tr_at T5.2.2.2.2.1 (p := p.toNat) (by omega)).2.1
          rw [hWp, ← ep] at this
          exact this
        have vb : I5 117 ((sl a).length : Int) = (sl b).length := by rw [(tr_at T5.2.2.2.2.1 (p := (sl a).length) (by omega)).2.1, hWb]
        have hl100 := hpl.2
        by_cases hbig : 100 < (spl ar (sl a) p.toNat (sl b)).length
        · refine sg_R_rp_3h (v7 := ((sl a).length : Int)) (v8 := p) (v10 := (f_tk ar 1 ((sl a).drop p.toNat) : Int)) (v13 := ((sl a).length : Int)) (v15 := ((sl b).length : Int)) (e7 := by rw [hI5]; exact v0) (e8 := by rw [hU_eq]) (e10 := by rw [hI5]; exact vp) (e13 := by rw [hI5]; exact q26') (e15 := by rw [hI5]; exact vb) (k := ?_)
          rw [hI5]
          refine sc_vI (as := [.inl _, .inl _]) (rest := []) (cc := 6) ct_M_replace lk_M_refuse lm_M_99 (c_R_re (d := d) (by unfold sR; omega) (Or.inr rfl)) rfl ?_
          rw [if_neg (by omega)]
          refine sg_R_rp_u (k := ?_)
          rw [← hQ]
          exact sc_ret ct_M_replace ⟨_, _, rfl, rfl, scF_R (scF_trans SI5 (scF_0 I5 2)), Or.inr (Or.inl ⟨hU_eq _ _ _ _, ⟨hokz, hoka, hokb, by omega, h1⟩, hbig, rS_upd hR (scF_trans SI5 (scF_0 I5 2))⟩)⟩
        · refine sg_R_rp_3o (v7 := ((sl a).length : Int)) (v8 := p) (v10 := (f_tk ar 1 ((sl a).drop p.toNat) : Int)) (v13 := ((sl a).length : Int)) (v15 := ((sl b).length : Int)) (e7 := by rw [hI5]; exact v0) (e8 := by rw [hU_eq]) (e10 := by rw [hI5]; exact vp) (e13 := by rw [hI5]; exact q26') (e15 := by rw [hI5]; exact vb) (k := ?_)
          rw [hI5]
          refine sc_vI (as := [.inl _, .inl _]) (rest := []) (cc := 6) ct_M_replace lk_M_refuse lm_M_99 (c_R_re (d := d) (by unfold sR; omega) (Or.inl rfl)) rfl ?_
          rw [if_pos rfl]
          refine sg_R_rp_4 (k := ?_)
          have hrep : rep ar (sl a ++ sl b) p.toNat (f_s ar (sl a ++ sl b) (sl a).length) 0 (0 + f_tk ar 1 ((sl a ++ sl b).drop 0)) = spl ar (sl a) p.toNat (sl b) := by
            rw [rep_spl ar _ hk (by omega) (Nat.zero_le _) (by omega), fa, fb, Nat.sub_zero]
          have hRw : f_wf ar 1 (spl ar (sl a) p.toNat (sl b)) := spl_wf ar wa1 hpn wb1
          have hRr : ∀ c ∈ spl ar (sl a) p.toNat (sl b), -6 ≤ c ∧ c < 40 := fun c hc => by
            rcases spl_mem hc with h | h
            · exact wa3 c h
            · exact wb3 c h
          obtain ⟨⟨k5, hk5⟩, x1, x2, x3, x4, x5⟩ := id T5
          have hcall2 := c_R_rd (l := l) (G := G) (L := L) (x := x) (d := d) (q := p.toNat) (s := (sl a).length) hk5 (fun c hc => ⟨by have := x2 c hc; omega, (x2 c hc).2⟩) x3 (by omega) 100 0 I5 (by omega) (x3 _ (by omega)) x4 (by omega) (by rw [hrep, x5]; omega) q25' q26'
          rw [hrep] at hcall2
          refine sc_vE (as := [.inl _]) (rest := [.inr (.inl _), .inl _, .inr (.inl _)]) (cc := 6) ct_M_replace lk_M_replaced lm_M_178 hcall2 rfl (fun r I6 hr6 => ?_)
          have T6 := fI_mk T5 hr6 hRw hRr (by omega) (by omega)
          obtain ⟨rfl, F6, -, -, -⟩ := hr6
          obtain ⟨⟨k6, hk6⟩, w1, w2, w3, w4, w5⟩ := id T6
          obtain ⟨fl, fll⟩ := fs_last (cs := sl a ++ sl b) hRw
          rw [x5]
          refine sg_R_rp_5 (k := ?_)
          refine sc_vI (as := [.inl _, .inr (.inl _)]) (rest := [.inl _, .inr (.inl _)]) (cc := 6) ct_M_replace lk_M_written lm_M_196 (c_R_wn (d := d) hk6 w1 (fun c hc => ⟨by have := w2 c hc; omega, (w2 c hc).2⟩) (hC_k L bz.1 bz.2) (by omega) fll w4 (w3 _ fll)) rfl ?_
          rw [fl]
          have hsz : sArr (hSh L) 0 105 z := hAr rfl bz.1 bz.2
          refine sg_R_rp_6 (k := ?_)
          have SI6 : scF I I6 := scF_trans SI5 (scT_F (scT_b F6))
          have z6 : I6 84 0 = 0 := by rw [(scT_b F6).2 0 (by omega) (by omega)]; exact z5
          rw [← hQ]
          refine sc_ret ct_M_replace ⟨_, _, rfl, rfl, fun w g => by rw [sU_ne (by omega), wrt_o _ _ _ _ (by omega) (by omega)]; exact scF_R SI6 w g, Or.inr (Or.inr ⟨by rw [sU_ne (by omega), wrt_84 _ _ _ (by omega) (by omega)]; exact z6, ⟨hokz, hoka, hokb, by omega, h1⟩, by omega, rfl, ?_⟩)⟩
          exact rS_slot (rS_upd hR SI6) hokz (fun w u1 u2 u3 _ => by rw [sU_ne u2, wrt_o _ _ _ _ u3 u1]) (fun j u1 u2 => by rw [sU_ne (by omega), wrt_84 _ _ _ (by omega) (by omega)]) (fun j u => by rw [hU_nj u, wrt_o _ _ _ _ (by omega) (by omega)]) ⟨by rw [hU_eq], fun k hk => by rw [sU_ne (by omega)]; exact wrt_f I6 _ hk⟩
      · refine sg_R_rp_b (k := ?_)
        exact bad (by omega)
  · refine sg_R_rp_r (k := ?_)
    rw [← hQ]
    exact sc_ret ct_M_replace ⟨_, _, rfl, rfl, scF_R (scF_0 I 1), Or.inl ⟨hU_eq _ _ _ _, fun h => hok ⟨h.1, h.2.1, h.2.2.1, h.2.2.1⟩, rS_upd hR (scF_0 I 1)⟩⟩
end CR15
