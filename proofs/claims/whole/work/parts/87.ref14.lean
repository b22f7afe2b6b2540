/-! the reference: match, replace -/
/-- the values of the latest match -/
def lvO (ar : Int → Nat) (ss : List Int) (bb : Int → Int) : Int → List Int := fun v => if bb v = -1 then [] else f_s ar ss (bb v).toNat
theorem rS_vals {I1 : sI} {ar : Int → Nat} {pr : Int → Bool} {ns : Int} {rw : List Int} {lk nr mo : Int} {sl lv : Int → List Int} (h : rS I1 ar pr ns rw lk nr mo sl lv) {I2 : sI} {lv2 : Int → List Int} {mo2 : Int} (hw : ∀ w, w ≠ 84 → (w < 107 ∨ 113 < w) → w < 114 → I2 w = I1 w) (h84 : ∀ j, 1 ≤ j → j ≤ 4 → I2 84 j = I1 84 j) (hm : I2 84 12 = mo2) (hr : ∀ v, 0 ≤ v → v < 6 → rL I2 (107 + v.toNat) (I2 113 v) (lv2 v)) : rS I2 ar pr ns rw lk nr mo2 sl lv2 := by
  obtain ⟨y1, y2, y3, y4, y5, y6, y7, y8, y9⟩ := h
  refine ⟨by rw [h84 1 (by omega) (by omega)]; exact y1, ⟨y2.1, fun e g1 g2 => by rw [hw 85 (by omega) (by omega) (by omega)]; exact y2.2 e g1 g2⟩, ⟨y3.1, fun e g1 g2 => by rw [hw 87 (by omega) (by omega) (by omega)]; exact y3.2 e g1 g2⟩, ?_, by rw [h84 3 (by omega) (by omega)]; exact y5, by rw [h84 4 (by omega) (by omega)]; exact y6, hm, fun q hq => ?_, hr⟩
  · unfold rL
    rw [h84 2 (by omega) (by omega), hw 86 (by omega) (by omega) (by omega)]
    exact y4
  · have hqb := hq
    unfold okS at hqb
    unfold rL
    rw [hw 105 (by omega) (by omega) (by omega), hw (89 + q.toNat) (by omega) (by omega) (by omega)]
    exact y8 q hq
theorem fs_two {ar : Int → Nat} {u w : List Int} (hu : f_wf ar 1 u) (hw : f_wf ar 1 w) : f_s ar (u ++ w) 0 = u ∧ f_s ar (u ++ w) u.length = w := by
  have la : 0 < u.length := List.length_pos_iff.mpr (f_wf_ne ar hu)
  have lb : 0 < w.length := List.length_pos_iff.mpr (f_wf_ne ar hw)
  constructor
  · obtain ⟨-, -, -, h, -⟩ := em_at ar (A := []) (C := w) hu la
    rw [f_s_0 ar hu] at h
    exact h
  · obtain ⟨-, -, -, h, -⟩ := em_at ar (A := u) (C := []) hw lb
    rw [f_s_0 ar hw, List.append_nil] at h
    exact h
section CR14
variable {l : Launch} {G : sG} {L x d : Nat} {I : sI} {ar : Int → Nat} {pr : Int → Bool} {ns : Int} {rw : List Int} {lk nr mo : Int} {sl lv : Int → List Int}
theorem c_R_mt (hR : rS I ar pr ns rw lk nr mo sl lv) (hW : wS ar sl) {a b : Int} (ha : sR a) (hb : sR b) :
    sCall l G mM_match (sRm (d + 202) 0) [.inr (.inl 84), .inl a, .inl b] (hS L x I) (qE L x (fun r I' => fR I I' ∧ ((I' 84 0 = 1 ∧ r = 0 ∧ ¬ (okS a ∧ okS b) ∧ rS I' ar pr ns rw lk nr mo sl lv) ∨ (I' 84 0 = 0 ∧ okS a ∧ okS b ∧ ((r = 0 ∧ mf ar pr (sl b) (sl a) 0 (fun _ => -1) = none ∧ rS I' ar pr ns rw lk nr mo sl lv) ∨ (r = 1 ∧ ∃ e bb, mf ar pr (sl b) (sl a) 0 (fun _ => -1) = some (e, bb) ∧ (∀ v, bb v = -1 ∨ (0 ≤ bb v ∧ bb v < (sl b).length)) ∧ rS I' ar pr ns rw lk nr 1 sl (lvO ar (sl b) bb))))))) := by
  refine sCall_of (by decide) (Nat.le_of_ble_eq_true rfl) (sV1s_c trivial (sV1s_c ha (sV1s_c hb sV1s_n))) rfl ?_
  generalize hQ : (qE L x (fun r I' => fR I I' ∧ ((I' 84 0 = 1 ∧ r = 0 ∧ ¬ (okS a ∧ okS b) ∧ rS I' ar pr ns rw lk nr mo sl lv) ∨ (I' 84 0 = 0 ∧ okS a ∧ okS b ∧ ((r = 0 ∧ mf ar pr (sl b) (sl a) 0 (fun _ => -1) = none ∧ rS I' ar pr ns rw lk nr mo sl lv) ∨ (r = 1 ∧ ∃ e bb, mf ar pr (sl b) (sl a) 0 (fun _ => -1) = some (e, bb) ∧ (∀ v, bb v = -1 ∨ (0 ≤ bb v ∧ bb v < (sl b).length)) ∧ rS I' ar pr ns rw lk nr 1 sl (lvO ar (sl b) bb))))))) = Q
  show sJ l G mM_match (sRm (d + 202) 0) Q 0 (6 * 0) 0 [some (.inr (.inl 84)), some (.inl a), some (.inl b), none, none, none] [] (hSh L, hRF, I, x)
  refine sg_R_mt_0 (k := ?_)
  refine sc_vE (as := [.inl _, .inl _, .inl _, .inl _]) (rest := []) (cc := 6) ct_M_match lk_M_noSlots lm_M_190 (c_R_nn (d := d) ha hb ha hb) rfl (fun r I1 hr => ?_)
  obtain ⟨rfl, ⟨rfl, hoka, hokb, -, -⟩ | ⟨rfl, hok⟩⟩ := hr
  · have ba := hoka
    have bb := hokb
    unfold okS at ba bb
    obtain ⟨wa1, wa2, wa3⟩ := hW a hoka
    obtain ⟨wb1, wb2, wb3⟩ := hW b hokb
    have la : 0 < (sl a).length := List.length_pos_iff.mpr (f_wf_ne ar wa1)
    have lb : 0 < (sl b).length := List.length_pos_iff.mpr (f_wf_ne ar wb1)
    have hv := hR.2.1.1
    refine sg_R_mt_1 (k := ?_)
    generalize hI1 : sU (sU I 84 0 0) 84 17 0 = I1
    have S1 : scF I I1 := by rw [← hI1]; exact scF_trans (scF_0 I 0) (scT_F (scT_u _ 0 (by omega)))
    have z1 : I1 84 0 = 0 := by rw [← hI1, hU_nj (by omega), hU_eq]
    have T1 : fI ar I1 [] := fI_nil (by rw [← hI1, hU_eq])
    refine sc_vE (as := [.inr (.inl _)]) (rest := []) (cc := 6) ct_M_match lk_M_tree lm_M_193 (c_R_tf (d := d) (rS_upd hR S1) hW hoka T1 (by simp; omega)) rfl (fun r I2 hr => ?_)
    obtain ⟨hr0, S2, T2⟩ := hr
    have hr1 : r = ((0 : Nat) : Int) := by rw [hr0]; rfl
    subst hr1
    refine sg_R_mt_2 (k := ?_)
    rw [List.nil_append] at T2
    refine sc_vE (as := [.inr (.inl _)]) (rest := []) (cc := 6) ct_M_match lk_M_tree lm_M_193 (c_R_tf (d := d) (rS_upd hR (scF_trans S1 (scT_F S2))) hW hokb T2 (by omega)) rfl (fun r I3 hr => ?_)
    obtain ⟨rfl, S3, T3⟩ := hr
    have S13 : scT I1 I3 := scT_trans S2 S3
    have SI3 : scF I I3 := scF_trans S1 (scT_F S13)
    have z3 : I3 84 0 = 0 := by rw [S13.2 0 (by omega) (by omega)]; exact z1
    obtain ⟨⟨k, hk⟩, g1, g2, g3, g4, g5⟩ := id T3
    have hl3 : (sl a ++ sl b).length = (sl a).length + (sl b).length := List.length_append
    obtain ⟨fa, fb⟩ := fs_two wa1 wb1
    have R3 := rS_upd hR SI3
    refine sg_R_mt_3 (k := ?_)
    refine sc_vE (as := [.inl _, .inl _]) (rest := []) (cc := 6) ct_M_match lk_M_tried lm_M_184 (c_R_td (d := d) (p := 0) (a := (sl a).length) hk g1 g2 g3 hv (by omega) (by omega) g4 R3.2.2.1) rfl (fun r I4 hr => ?_)
    obtain ⟨f4, hr⟩ := hr
    rw [fa] at hr
    have S4 : scT I3 I4 := scT_w (fun w h => f4 w (by omega))
    have SI4 : scF I I4 := scF_trans SI3 (scT_F S4)
    have z4 : I4 84 0 = 0 := by rw [S4.2 0 (by omega) (by omega)]; exact z3
    have hemb := mf_emb ar pr (A := sl a) (C := []) wb1 hv (sl a) 1 0 0 (fun _ => -1) (fun _ => -1) wa1 (by simpa using wb1) (by omega) (fun v => Or.inl ⟨rfl, rfl⟩)
    rw [List.append_nil, Nat.add_zero] at hemb
    rcases hr with ⟨rfl, hm⟩ | ⟨rfl, e, bb', hm, hab, hbo⟩
    · refine sg_R_mt_n (k := ?_)
      rw [← hQ]
      refine sc_retZ ct_M_match ⟨_, _, rfl, rfl, scF_R SI4, Or.inr ⟨z4, hoka, hokb, Or.inl ⟨rfl, ?_, rS_upd hR SI4⟩⟩⟩
      rcases hemb with ⟨h1, -⟩ | ⟨e2, b2, b3, h1, h2, -⟩
      · exact h1
      · rw [hm] at h2; cases h2
    · rcases hemb with ⟨-, h2⟩ | ⟨ee, bv, b3, h1, h2, hbb⟩
      · rw [hm] at h2; cases h2
      · rw [hm] at h2
        cases h2
        refine sg_R_mt_y (k := ?_)
        generalize hB : sU I4 84 12 1 = B
        have b84 : ∀ j, j ≠ 12 → B 84 j = I4 84 j := fun j g => by rw [← hB, hU_nj g]
        have bo : ∀ w, w ≠ 84 → B w = I4 w := fun w g => by rw [← hB, sU_ne g]
        have b12 : B 84 12 = 1 := by rw [← hB, hU_eq]
        have hvb : ∀ v, bv v = -1 ∨ (0 ≤ bv v ∧ bv v < (sl b).length) := fun v => by
          rcases hbb v with h | h
          · exact Or.inl h.1
          · exact Or.inr ⟨h.1, h.2.1⟩
        have loop : ∀ (m j : Nat) (I5 : sI), m = 6 - j → j ≤ 6 → (∀ w, w ≠ 84 → (w < 107 ∨ 113 < w) → I5 w = B w) → (∀ q, q ≠ 18 → I5 84 q = B 84 q) → (∀ v : Int, 0 ≤ v → v < j → rL I5 (107 + v.toNat) (I5 113 v) (lvO ar (sl b) bv v)) →
            sJ l G mM_match (sRm (d + 202) 0) Q (0 + 0 + 0 + 0 + 0) (6 * (0 + 0 + 0 + 0 + 0)) 38 [some (.inr (.inl 84)), some (.inl a), some (.inl b), some (.inl ((0 : Nat) : Int)), some (.inl ((sl a).length : Int)), some (.inl (j : Int))] [] (hSh L, hRF, I5, x) := by
          intro m
          induction m with
          | zero =>
            intro j I5 hm5 hj f5 q5 v5
            have hj' : j = 6 := by omega
            subst hj'
            refine sg_R_mt_x (k := ?_)
            rw [← hQ]
            refine sc_retZ ct_M_match ⟨_, _, rfl, rfl, fun w g => by rw [f5 w (by omega) (by omega), bo w (by omega)]; exact scF_R SI4 w g, Or.inr ⟨by rw [q5 0 (by omega), b84 0 (by omega)]; exact z4, hoka, hokb, Or.inr ⟨rfl, ee, bv, h1, hvb, ?_⟩⟩⟩
            exact rS_vals (rS_upd hR SI4) (fun w u1 u2 _ => by rw [f5 w u1 u2, bo w u1]) (fun j u1 u2 => by rw [q5 j (by omega), b84 j (by omega)]) (by rw [q5 12 (by omega)]; exact b12) (fun v u1 u2 => v5 v u1 (by omega))
          | succ m ihm =>
            intro j I5 hm5 hj f5 q5 v5
            have e122 : I5 122 (j : Int) = bb' j := by rw [f5 122 (by omega) (by omega), bo 122 (by omega)]; exact hab j (by omega) (by omega)
            have hvd := hV_k L (a := (j : Int)) (by omega) (by omega)
            rcases hbb (j : Int) with ⟨u1, u2⟩ | ⟨u1, u2, u3⟩
            · refine sg_R_mt_e (k := ?_)
              refine ihm (j + 1) _ (by omega) (by omega) (fun w t1 t2 => by rw [sU_ne (by omega)]; exact f5 w t1 t2) (fun q t1 => by rw [sU_ne (by omega)]; exact q5 q t1) (fun v t1 t2 => ?_)
              by_cases hvj : v = j
              · subst hvj
                unfold rL lvO
                rw [hU_eq, if_pos u1]
                exact ⟨rfl, fun k h => by simp at h⟩
              · have := v5 v t1 (by omega)
                unfold rL at this ⊢
                rw [hU_nj hvj, sU_ne (by omega)]
                exact this
            · have e5 : I5 122 (j : Int) = (((sl a).length + (bv j).toNat : Nat) : Int) := by rw [e122, u3]; omega
              have ht5 : tr ar I5 0 (sl a ++ sl b) := tr_upd hk g4 (fun w t1 t2 q _ _ => by rw [f5 w (by omega) (by omega), bo w (by omega), f4 w (by omega)])
              have hpl : (sl a).length + (bv j).toNat < (sl a ++ sl b).length := by omega
              obtain ⟨-, -, -, z4', -⟩ := em_at ar (A := sl a) (C := []) wb1 (p := (bv j).toNat) (by omega)
              rw [List.append_nil] at z4'
              have hneg : ¬ I5 122 (j : Int) < 0 := by omega
              refine sg_R_mt_w (c14 := 107 + ((j : Int)).toNat) (e14 := show hRF 106 (j : Int) = 107 + ((j : Int)).toNat from rfl) (k := ?_)
              rw [e5]
              refine sc_vI (as := [.inl _, .inr (.inl _)]) (rest := [.inl _, .inr (.inl _)]) (cc := 6) ct_M_match lk_M_written lm_M_196 (c_R_wn (d := d) hk g1 (fun c hc => ⟨by have := g2 c hc; omega, (g2 c hc).2⟩) hvd (by omega) hpl ht5 (g3 _ hpl)) rfl ?_
              rw [z4']
              refine sg_R_mt_v (k := ?_)
              generalize hX : f_s ar (sl b) (bv j).toNat = X
              refine ihm (j + 1) _ (by omega) (by omega) (fun w t1 t2 => by rw [sU_ne (by omega), wrt_o _ _ _ _ (by omega) t1]; exact f5 w t1 t2) (fun q t1 => by rw [sU_ne (by omega), wrt_84 _ _ _ (by omega) t1]; exact q5 q t1) (fun v t1 t2 => ?_)
              by_cases hvj : v = j
              · subst hvj
                unfold rL lvO
                rw [hU_eq, if_neg (by omega), hX]
                exact ⟨rfl, fun k h => by rw [sU_ne (by omega)]; exact wrt_f I5 X h⟩
              · have := v5 v t1 (by omega)
                unfold rL at this ⊢
                rw [hU_nj hvj, sU_ne (by omega), wrt_o _ _ _ _ (by omega) (by omega), wrt_o _ _ _ _ (by omega) (by omega)]
                exact this
        exact loop 6 0 B rfl (by omega) (fun _ _ _ => rfl) (fun _ _ => rfl) (fun v t1 t2 => by omega)
  · refine sg_R_mt_r (k := ?_)
    rw [← hQ]
    exact sc_retZ ct_M_match ⟨_, _, rfl, rfl, scF_R (scF_0 I 1), Or.inl ⟨hU_eq _ _ _ _, rfl, fun h => hok ⟨h.1, h.2, h.1, h.2⟩, rS_upd hR (scF_0 I 1)⟩⟩
end CR14
