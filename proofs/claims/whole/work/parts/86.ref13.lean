/-! the reference: trees of slots; order, match, told -/
theorem lm_M_190 : sLm "TermBenchModel" 190 mM_noSlots = true := by decide +kernel
theorem lm_M_193 : sLm "TermBenchModel" 193 mM_tree = true := by decide +kernel
theorem lm_M_196 : sLm "TermBenchModel" 196 mM_written = true := by decide +kernel
theorem nml_nd : ∀ (l S : List Int), S.Nodup → (nml S l).Nodup := by
  intro l
  induction l with
  | nil => intro S h; exact h
  | cons c l ih =>
    intro S h
    simp only [nml]
    split
    · rename_i hc
      refine ih _ ?_
      rw [List.nodup_append]
      refine ⟨h, by simp, fun a ha b hb => ?_⟩
      rw [List.mem_singleton] at hb
      subst hb
      exact fun e => hc.2 (e ▸ ha)
    · exact ih _ h
theorem nd_len : ∀ (n : Nat) (l : List Int), l.Nodup → (∀ x ∈ l, -(n : Int) ≤ x ∧ x < 0) → l.length ≤ n := by
  intro n
  induction n with
  | zero =>
    intro l _ h
    cases l with
    | nil => exact Nat.le_refl _
    | cons a l => have := h a List.mem_cons_self; omega
  | succ n ih =>
    intro l hn h
    have h1 := ih (l.erase (-((n + 1 : Nat) : Int))) (hn.erase _) (fun x hx => by
      rw [List.Nodup.mem_erase_iff hn] at hx
      have := h x hx.2
      have h2 := hx.1
      omega)
    rw [List.length_erase] at h1
    split at h1 <;> omega
theorem nml_12 {l : List Int} (h : ∀ c ∈ l, -12 ≤ c) : (nml [] l).length ≤ 12 := by
  refine nd_len 12 _ (nml_nd l [] (by simp)) (fun x hx => ?_)
  rcases (nml_mem l [] x).mp hx with h1 | h1
  · cases h1
  · exact ⟨h x h1.1, h1.2⟩
def scT (I I' : sI) : Prop := (∀ w, (w < 114 ∨ 123 < w) → w ≠ 84 → I' w = I w) ∧ ∀ j, 0 ≤ j → j ≤ 12 → I' 84 j = I 84 j
theorem scT_F {I I' : sI} (h : scT I I') : scF I I' := ⟨h.1, fun j g1 g2 => h.2 j (by omega) g2⟩
theorem scT_refl (I : sI) : scT I I := ⟨fun _ _ _ => rfl, fun _ _ _ => rfl⟩
theorem scT_trans {I I1 I2 : sI} (h1 : scT I I1) (h2 : scT I1 I2) : scT I I2 := ⟨fun w g1 g2 => by rw [h2.1 w g1 g2, h1.1 w g1 g2], fun j g1 g2 => by rw [h2.2 j g1 g2, h1.2 j g1 g2]⟩
theorem scT_b {I I' : sI} (h : bF I I') : scT I I' := ⟨fun w g1 g2 => h.1 w (by omega) g2, fun j g1 g2 => h.2.1 j (by omega) (by omega)⟩
theorem scT_f {I I' : sI} (h : fF I I') : scT I I' := ⟨fun w g1 g2 => h.1 w (by omega) g2 (by omega), fun j g1 g2 => h.2 j (by omega) (by omega) (by omega) (by omega)⟩
theorem scT_w {I I' : sI} (h : ∀ w, (w < 114 ∨ 123 < w ∨ w = 84) → I' w = I w) : scT I I' := ⟨fun w g1 g2 => h w (by omega), fun j _ _ => by rw [h 84 (by omega)]⟩
theorem scT_u (I : sI) {j : Int} (z : Int) (hj : 12 < j) : scT I (sU I 84 j z) := ⟨fun w _ g => sU_ne g, fun q g1 g2 => hU_nj (by omega)⟩
def wS (ar : Int → Nat) (sl : Int → List Int) : Prop := ∀ a, okS a → f_wf ar 1 (sl a) ∧ (sl a).length ≤ 100 ∧ ∀ c ∈ sl a, -6 ≤ c ∧ c < 40
theorem fI_nil {ar : Int → Nat} {I : sI} (h : I 84 17 = 0) : fI ar I [] := ⟨⟨0, rfl⟩, Nat.zero_le _, fun c hc => (by cases hc), fun p hp => (by simp at hp), tr_nil ar I 0, by rw [h]; rfl⟩
section CR13
variable {l : Launch} {G : sG} {L x d : Nat} {I : sI} {ar : Int → Nat} {pr : Int → Bool} {ns : Int} {rw : List Int} {lk nr mo : Int} {sl lv : Int → List Int}
theorem c_R_tf (hR : rS I ar pr ns rw lk nr mo sl lv) (hW : wS ar sl) {a : Int} (ha : okS a) {cs : List Int} (hI : fI ar I cs) (h6 : cs.length + (sl a).length ≤ 6000) :
    sCall l G mM_tree (sRm (d + 101) 0) [.inr (.inl 84), .inr (.inl (89 + a.toNat))] (hS L x I) (qE L x (fun r I' => r = cs.length ∧ scT I I' ∧ fI ar I' (cs ++ sl a))) := by
  obtain ⟨w1, w2, w3⟩ := hW a ha
  have hb := ha
  unfold okS at hb
  have y8 := hR.2.2.2.2.2.2.2.1 a ha
  refine sCall_mono (c_R_tr w1 (fun c hc => ⟨by have := w3 c hc; omega, (w3 c hc).2⟩) (f := 89 + a.toNat) ⟨hC_k L hb.1 hb.2, by omega, w2, y8.2⟩ hR.2.1 (by rw [hI.2.2.2.2.2]; omega) (by rw [hI.2.2.2.2.2]; omega)) ?_
  rintro r S ⟨v, I', rfl, rfl, hm⟩
  refine ⟨v, I', rfl, rfl, by rw [hm.1]; exact hI.2.2.2.2.2, scT_b hm.2.1, fI_mk hI hm w1 w3 w2 h6⟩
theorem c_R_or (hR : rS I ar pr ns rw lk nr mo sl lv) (hW : wS ar sl) {a b : Int} (ha : sR a) (hb : sR b) :
    sCall l G mM_order (sRm (d + 202) 0) [.inr (.inl 84), .inl a, .inl b] (hS L x I) (qE L x (fun r I' => scF I I' ∧ ((I' 84 0 = 1 ∧ ¬ (okS a ∧ okS b)) ∨ (I' 84 0 = 0 ∧ okS a ∧ okS b ∧ ordV ar (sl a) (sl b) r)))) := by
  refine sCall_of (by decide) (Nat.le_of_ble_eq_true rfl) (sV1s_c trivial (sV1s_c ha (sV1s_c hb sV1s_n))) rfl ?_
  generalize hQ : (qE L x (fun r I' => scF I I' ∧ ((I' 84 0 = 1 ∧ ¬ (okS a ∧ okS b)) ∨ (I' 84 0 = 0 ∧ okS a ∧ okS b ∧ ordV ar (sl a) (sl b) r)))) = Q
  show sJ l G mM_order (sRm (d + 202) 0) Q 0 (6 * 0) 0 [some (.inr (.inl 84)), some (.inl a), some (.inl b), none, none] [] (hSh L, hRF, I, x)
  refine sg_R_or_0 (k := ?_)
  refine sc_vE (as := [.inl _, .inl _, .inl _, .inl _]) (rest := []) (cc := 6) ct_M_order lk_M_noSlots lm_M_190 (c_R_nn (d := d) ha hb ha hb) rfl (fun r I1 hr => ?_)
  obtain ⟨rfl, ⟨rfl, hoka, hokb, -, -⟩ | ⟨rfl, hok⟩⟩ := hr
  · have ba := hoka
    have bb := hokb
    unfold okS at ba bb
    obtain ⟨wa1, wa2, wa3⟩ := hW a hoka
    obtain ⟨wb1, wb2, wb3⟩ := hW b hokb
    have la : 0 < (sl a).length := List.length_pos_iff.mpr (f_wf_ne ar wa1)
    have lb : 0 < (sl b).length := List.length_pos_iff.mpr (f_wf_ne ar wb1)
    refine sg_R_or_1 (k := ?_)
    generalize hI1 : sU (sU I 84 0 0) 84 17 0 = I1
    have S1 : scF I I1 := by rw [← hI1]; exact scF_trans (scF_0 I 0) (scT_F (scT_u _ 0 (by omega)))
    have z1 : I1 84 0 = 0 := by rw [← hI1, hU_nj (by omega), hU_eq]
    have T1 : fI ar I1 [] := fI_nil (by rw [← hI1, hU_eq])
    refine sc_vE (as := [.inr (.inl _)]) (rest := []) (cc := 6) ct_M_order lk_M_tree lm_M_193 (c_R_tf (d := d) (rS_upd hR S1) hW hoka T1 (by simp; omega)) rfl (fun r I2 hr => ?_)
    obtain ⟨hr0, S2, T2⟩ := hr
    have hr1 : r = ((0 : Nat) : Int) := by rw [hr0]; rfl
    subst hr1
    refine sg_R_or_2 (k := ?_)
    rw [List.nil_append] at T2
    refine sc_vE (as := [.inr (.inl _)]) (rest := []) (cc := 6) ct_M_order lk_M_tree lm_M_193 (c_R_tf (d := d) (rS_upd hR (scF_trans S1 (scT_F S2))) hW hokb T2 (by omega)) rfl (fun r I3 hr => ?_)
    obtain ⟨rfl, S3, T3⟩ := hr
    have S13 : scT I1 I3 := scT_trans S2 S3
    have SI3 : scF I I3 := scF_trans S1 (scT_F S13)
    have z3 : I3 84 0 = 0 := by rw [S13.2 0 (by omega) (by omega)]; exact z1
    obtain ⟨⟨k, hk⟩, g1, g2, g3, g4, g5⟩ := id T3
    have hl3 : (sl a ++ sl b).length = (sl a).length + (sl b).length := List.length_append
    have fa : f_s ar (sl a ++ sl b) 0 = sl a := by
      obtain ⟨-, -, -, h, -⟩ := em_at ar (A := []) (C := sl b) wa1 la
      rw [f_s_0 ar wa1] at h
      exact h
    have fb : f_s ar (sl a ++ sl b) (sl a).length = sl b := by
      obtain ⟨-, -, -, h, -⟩ := em_at ar (A := sl a) (C := []) wb1 lb
      rw [f_s_0 ar wb1, List.append_nil] at h
      exact h
    refine sg_R_or_3 (k := ?_)
    refine sc_vE (as := [.inl _, .inl _]) (rest := []) (cc := 6) ct_M_order lk_M_same lm_M_123 (c_R_sa (d := d) (p := 0) (q := (sl a).length) hk g1 g4 100 (by omega) (by omega) (g3 _ (by omega))) rfl (fun r I4 hr => ?_)
    rw [fa, fb] at hr
    obtain ⟨rfl, ⟨rfl, he⟩ | ⟨rfl, he⟩⟩ := hr
    · refine sg_R_or_s (k := ?_)
      rw [← hQ]
      exact sc_ret ct_M_order ⟨_, _, rfl, rfl, SI3, Or.inr ⟨z3, hoka, hokb, Or.inl ⟨rfl, he⟩⟩⟩
    · refine sg_R_or_4 (k := ?_)
      refine sc_vE (as := [.inl _, .inl _]) (rest := []) (cc := 6) ct_M_order lk_M_greater lm_M_133 (c_R_gr (d := d) (p := 0) (q := (sl a).length) hk g1 g2 g3 100 I4 (by omega) (by omega) (g3 _ (by omega)) g4) rfl (fun r I5 hr => ?_)
      rw [fa, fb] at hr
      obtain ⟨f5, hr⟩ := hr
      have S5 : scT I4 I5 := scT_w (fun w h => f5 w (by omega))
      have SI5 : scF I I5 := scF_trans SI3 (scT_F S5)
      have z5 : I5 84 0 = 0 := by rw [S5.2 0 (by omega) (by omega)]; exact z3
      rcases hr with ⟨rfl, hg⟩ | ⟨rfl, hg⟩
      · refine sg_R_or_f (k := ?_)
        rw [← hQ]
        exact sc_ret ct_M_order ⟨_, _, rfl, rfl, SI5, Or.inr ⟨z5, hoka, hokb, Or.inr (Or.inl ⟨rfl, he, hg⟩)⟩⟩
      · refine sg_R_or_5 (k := ?_)
        have g45 : tr ar I5 0 (sl a ++ sl b) := tr_upd hk g4 (fun w q1 q2 j _ _ => by rw [f5 w (by omega)])
        refine sc_vE (as := [.inl _, .inl _]) (rest := []) (cc := 6) ct_M_order lk_M_greater lm_M_133 (c_R_gr (d := d) (p := (sl a).length) (q := 0) hk g1 g2 g3 100 I5 (by omega) (by omega) (g3 _ (by omega)) g45) rfl (fun r I6 hr => ?_)
        rw [fa, fb] at hr
        obtain ⟨f6, hr⟩ := hr
        have S6 : scT I5 I6 := scT_w (fun w h => f6 w (by omega))
        have SI6 : scF I I6 := scF_trans SI5 (scT_F S6)
        have z6 : I6 84 0 = 0 := by rw [S6.2 0 (by omega) (by omega)]; exact z5
        rcases hr with ⟨rfl, hg2⟩ | ⟨rfl, hg2⟩
        · refine sg_R_or_g (k := ?_)
          rw [← hQ]
          exact sc_ret ct_M_order ⟨_, _, rfl, rfl, SI6, Or.inr ⟨z6, hoka, hokb, Or.inr (Or.inr (Or.inl ⟨rfl, he, hg, hg2⟩))⟩⟩
        · refine sg_R_or_n (k := ?_)
          rw [← hQ]
          exact sc_ret ct_M_order ⟨_, _, rfl, rfl, SI6, Or.inr ⟨z6, hoka, hokb, Or.inr (Or.inr (Or.inr ⟨rfl, he, hg, hg2⟩))⟩⟩
  · refine sg_R_or_r (k := ?_)
    rw [← hQ]
    exact sc_ret ct_M_order ⟨_, _, rfl, rfl, scF_0 I 1, Or.inl ⟨hU_eq _ _ _ _, fun h => hok ⟨h.1, h.2, h.1, h.2⟩⟩⟩
theorem c_R_to (hR : rS I ar pr ns rw lk nr mo sl lv) (hW : wS ar sl) {a w : Int} (ha : sR a) (hw : sR w) :
    sCall l G mM_told (sRm (d + 202) 0) [.inr (.inl 84), .inl a, .inl w] (hS L x I) (qE L x (fun r I' => scF I I' ∧ ((I' 84 0 = 1 ∧ ¬ okS a) ∨ (I' 84 0 = 2 ∧ okS a ∧ ¬ (0 ≤ w ∧ w ≤ 2)) ∨ (I' 84 0 = 0 ∧ okS a ∧ ((w = 0 ∧ r = (sl a).length) ∨ (w = 1 ∧ r = (nml [] (sl a)).length) ∨ (w = 2 ∧ r = dpt (en ar (sl a) 0) (sl a).length)))))) := by
  refine sCall_of (by decide) (Nat.le_of_ble_eq_true rfl) (sV1s_c trivial (sV1s_c ha (sV1s_c hw sV1s_n))) rfl ?_
  generalize hQ : (qE L x (fun r I' => scF I I' ∧ ((I' 84 0 = 1 ∧ ¬ okS a) ∨ (I' 84 0 = 2 ∧ okS a ∧ ¬ (0 ≤ w ∧ w ≤ 2)) ∨ (I' 84 0 = 0 ∧ okS a ∧ ((w = 0 ∧ r = (sl a).length) ∨ (w = 1 ∧ r = (nml [] (sl a)).length) ∨ (w = 2 ∧ r = dpt (en ar (sl a) 0) (sl a).length)))))) = Q
  show sJ l G mM_told (sRm (d + 202) 0) Q 0 (6 * 0) 0 [some (.inr (.inl 84)), some (.inl a), some (.inl w), none] [] (hSh L, hRF, I, x)
  refine sg_R_to_0 (k := ?_)
  refine sc_vE (as := [.inl _]) (rest := []) (cc := 6) ct_M_told lk_M_noSlot lm_M_103 (c_R_ns (d := d) ha) rfl (fun r I1 hr => ?_)
  obtain ⟨rfl, ⟨rfl, hok⟩ | ⟨rfl, hok⟩⟩ := hr
  · have hb := hok
    unfold okS at hb
    obtain ⟨w1, w2, w3⟩ := hW a hok
    have bad : ¬ (0 ≤ w ∧ w ≤ 2) → sJ l G mM_told (sRm (d + 202) 0) Q (0 + 0) (6 * (0 + 0)) 14 [some (.inr (.inl 84)), some (.inl a), some (.inl w), none] [.inl 1, .inl 2, .inr (.inl 84)] (hSh L, hRF, sU I 84 0 0, x) := by
      intro hno
      refine sc_vI (as := [.inl _, .inl _]) (rest := []) (cc := 6) ct_M_told lk_M_refuse lm_M_99 (c_R_re (d := d) (by unfold sR; omega) (Or.inr rfl)) rfl ?_
      rw [if_neg (by omega), sU_sU]
      refine sg_R_to_t (k := ?_)
      rw [← hQ]
      exact sc_ret ct_M_told ⟨_, _, rfl, rfl, scF_0 I 2, Or.inr (Or.inl ⟨hU_eq _ _ _ _, hok, hno⟩)⟩
    by_cases h0 : w < 0
    · refine sg_R_to_a (k := ?_)
      exact bad (by omega)
    · by_cases h2 : 2 < w
      · refine sg_R_to_b (k := ?_)
        exact bad (by omega)
      · refine sg_R_to_o (k := ?_)
        refine sc_vI (as := [.inl _, .inl _]) (rest := []) (cc := 6) ct_M_told lk_M_refuse lm_M_99 (c_R_re (d := d) (by unfold sR; omega) (Or.inl rfl)) rfl ?_
        rw [if_pos rfl]
        refine sg_R_to_g (k := ?_)
        generalize hI1 : sU (sU I 84 0 0) 84 17 0 = I1
        have S1 : scF I I1 := by rw [← hI1]; exact scF_trans (scF_0 I 0) (scT_F (scT_u _ 0 (by omega)))
        have z1 : I1 84 0 = 0 := by rw [← hI1, hU_nj (by omega), hU_eq]
        have T1 : fI ar I1 [] := fI_nil (by rw [← hI1, hU_eq])
        refine sc_vE (as := [.inr (.inl _)]) (rest := []) (cc := 6) ct_M_told lk_M_tree lm_M_193 (c_R_tf (d := d) (rS_upd hR S1) hW hok T1 (by simp; omega)) rfl (fun r I2 hr => ?_)
        obtain ⟨hr0, S2, T2⟩ := hr
        have hr1 : r = ((0 : Nat) : Int) := by rw [hr0]; rfl
        subst hr1
        rw [List.nil_append] at T2
        have z2 : I2 84 0 = 0 := by rw [S2.2 0 (by omega) (by omega)]; exact z1
        have SI2 : scF I I2 := scF_trans S1 (scT_F S2)
        obtain ⟨⟨k, hk⟩, g1, g2, g3, g4, g5⟩ := id T2
        have la : 0 < (sl a).length := List.length_pos_iff.mpr (f_wf_ne ar w1)
        obtain ⟨t1, t2, t3, t4⟩ := tr_at g4 la
        rw [List.drop_zero, f_wf_len ar _ _ w1] at t2
        by_cases hw0 : w = 0
        · refine sg_R_to_w (k := ?_)
          rw [← hQ]
          refine sc_ret ct_M_told ⟨_, _, rfl, rfl, SI2, Or.inr (Or.inr ⟨z2, hok, Or.inl ⟨hw0, t2⟩⟩)⟩
        · by_cases hw2 : w = 2
          · refine sg_R_to_d (k := ?_)
            refine sc_vI (as := [.inl _]) (rest := []) (cc := 6) ct_M_told lk_M_depth lm_M_200 (c_R_de (d := d) (p := 0) w1 (by omega) g4 100 la (by rw [List.drop_zero, f_wf_len ar _ _ w1]; omega)) rfl ?_
            rw [← hQ]
            refine sc_ret ct_M_told ⟨_, _, rfl, rfl, SI2, Or.inr (Or.inr ⟨z2, hok, Or.inr (Or.inr ⟨hw2, ?_⟩)⟩)⟩
            rw [List.drop_zero, f_wf_len ar _ _ w1]
          · refine sg_R_to_n (k := ?_)
            have ht2 : tr ar I2 0 (sl a) := g4
            have hL : (nml [] (f_s ar (sl a) 0)).length ≤ 12 := by rw [f_s_0 ar w1]; exact nml_12 (fun c hc => by have := w3 c hc; omega)
            refine sc_vF (as := [.inl _]) (rest := []) (cc := 6) ct_M_told lk_M_number lm_M_162 (c_R_nu (d := d) (p := 0) (S := []) w1 (by omega) (fun c hc => ⟨by have := w3 c hc; omega, (w3 c hc).2⟩) hR.2.1.1 ht2 100 _ la (by rw [List.drop_zero, f_wf_len ar _ _ w1]; omega) (by rw [sU_ne (by omega)]) (by rw [sU_ne (by omega)]) (fun j hj _ _ => by rw [sU_ne (by omega)]; exact (tr_at g4 hj).1) (by rw [hU_eq]; rfl) (fun k h => by simp at h) hL) rfl (fun I3 hI3 => ?_)
            obtain ⟨q1, q2, q3, -, -, -⟩ := hI3
            rw [f_s_0 ar w1] at q3
            refine sg_R_to_x (k := ?_)
            rw [← hQ]
            refine sc_ret ct_M_told ⟨_, _, rfl, rfl, scF_trans SI2 ⟨fun v u1 u2 => by rw [q1 v u2 (by omega) (by omega), sU_ne u2], fun j u1 u2 => by rw [q2 j (by omega), hU_nj (by omega)]⟩, Or.inr (Or.inr ⟨by rw [q2 0 (by omega), hU_nj (by omega)]; exact z2, hok, Or.inr (Or.inl ⟨by omega, q3⟩)⟩)⟩
  · refine sg_R_to_r (k := ?_)
    rw [← hQ]
    exact sc_ret ct_M_told ⟨_, _, rfl, rfl, scF_0 I 1, Or.inl ⟨hU_eq _ _ _ _, hok⟩⟩
end CR13
