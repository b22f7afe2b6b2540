/-! TermBench: unify -/
theorem lm_B_ld_125 : sLm "TermBench" 125 mU_load = true := by decide +kernel
theorem lm_B_hv_129 : sLm "TermBench" 129 mU_hasValues = true := by decide +kernel
theorem lm_B_wr_133 : sLm "TermBench" 133 mU_write = true := by decide +kernel
theorem cv_neg {S : List Int} {c : Int} (h : c < 0) : cv S c < 0 := by
  unfold cv
  rw [if_pos h]
  omega
theorem cv_ar (I : sI) (S : List Int) (c : Int) : hArt I (cv S c) = hArt I c := by
  by_cases h : c < 0
  · have := cv_neg (S := S) h
    unfold hArt
    rw [if_pos this, if_pos h]
  · unfold cv
    rw [if_neg h]
section CB4
variable {l : Launch} {G : sG} {L x d : Nat} {I : sI}
/-- the answer of unify on the cells -/
def unP (I : sI) (s t : List Int) (z : Int) : Int → sI → Prop := fun v I' => ∃ out, uAns (hArt I) (hPr I) s t v out ∧ (∀ w, (w < 57 ∨ 63 ≤ w) → (w < 75 ∨ 83 < w) → (v = 1 → w ≠ 6 + 3 * z.toNat ∧ w ≠ 6 + 3 * z.toNat + 1 ∧ w ≠ 6 + 3 * z.toNat + 2) → I' w = I w) ∧ (v = 1 → tw I' (6 + 3 * z.toNat) out)
theorem c_B_unify (hl : l.stackTraces = false) (hx : x ≠ 0) {sl : Int → List Int} (hal : alf I) (hs : hSl I sl) {z a b ap : Int} (hz : sR z) (ha : sR a) (hb : sR b) (hap : ap = 0 ∨ ap = 1) : sCall l G mB_unify (sRm (d + 7) 3) [.inr (.inl 1), .inl z, .inl a, .inl b, .inl ap] (hS L x I) (qO L x (fun r I' => (r = .inr 0 ∧ I' = I ∧ ¬ (okS z ∧ okS a ∧ okS b)) ∨ (okS z ∧ okS a ∧ okS b ∧ ∃ v, r = .inl v ∧ unP I (sl a) ((sl b).map (shv (if ap = 0 then 0 else 6))) z v I'))) := by
  refine sCall_of (by decide) (Nat.le_of_ble_eq_true rfl) (sV1s_c trivial (sV1s_c hz (sV1s_c ha (sV1s_c hb (sV1s_c (sV1_i (by omega) (by omega)) sV1s_n))))) rfl ?_
  show sJ l G mB_unify (sRm (d + 7) 3) _ 0 (6 * 0) 0 [some (.inr (.inl 1)), some (.inl z), some (.inl a), some (.inl b), some (.inl ap)] [] (hSh L, hRF, I, x)
  refine sg_B_un_0 (k := ?_)
  refine sc_rs ct_B_unify hl hx hz (fun h => ⟨_, rfl, Or.inr ⟨0, rfl, Or.inl ⟨rfl, rfl, fun h2 => h h2.1⟩⟩⟩) (fun hokz => ?_)
  refine sg_B_un_1 (k := ?_)
  refine sc_rs ct_B_unify hl hx ha (fun h => ⟨_, rfl, Or.inr ⟨0, rfl, Or.inl ⟨rfl, rfl, fun h2 => h h2.2.1⟩⟩⟩) (fun hoka => ?_)
  refine sg_B_un_2 (k := ?_)
  refine sc_rs ct_B_unify hl hx hb (fun h => ⟨_, rfl, Or.inr ⟨0, rfl, Or.inl ⟨rfl, rfl, fun h2 => h h2.2.2⟩⟩⟩) (fun hokb => ?_)
  have hokz' := hokz
  have hoka' := hoka
  have hokb' := hokb
  unfold okS at hokz' hoka' hokb'
  have htz := hT_slot hokz'.1 hokz'.2
  have hta := hT_slot hoka'.1 hoka'.2
  have htb := hT_slot hokb'.1 hokb'.2
  have hwa := (hs a hoka).1
  have hwb := (hs b hokb).1
  have hlz := hT_lt htz
  have c6a : ∀ c ∈ sl a, -6 ≤ c := fun c hc => ((hs a hoka).2 c hc).1
  have c6b : ∀ c ∈ sl b, -6 ≤ c := fun c hc => ((hs b hokb).2 c hc).1
  refine sg_B_un_3 (k := ?_)
  refine sc_vF (as := [.inr (.inl _), .inr (.inl _), .inl _]) (rest := []) (cc := 5) ct_B_unify lk_U_load lm_B_ld_125 (c_U_ld (d := d) hta htb hwa hwb c6a c6b hap) rfl (fun I1 hI1 => ?_)
  generalize htt : (sl b).map (shv (if ap = 0 then 0 else 6)) = tt at *
  obtain ⟨f1, hF1, hn1, hQ1⟩ := hI1
  have har1 : hArt I1 = hArt I := hArt_eq (f1 3 (by omega))
  have hpr1 : hPr I1 = hPr I := hPr_eq (f1 4 (by omega))
  have hal1 : alf I1 := by
    unfold alf
    rw [f1 2 (by omega), f1 3 (by omega), f1 4 (by omega)]
    exact hal
  have hS1 : uS (hArt I) (I1 76) (uV (sl a) tt) (uT (hArt I) (sl a) tt) := by rw [← har1]; rw [← har1] at hF1; exact uS_of hF1
  have hv6 : 0 ≤ (if ap = 0 then (0 : Int) else 6) := by split <;> omega
  have wtt : f_wf (hArt I) 1 tt := by rw [← htt]; exact f_wf_map _ _ (hArt_shv I _ hv6) _ _ hwb.2.2
  have ltt : tt.length ≤ 100 := by rw [← htt, List.length_map]; exact hwb.1.2.1
  have hR1 : uR I1 (fun n => n) (fun _ => 0) 0 := fun n n0 n1 => by
    have := (hn1 n n0 n1).1
    exact ⟨by omega, fun _ => ⟨rfl, rfl⟩, fun h => absurd this h, Nat.le_refl _, n0, n1, this⟩
  have hN1 : uInv (hArt I1) (hPr I1) (I1 76) (uV (sl a) tt) (uT (hArt I) (sl a) tt) (sl a) tt (I1 79) (fun n => n) [(0, 100)] 0 := by
    rw [har1]
    exact uInv_0 hS1 hwa.2.2 wtt hwa.1.2.1 ltt (fun n n0 n1 => (hn1 n n0 n1).2)
  have l0 : 0 < (sl a).length := List.length_pos_iff.mpr (f_wf_ne _ hwa.2.2)
  have v0 : uV (sl a) tt 0 := Or.inl ⟨by omega, by omega⟩
  have e0 : uT (hArt I) (sl a) tt 0 = sl a := by unfold uT; rw [if_pos (by omega)]; exact f_s_0 _ hwa.2.2
  have e1 : uT (hArt I) (sl a) tt 100 = tt := by unfold uT; rw [if_neg (by omega)]; exact f_s_0 _ wtt
  refine sg_B_un_4 (k := ?_)
  refine sc_vE (as := [.inr (.inl _)]) (rest := []) (cc := 5) ct_B_unify lk_U_hasValues lm_B_hv_129 (c_U_hv (d := d) hF1 hal1 hR1 hQ1 hN1) rfl (fun r I2 hr => ?_)
  obtain ⟨f2, hr⟩ := hr
  rw [har1, hpr1] at hr
  have f12 : ∀ w, (w < 75 ∨ 83 < w) → I2 w = I w := fun w hw => by rw [f2 w (by omega), f1 w (by omega)]
  rcases hr with ⟨rfl, hno⟩ | ⟨rfl, rt, hh, q, P, K, hP0, hR2, hq2, hN2, hw2, hu2, hp2⟩
  · refine sg_B_un_n (k := ?_)
    exact sc_ret ct_B_unify ⟨_, rfl, Or.inl ⟨_, rfl, Or.inr ⟨hokz, hoka, hokb, 0, rfl, [], Or.inl ⟨rfl, hno⟩, fun w w1 w2 _ => f12 w w2, fun h => by omega⟩⟩⟩
  · refine sg_B_un_5 (k := ?_)
    rw [har1, hpr1] at hN2
    rw [hpr1] at hp2
    have e76 : I2 76 = I1 76 := f2 76 (by omega)
    have hF2 : uF I2 (uV (sl a) tt) (uT (hArt I) (sl a) tt) := uF_upd hF1 (by rw [f2 3 (by omega)]) e76 (f2 77 (by omega))
    have hbT : ∀ p, uV (sl a) tt p → ∀ d ∈ uT (hArt I) (sl a) tt p, -12 ≤ d := fun p hp d hd => ((hF1 p hp).2.2.2.2.2 d hd).1
    have hmgu : mgu (hArt I) (hPr I) (sl a) tt (th (I2 79) rt (uT (hArt I) (sl a) tt)) := th_mgu hS1 (fun c hc => by unfold hPr; simp; omega) hR2 hN2 hbT hw2 hu2 hp2 (hP0 _ List.mem_cons_self) e0 e1
    have hX : f_sub (th (I2 79) rt (uT (hArt I) (sl a) tt)) (sl a) = (f_sub (xp (fun c => I2 79 (rt (199 - c))) (uT (hArt I) (sl a) tt) 12) (uT (hArt I) (sl a) tt 0)).map (ren rt) := by
      rw [e0]
      exact f_sub_ren (fun c hc => (hwa.1.2.2.2 c hc).1)
    have hsv : ∀ c, -12 ≤ c → c < 0 → I2 79 (rt (199 - c)) = -1 ∨ (uV (sl a) tt (I2 79 (rt (199 - c))) ∧ 0 ≤ I2 76 (I2 79 (rt (199 - c)))) := fun c c0 c1 => by
      rw [e76]
      rcases (uInv_sv hS1 hR2 hN2 c0 c1).1 with h | h
      · exact Or.inl h
      · exact Or.inr ⟨h.1, h.2.1⟩
    have hrt : ∀ c, -12 ≤ c → c < 0 → I2 79 (rt (199 - c)) = -1 → 200 ≤ rt (199 - c) := fun c c0 c1 h => by
      have gc : gn (I1 76) (uV (sl a) tt) (199 - c) := Or.inl ⟨by omega, by omega⟩
      rcases hN2.2.1 _ gc with h1 | h1
      · exact h1.1
      · have := (hN2.2.2.2.1 _ h1.1 h1.2).1
        rw [pR_idem hR2 (by omega) (by omega)] at this
        exact absurd h this
    refine sc_vE (as := [.inr (.inl _), .inr (.inl _)]) (rest := []) (cc := 5) ct_B_unify lk_U_write lm_B_wr_133 (c_U_wr (d := d) hx hF2 v0 hR2 hq2 hT_57 hT_60 (by omega) hsv hrt hw2 hu2) rfl (fun r3 I3 hr3 => ?_)
    obtain ⟨f3, hr3⟩ := hr3
    rw [← hX] at hr3
    have hYl : (f_sub (xp (fun c => I2 79 (rt (199 - c))) (uT (hArt I) (sl a) tt) 12) (uT (hArt I) (sl a) tt 0)).length = (f_sub (th (I2 79) rt (uT (hArt I) (sl a) tt)) (sl a)).length := by rw [hX, List.length_map]
    rw [hYl] at hr3
    have f123 : ∀ w, (w < 57 ∨ 63 ≤ w) → (w < 75 ∨ 83 < w) → I3 w = I w := fun w w1 w2 => by rw [f3 w (by omega) (by omega) (by omega) (by omega) (by omega) (by omega), f12 w w2]
    rcases hr3 with ⟨rfl, hbig⟩ | ⟨rfl, hs1, hs2, hm3⟩
    · refine sg_B_un_l (k := ?_)
      exact sc_ret ct_B_unify ⟨_, rfl, Or.inl ⟨_, rfl, Or.inr ⟨hokz, hoka, hokb, -1, rfl, [], Or.inr ⟨_, hmgu, Or.inl ⟨rfl, hbig⟩⟩, fun w w1 w2 _ => f123 w w1 w2, fun h => by omega⟩⟩⟩
    · refine sg_B_un_6 (k := ?_)
      have har3 : hArt I3 = hArt I := hArt_eq (f123 3 (by omega) (by omega))
      have hal3 : alf I3 := by
        unfold alf
        rw [f123 2 (by omega) (by omega), f123 3 (by omega) (by omega), f123 4 (by omega) (by omega)]
        exact hal
      have hwf3 : f_wf (hArt I3) 1 (canon (f_sub (th (I2 79) rt (uT (hArt I) (sl a) tt)) (sl a))) := by
        rw [har3]
        exact f_wf_map _ _ (cv_ar I _) _ _ (f_sub_wf _ _ hS1.1 (fun c hc => (hmgu.1.1 c hc).1) _ 1 hwa.2.2)
      refine sc_vV (as := [.inr (.inl _)]) (rest := []) (cc := 2) ct_B_unify lk_T_findEnds lm_B_fe_109 (c_T_findEnds (d := d) hT_57 hm3 hal3 hwf3) rfl ?_
      have hw4 := tw_fp (I := I3) (t := 57) (by omega) (by omega) hm3 hwf3
      have hl4 := hw4.1.1
      have hb4 := hw4.1.2.1
      refine sg_B_un_7 (k := ?_)
      refine sc_vI (as := [.inl _, .inr (.inl _)]) (rest := []) (cc := 0) ct_B_unify lk_B_store lm_B_st_113 (c_B_st (d := d) hx hT_57 hokz'.1 hokz'.2 (by omega) (by omega) (by omega)) rfl ?_
      obtain ⟨w5, f5⟩ := tw_bc htz hT_57 (by omega) hw4
      refine sg_B_un_8 (k := ?_)
      refine sc_ret ct_B_unify ⟨_, rfl, Or.inl ⟨_, rfl, Or.inr ⟨hokz, hoka, hokb, 1, rfl, _, Or.inr ⟨_, hmgu, Or.inr ⟨rfl, hs1, hs2, rfl⟩⟩, fun w w1 w2 w3 => ?_, fun _ => w5⟩⟩⟩
      obtain ⟨g1, g2, g3⟩ := w3 rfl
      rw [f5 w g1 g2 g3]
      have : sFp I3 57 (canon (f_sub (th (I2 79) rt (uT (hArt I) (sl a) tt)) (sl a))) (-1) w = I3 w := by
        funext k
        unfold sFp
        rw [if_neg (fun h => by omega)]
      rw [this, f123 w w1 w2]
end CB4
