/-! TermBench: rewrite -/
theorem lm_B_va_178 : sLm "TermBench" 178 mT_variables = true := by decide +kernel
theorem lm_B_rf_182 : sLm "TermBench" 182 mB_rewriteFirstPlace = true := by decide +kernel
theorem vb_sub {u w : List Int} (hu : ∀ c ∈ u, -6 ≤ c) (hw : ∀ c ∈ w, -6 ≤ c) : ((Int32.ofInt (vb u : Nat) &&& Int32.ofInt (Int32.ofInt (vb w : Nat) ^^^ Int32.ofInt (-1)).toInt).toInt = 0) ↔ ∀ c ∈ u, c < 0 → c ∈ w := by
  rw [vb_no _ (vb_lt hu) _ (vb_lt hw)]
  constructor
  · intro h c hc hn
    have h6 := hu c hc
    have h1 := h (-1 - c).toNat (by omega)
    rw [vb_tb u _ (by omega) hu, vb_tb w _ (by omega) hw, show -1 - (((-1 - c).toNat : Nat) : Int) = c by omega] at h1
    exact h1 hc
  · intro h k hk
    rw [vb_tb u k hk hu, vb_tb w k hk hw]
    exact fun h1 => h _ h1 (by omega)
section CB12
variable {l : Launch} {G : sG} {L x d : Nat} {I : sI}
theorem c_B_rewrite (hl : l.stackTraces = false) (hx : x ≠ 0) {sl : Int → List Int} (hal : alf I) (hs : hSl I sl) (hnr : 0 ≤ I 1 12 ∧ I 1 12 ≤ 1000000) {z a b w : Int} (hz : sR z) (ha : sR a) (hb : sR b) (hw : sR w) : sCall l G mB_rewrite (sRm (d + 7) 4) [.inr (.inl 1), .inl z, .inl a, .inl b, .inl w] (hS L x I) (qO L x (fun r I' => (r = .inr 0 ∧ I' = I ∧ ¬ (okS z ∧ okS a ∧ okS b ∧ okS w)) ∨ ((okS z ∧ okS a ∧ okS b ∧ okS w) ∧ ∃ n o, rwR (hArt I) (hPr I) (sl b) (sl w) 60 (sl a) n o ∧ r = .inl (n : Nat) ∧ tw I' (6 + 3 * z.toNat) o ∧ (∀ j, j ≠ 12 → I' 1 j = I 1 j) ∧ I' 1 12 = I 1 12 + n ∧ ∀ q, (q < 57 ∨ 66 ≤ q) → q ≠ 67 → q ≠ 74 → q ≠ 1 → q ≠ 6 + 3 * z.toNat → q ≠ 6 + 3 * z.toNat + 1 → q ≠ 6 + 3 * z.toNat + 2 → I' q = I q))) := by
  refine sCall_of (by decide) (Nat.le_of_ble_eq_true rfl) (sV1s_c trivial (sV1s_c hz (sV1s_c ha (sV1s_c hb (sV1s_c hw sV1s_n))))) rfl ?_
  generalize hQ : (qO L x (fun r I' => (r = .inr 0 ∧ I' = I ∧ ¬ (okS z ∧ okS a ∧ okS b ∧ okS w)) ∨ ((okS z ∧ okS a ∧ okS b ∧ okS w) ∧ ∃ n o, rwR (hArt I) (hPr I) (sl b) (sl w) 60 (sl a) n o ∧ r = .inl (n : Nat) ∧ tw I' (6 + 3 * z.toNat) o ∧ (∀ j, j ≠ 12 → I' 1 j = I 1 j) ∧ I' 1 12 = I 1 12 + n ∧ ∀ q, (q < 57 ∨ 66 ≤ q) → q ≠ 67 → q ≠ 74 → q ≠ 1 → q ≠ 6 + 3 * z.toNat → q ≠ 6 + 3 * z.toNat + 1 → q ≠ 6 + 3 * z.toNat + 2 → I' q = I q))) = Q
  show sJ l G mB_rewrite (sRm (d + 7) 4) Q 0 (6 * 0) 0 [some (.inr (.inl 1)), some (.inl z), some (.inl a), some (.inl b), some (.inl w), none, none, none] [] (hSh L, hRF, I, x)
  have thr : ¬ (okS z ∧ okS a ∧ okS b ∧ okS w) → Q (.inr 0) (hS L x I) := fun h => by rw [← hQ]; exact ⟨_, rfl, Or.inr ⟨0, rfl, Or.inl ⟨rfl, rfl, h⟩⟩⟩
  refine sg_B_rw_0 (k := ?_)
  refine sc_rs ct_B_rewrite hl hx hz (fun h => thr (fun h2 => h h2.1)) (fun hokz => ?_)
  refine sg_B_rw_1 (k := ?_)
  refine sc_rs ct_B_rewrite hl hx ha (fun h => thr (fun h2 => h h2.2.1)) (fun hoka => ?_)
  refine sg_B_rw_2 (k := ?_)
  refine sc_rs ct_B_rewrite hl hx hb (fun h => thr (fun h2 => h h2.2.2.1)) (fun hokb => ?_)
  refine sg_B_rw_3 (k := ?_)
  refine sc_rs ct_B_rewrite hl hx hw (fun h => thr (fun h2 => h h2.2.2.2)) (fun hokw => ?_)
  have hokz' := hokz
  have hoka' := hoka
  have hokb' := hokb
  have hokw' := hokw
  unfold okS at hokz' hoka' hokb' hokw'
  have htz := hT_slot hokz'.1 hokz'.2
  have hta := hT_slot hoka'.1 hoka'.2
  have htb := hT_slot hokb'.1 hokb'.2
  have htw := hT_slot hokw'.1 hokw'.2
  have hwa := (hs a hoka).1
  have hwb := (hs b hokb).1
  have hww := (hs w hokw).1
  have c6a : ∀ c ∈ sl a, -6 ≤ c := fun c hc => ((hs a hoka).2 c hc).1
  have c6b : ∀ c ∈ sl b, -6 ≤ c := fun c hc => ((hs b hokb).2 c hc).1
  have c6w : ∀ c ∈ sl w, -6 ≤ c := fun c hc => ((hs w hokw).2 c hc).1
  have la1 := hwa.1.1
  have la2 := hwa.1.2.1
  have hv : ∀ c, c < 0 → hArt I c = 0 := fun c hc => by unfold hArt; rw [if_pos hc]
  refine sg_B_rw_4 (k := ?_)
  refine sc_vV (as := [.inr (.inl _)]) (rest := []) (cc := 2) ct_B_rewrite lk_T_become lm_B_bc_145 (c_T_become (d := d) hx hT_57 hta (by omega) (by omega) (by omega)) rfl ?_
  obtain ⟨w1, f1⟩ := tw_bc hT_57 hta (by omega) hwa
  generalize hI1 : sBc I 57 (6 + 3 * a.toNat) = I1 at w1 f1 ⊢
  have f1' : ∀ q, (q < 57 ∨ 66 ≤ q) → q ≠ 67 → q ≠ 74 → I1 q = I q := fun q h _ _ => f1 q (by omega) (by omega) (by omega)
  refine sg_B_rw_5 (k := ?_)
  have m1w : tm I1 (6 + 3 * w.toNat) (sl w) := tm_upd hww.1 (f1 _ (by omega) (by omega) (by omega)) (f1 _ (by omega) (by omega) (by omega))
  have m1b : tm I1 (6 + 3 * b.toNat) (sl b) := tm_upd hwb.1 (f1 _ (by omega) (by omega) (by omega)) (f1 _ (by omega) (by omega) (by omega))
  refine sc_vI (as := []) (rest := []) (cc := 2) ct_B_rewrite lk_T_variables lm_B_va_178 (c_T_vars (d := d) htw m1w c6w) (by rw [(hT_k L htw).1]) ?_
  refine sg_B_rw_6 (k := ?_)
  refine sc_vI (as := []) (rest := [.inl _]) (cc := 2) ct_B_rewrite lk_T_variables lm_B_va_178 (c_T_vars (d := d) htb m1b c6b) (by rw [(hT_k L htb).1]) ?_
  have done : ∀ (κ n : Nat) (o : List Int) (I2 : sI), κ ≤ 4 → n ≤ 60 → rwR (hArt I) (hPr I) (sl b) (sl w) 60 (sl a) n o → tw I2 57 o → (∀ q, (q < 57 ∨ 66 ≤ q) → q ≠ 67 → q ≠ 74 → I2 q = I q) →
      sJ l G mB_rewrite (sRm (d + 7) 4) Q κ (6 * κ) 49 [some (.inr (.inl 1)), some (.inl z), some (.inl a), some (.inl b), some (.inl w), some (.inr (.inl (6 + 3 * b.toNat))), some (.inr (.inl (6 + 3 * w.toNat))), some (.inl (n : Int))] [.inr (.inl 57), .inl z, .inr (.inl 1)] (hSh L, hRF, I2, x) := by
    intro κ n o I2 hκ hn hrw hw2 f2
    have l1 := hw2.1.1
    have l2 := hw2.1.2.1
    refine sc_vI (as := [.inl _, .inr (.inl _)]) (rest := []) (cc := 0) ct_B_rewrite lk_B_store lm_B_st_113 (c_B_st (d := d) hx hT_57 hokz'.1 hokz'.2 (by omega) (by omega) (by omega)) rfl ?_
    obtain ⟨w3, f3⟩ := tw_bc htz hT_57 (by omega) hw2
    have e12 : sBc I2 (6 + 3 * z.toNat) 57 1 12 = I 1 12 := by rw [f3 1 (by omega) (by omega) (by omega), f2 1 (by omega) (by omega) (by omega)]
    refine sg_B_rw_z (k := ?_)
    rw [← hQ]
    refine sc_ret ct_B_rewrite ⟨_, rfl, Or.inl ⟨_, rfl, Or.inr ⟨⟨hokz, hoka, hokb, hokw⟩, n, o, hrw, rfl, tw_upd w3 (sU_ne (by omega)) (sU_ne (by omega)) (sU_ne (by omega)) (sU_ne (by omega)), fun j hj => ?_, ?_, fun q g1 g2 g3 g4 g5 g6 g7 => ?_⟩⟩⟩
    · rw [hU_nj hj, f3 1 (by omega) (by omega) (by omega), f2 1 (by omega) (by omega) (by omega)]
    · rw [hU_eq, e12]
    · rw [sU_ne g4, f3 q g5 g6 g7, f2 q g1 g2 g3]
  by_cases hsub : ∀ c ∈ sl w, c < 0 → c ∈ sl b
  · have htest := (vb_sub c6w c6b).mpr hsub
    refine sg_B_rw_y (k := ?_)
    have steps : ∀ (f κ n : Nat) (ss : List Int) (I2 : sI), f + n = 60 → κ ≤ 4 → tw I2 57 ss → (∀ c ∈ ss, -6 ≤ c) → (∀ q, (q < 57 ∨ 66 ≤ q) → q ≠ 67 → q ≠ 74 → I2 q = I q) → (∀ m o, rwR (hArt I) (hPr I) (sl b) (sl w) f ss m o → rwR (hArt I) (hPr I) (sl b) (sl w) 60 (sl a) (n + m) o) →
        sJ l G mB_rewrite (sRm (d + 7) 4) Q κ (6 * κ) 35 [some (.inr (.inl 1)), some (.inl z), some (.inl a), some (.inl b), some (.inl w), some (.inr (.inl (6 + 3 * b.toNat))), some (.inr (.inl (6 + 3 * w.toNat))), some (.inl (n : Int))] [] (hSh L, hRF, I2, x) := by
      intro f
      induction f with
      | zero =>
        intro κ n ss I2 hf hκ hw2 h6 f2 hrw
        refine sg_B_rw_x (k := ?_)
        exact done κ n ss I2 hκ (by omega) (hrw 0 ss ⟨rfl, rfl⟩) hw2 f2
      | succ f ihf =>
        intro κ n ss I2 hf hκ hw2 h6 f2 hrw
        have e3 : I2 3 = I 3 := f2 3 (by omega) (by omega) (by omega)
        have e4 : I2 4 = I 4 := f2 4 (by omega) (by omega) (by omega)
        have har : hArt I2 = hArt I := hArt_eq e3
        have hpr : hPr I2 = hPr I := hPr_eq e4
        have hal2 : alf I2 := by
          unfold alf
          rw [f2 2 (by omega) (by omega) (by omega), e3, e4]
          exact hal
        have m2w : tm I2 (6 + 3 * w.toNat) (sl w) := tm_upd hww.1 (f2 _ (by omega) (by omega) (by omega)) (f2 _ (by omega) (by omega) (by omega))
        have m2b : tm I2 (6 + 3 * b.toNat) (sl b) := tm_upd hwb.1 (f2 _ (by omega) (by omega) (by omega)) (f2 _ (by omega) (by omega) (by omega))
        have hsw : f_wf (hArt I) 1 ss := by rw [← har]; exact hw2.2.2
        refine sg_B_rw_c (k := ?_)
        refine sc_vE (as := [.inr (.inl _), .inr (.inl _)]) (rest := []) (cc := 0) ct_B_rewrite lk_B_rewriteFirstPlace lm_B_rf_182 (c_B_rf (d := d) hx hal2 htb htw (by omega) (by omega) m2b c6b m2w c6w (by rw [har]; exact hww.2.2) hw2 h6 hsub) rfl (fun r I3 hr => ?_)
        obtain ⟨f3, hr⟩ := hr
        rw [har, hpr] at hr
        have f4 : ∀ q, (q < 57 ∨ 66 ≤ q) → q ≠ 67 → q ≠ 74 → I3 q = I q := fun q g1 g2 g3 => by rw [f3 q g1 g2 g3, f2 q g1 g2 g3]
        rcases hr with ⟨rfl, w3, hno⟩ | ⟨rfl, p, bv, hp, hno, hap, w3⟩
        · refine sg_B_rw_e (k := ?_)
          exact done κ n ss I3 hκ (by omega) (hrw 0 ss (Or.inl ⟨rfl, rfl, fun p bb hp h => hno p bb hp h.1⟩)) w3 f4
        · refine sg_B_rw_m (k := ?_)
          have hapx : apX (hArt I) (hPr I) (sl b) (sl w) ss p bv := ⟨hap, fun c hc hn => by
            obtain ⟨e, he, -⟩ := hap
            exact (mf_dom _ _ _ _ _ _ _ _ he).2 c (hsub c hc hn) hn⟩
          obtain ⟨o1, o2, o3, o4⟩ := apX_ok hv hww.2.2 hsw hp hapx (apX_bb hapx)
          refine ihf κ (n + 1) _ I3 (by omega) hκ w3 (fun c hc => ?_) f4 (fun m o h => ?_)
          · rcases o4 c hc with h | h
            · exact h6 c h
            · exact c6w c h
          · rw [show n + 1 + m = n + (m + 1) by omega]
            exact hrw (m + 1) o (Or.inr ⟨p, bv, m, hp, fun q b2 h' h2 => hno q b2 h' h2.1, hapx, rfl, h⟩)
    exact steps 60 _ 0 (sl a) I1 rfl (by omega) w1 c6a f1' (fun m o h => by rw [Nat.zero_add]; exact h)
  · have htest : ¬ ((Int32.ofInt (vb (sl w) : Nat) &&& Int32.ofInt (Int32.ofInt (vb (sl b) : Nat) ^^^ Int32.ofInt (-1)).toInt).toInt = 0) := fun h => hsub ((vb_sub c6w c6b).mp h)
    refine sg_B_rw_n (k := ?_)
    refine done _ 0 (sl a) I1 (by omega) (by omega) (rwR_no (fun ss p bb h => ?_) 60 (sl a)) w1 f1'
    refine hsub (fun c hc hn => ?_)
    by_cases hcl : c ∈ sl b
    · exact hcl
    · exact absurd h (apX_no hc hn hcl p bb)
end CB12
