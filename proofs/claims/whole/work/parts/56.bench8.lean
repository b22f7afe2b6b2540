/-! TermBench: replace -/
section CB8
variable {l : Launch} {G : sG} {L x d : Nat} {I : sI}
theorem c_B_replace (hl : l.stackTraces = false) (hx : x ≠ 0) {sl : Int → List Int} (hal : alf I) (hs : hSl I sl) {z a p b : Int} (hz : sR z) (ha : sR a) (hp : sR p) (hb : sR b) : sCall l G mB_replace (sRm (d + 7) 5) [.inr (.inl 1), .inl z, .inl a, .inl p, .inl b] (hS L x I) (qO L x (fun r I' => (r = .inr 0 ∧ I' = I ∧ ¬ (okS z ∧ okS a ∧ okS b ∧ 0 ≤ p ∧ p < (sl a).length)) ∨ ((okS z ∧ okS a ∧ okS b ∧ 0 ≤ p ∧ p < (sl a).length) ∧ ((r = .inr 2 ∧ I' = I ∧ 100 < (spl (hArt I) (sl a) p.toNat (sl b)).length) ∨ ((spl (hArt I) (sl a) p.toNat (sl b)).length ≤ 100 ∧ r = .inl (spl (hArt I) (sl a) p.toNat (sl b)).length ∧ tw I' (6 + 3 * z.toNat) (spl (hArt I) (sl a) p.toNat (sl b)) ∧ ∀ w, (w < 60 ∨ 63 ≤ w) → w ≠ 6 + 3 * z.toNat → w ≠ 6 + 3 * z.toNat + 1 → w ≠ 6 + 3 * z.toNat + 2 → I' w = I w))))) := by
  refine sCall_of (by decide) (Nat.le_of_ble_eq_true rfl) (sV1s_c trivial (sV1s_c hz (sV1s_c ha (sV1s_c hp (sV1s_c hb sV1s_n))))) rfl ?_
  show sJ l G mB_replace (sRm (d + 7) 5) _ 0 (6 * 0) 0 [some (.inr (.inl 1)), some (.inl z), some (.inl a), some (.inl p), some (.inl b), none] [] (hSh L, hRF, I, x)
  refine sg_B_re_0 (k := ?_)
  refine sc_rs ct_B_replace hl hx hz (fun h => ⟨_, rfl, Or.inr ⟨0, rfl, Or.inl ⟨rfl, rfl, fun h2 => h h2.1⟩⟩⟩) (fun hokz => ?_)
  refine sg_B_re_1 (k := ?_)
  refine sc_rs ct_B_replace hl hx ha (fun h => ⟨_, rfl, Or.inr ⟨0, rfl, Or.inl ⟨rfl, rfl, fun h2 => h h2.2.1⟩⟩⟩) (fun hoka => ?_)
  refine sg_B_re_2 (k := ?_)
  refine sc_rs ct_B_replace hl hx hb (fun h => ⟨_, rfl, Or.inr ⟨0, rfl, Or.inl ⟨rfl, rfl, fun h2 => h h2.2.2.1⟩⟩⟩) (fun hokb => ?_)
  have hokz' := hokz
  have hoka' := hoka
  have hokb' := hokb
  unfold okS at hokz' hoka' hokb'
  have htz := hT_slot hokz'.1 hokz'.2
  have hta := hT_slot hoka'.1 hoka'.2
  have htb := hT_slot hokb'.1 hokb'.2
  have hwa := (hs a hoka).1
  have hwb := (hs b hokb).1
  have hwt := hwa.1.1
  have hwbt := hwb.1.1
  have h100 := hwa.1.2.1
  have b100 := hwb.1.2.1
  have lz := hT_lt htz
  have la := hT_lt hta
  have lb := hT_lt htb
  refine sg_B_re_3 (k := ?_)
  refine sc_s (as := [.inr (.inl _), .inl p]) (rest := []) (M2 := mB_requirePlace) (d2 := 6) (k2 := 1) ct_B_replace lk_B_requirePlace lm_B_rp_165 (c_B_rp (d := 0) hl hx hta hp) (fun w S' h => ?_) (fun n S' h => ?_)
  · obtain ⟨rfl, h | h⟩ := h
    · obtain ⟨h1, h2⟩ := h
      cases h1
      rw [hwt] at h2
      have he := tw_end hwa h2.1 h2.2
      have hsl := spl_len (hArt I) (ds := sl b) hwa.2.2 (show p.toNat < (sl a).length by omega)
      refine sg_B_re_4 (k := ?_)
      refine sc_vI (as := [.inl _]) (rest := [.inl _]) (cc := 2) ct_B_replace lk_T_weightAt lm_B_wa_169 (c_T_weightAt (d := d) hta h2.1 (by omega) (by omega) (by omega)) (by rw [(hT_k L hta).1]) ?_
      by_cases hbig : 100 < (spl (hArt I) (sl a) p.toNat (sl b)).length
      · refine sg_B_re_t (k := ?_)
        exact sc_ts "the term would be too heavy" ct_B_replace hl hx ⟨_, rfl, Or.inr ⟨2, rfl, Or.inr ⟨⟨hokz, hoka, hokb, h2⟩, Or.inl ⟨rfl, rfl, hbig⟩⟩⟩⟩
      · refine sg_B_re_5 (k := ?_)
        refine sc_vF (as := [.inr (.inl _), .inl _, .inr (.inl _)]) (rest := []) (cc := 0) ct_B_replace lk_B_splice lm_B_sp_174 (c_B_splice (d := d) hal hta htb (by omega) (by omega) hwa hwb.1 hwb.2.2 h2.1 h2.2 (by omega)) rfl (fun I1 hI1 => ?_)
        obtain ⟨w1, f1⟩ := hI1
        have hl1 := w1.1.1
        have hb1 := w1.1.2.1
        refine sg_B_re_6 (k := ?_)
        refine sc_vI (as := [.inl _, .inr (.inl _)]) (rest := []) (cc := 0) ct_B_replace lk_B_store lm_B_st_113 (c_B_st (d := d) hx hT_60 hokz'.1 hokz'.2 (by omega) (by omega) (by omega)) rfl ?_
        obtain ⟨w5, f5⟩ := tw_bc htz hT_60 (by omega) w1
        refine sc_ret ct_B_replace ⟨_, rfl, Or.inl ⟨_, rfl, Or.inr ⟨⟨hokz, hoka, hokb, h2⟩, Or.inr ⟨by omega, ?_, w5, fun w g1 g2 g3 g4 => ?_⟩⟩⟩⟩
        · rw [hl1]
        · rw [f5 w g2 g3 g4, f1 w (by omega) (by omega) (by omega)]
    · exact absurd h.1 (by simp)
  · obtain ⟨rfl, h | h⟩ := h
    · exact absurd h.1 (by simp)
    · obtain ⟨h1, h2⟩ := h
      cases h1
      rw [hwt] at h2
      exact ⟨rfl, _, rfl, Or.inr ⟨0, rfl, Or.inl ⟨rfl, rfl, fun h9 => h2 h9.2.2.2⟩⟩⟩
end CB8
