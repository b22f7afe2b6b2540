/-! TermBench: terms after findEnds and store; match, bound -/
theorem lm_B_fe_109 : sLm "TermBench" 109 mT_findEnds = true := by decide +kernel
theorem lm_B_st_113 : sLm "TermBench" 113 mB_store = true := by decide +kernel
theorem lm_B_fi_137 : sLm "TermBench" 137 mV_find = true := by decide +kernel
theorem lm_B_vb_141 : sLm "TermBench" 141 mV_become = true := by decide +kernel
theorem tw_fp {I : sI} {t : Nat} {cs : List Int} (h3 : 3 ≠ t + 2) (h0 : t ≠ t + 2) (h : tm I t cs) (hw : f_wf (hArt I) 1 cs) : tw (sFp I t cs (-1)) t cs := by
  have hz : ∀ z, z ≠ t + 2 → sFp I t cs (-1) z = I z := fun z hz => by
    funext k
    unfold sFp
    rw [if_neg (fun h => hz h.1)]
  have har : hArt (sFp I t cs (-1)) = hArt I := hArt_eq (hz 3 h3)
  refine ⟨tm_upd h (hz t h0) (hz (t + 1) (by omega)), fun k hk => ?_, by rw [har]; exact hw⟩
  rw [har]
  unfold sFp
  rw [if_pos ⟨rfl, by omega, by omega⟩]
  rfl
theorem tw_bc {I : sI} {s t : Nat} {cs : List Int} (hs : hT s) (ht : hT t) (hst : s ≠ t) (h : tw I t cs) : tw (sBc I s t) s cs ∧ ∀ z, z ≠ s → z ≠ s + 1 → z ≠ s + 2 → sBc I s t z = I z := by
  have n1 := hT_ne hs ht hst
  have l1 := hT_lt hs
  have l2 := hT_lt ht
  have hz : ∀ z, z ≠ s → z ≠ s + 1 → z ≠ s + 2 → sBc I s t z = I z := fun z z1 z2 z3 => by
    unfold sBc
    rw [sU_ne z1, sCp_ne z3, sCp_ne z2]
  have har : hArt (sBc I s t) = hArt I := hArt_eq (hz 3 (by omega) (by omega) (by omega))
  refine ⟨⟨tm_bc hst (by omega) (by omega) (by omega) h.1, fun k hk => ?_, by rw [har]; exact h.2.2⟩, hz⟩
  rw [har, ← h.2.1 k hk]
  have hw := h.1.1
  unfold sBc
  rw [sU_ne (by omega)]
  show sCp _ (s + 2) (t + 2) (I t 2) (s + 2) k = _
  unfold sCp
  rw [if_pos ⟨rfl, by omega, by omega⟩, if_neg (fun h => by omega)]
section CB3
variable {l : Launch} {G : sG} {L x d : Nat} {I : sI}
/-- the answer of match, on rows: the values are places of the subject -/
def maP (I : sI) (ps ss : List Int) (b : Nat) : Int → sI → Prop := fun v I' => (v = 0 ∧ mf (hArt I) (hPr I) ss ps 0 (fun _ => -1) = none ∧ ∀ z, z ≠ 67 → I' z = I z) ∨ (v = 1 ∧ ∃ e bb, mf (hArt I) (hPr I) ss ps 0 (fun _ => -1) = some (e, bb) ∧ bOk bb ss.length ∧ (∀ k, 0 ≤ k → k < 6 → I' 69 k = bb k) ∧ tw I' 70 ss ∧ ∀ z, z ≠ 67 → z ≠ 69 → z ≠ 70 → z ≠ 71 → z ≠ 72 → I' z = I z)
theorem c_B_match (hl : l.stackTraces = false) (hx : x ≠ 0) {sl : Int → List Int} (hs : hSl I sl) {a b : Int} (ha : sR a) (hb : sR b) : sCall l G mB_match (sRm (d + 7) 2) [.inr (.inl 1), .inl a, .inl b] (hS L x I) (qO L x (fun r I' => (r = .inr 0 ∧ I' = I ∧ ¬ (okS a ∧ okS b)) ∨ (okS a ∧ okS b ∧ ∃ v, r = .inl v ∧ maP I (sl a) (sl b) 0 v I'))) := by
  refine sCall_of (by decide) (Nat.le_of_ble_eq_true rfl) (sV1s_c trivial (sV1s_c ha (sV1s_c hb sV1s_n))) rfl ?_
  show sJ l G mB_match (sRm (d + 7) 2) _ 0 (6 * 0) 0 [some (.inr (.inl 1)), some (.inl a), some (.inl b)] [] (hSh L, hRF, I, x)
  refine sg_B_ma_0 (k := ?_)
  refine sc_rs ct_B_match hl hx ha (fun h => ⟨_, rfl, Or.inr ⟨0, rfl, Or.inl ⟨rfl, rfl, fun h2 => h h2.1⟩⟩⟩) (fun hoka => ?_)
  refine sg_B_ma_1 (k := ?_)
  refine sc_rs ct_B_match hl hx hb (fun h => ⟨_, rfl, Or.inr ⟨0, rfl, Or.inl ⟨rfl, rfl, fun h2 => h h2.2⟩⟩⟩) (fun hokb => ?_)
  have hoka' := hoka
  have hokb' := hokb
  unfold okS at hoka' hokb'
  have hta := hT_slot hoka'.1 hoka'.2
  have htb := hT_slot hokb'.1 hokb'.2
  have hwa := (hs a hoka).1
  have hwb := (hs b hokb).1
  have hl1 := hT_lt hta
  have hl2 := hT_lt htb
  have kb0 : 0 < (sl b).length := List.length_pos_iff.mpr (f_wf_ne _ hwb.2.2)
  have c6a : ∀ c ∈ sl a, -6 ≤ c := fun c hc => ((hs a hoka).2 c hc).1
  refine sg_B_ma_2 (k := ?_)
  refine sc_vE (as := [.inr (.inl _), .inr (.inl _), .inl _, .inr (.inl _)]) (rest := []) (cc := 3) ct_B_match lk_V_find lm_B_fi_137 (c_V_find (d := d) hta htb hwa.1 c6a hwb (by omega) (by omega)) rfl (fun r I1 hr => ?_)
  obtain ⟨hI1, hr⟩ := hr
  rcases hr with ⟨rfl, hm⟩ | ⟨rfl, e, bb, hm, hbo, hbb⟩
  · refine sg_B_ma_n (k := ?_)
    exact sc_retZ ct_B_match ⟨_, rfl, Or.inl ⟨_, rfl, Or.inr ⟨hoka, hokb, 0, rfl, Or.inl ⟨rfl, hm, hI1⟩⟩⟩⟩
  · refine sg_B_ma_3 (k := ?_)
    refine sc_vV (as := [.inr (.inl _)]) (rest := []) (cc := 3) ct_B_match lk_V_become lm_B_vb_141 (c_V_become (d := d) hx) rfl ?_
    refine sg_B_ma_4 (k := ?_)
    have hz : ∀ z, z ≠ 67 → z ≠ 69 → sCp I1 69 67 6 z = I z := fun z z1 z2 => by rw [sCp_ne z2, hI1 z z1]
    have hwb2 : tw (sCp I1 69 67 6) (6 + 3 * b.toNat) (sl b) := tw_upd hwb (hz _ (by omega) (by omega)) (hz _ (by omega) (by omega)) (hz _ (by omega) (by omega)) (hz _ (by omega) (by omega))
    have hwl := hwb2.1.1
    have h100 := hwb2.1.2.1
    refine sc_vV (as := [.inr (.inl _)]) (rest := []) (cc := 2) ct_B_match lk_T_become lm_B_bc_145 (c_T_become (d := d) hx hT_70 htb (by omega) (by omega) (by omega)) rfl ?_
    refine sg_B_ma_5 (k := ?_)
    obtain ⟨w1, w2⟩ := tw_bc hT_70 htb (by omega) hwb2
    refine sc_retZ ct_B_match ⟨_, rfl, Or.inl ⟨_, rfl, Or.inr ⟨hoka, hokb, 1, rfl, Or.inr ⟨rfl, e, bb, hm, hbo, fun k k0 k1 => ?_, w1, fun z z1 z2 z3 z4 z5 => ?_⟩⟩⟩⟩
    · rw [w2 69 (by omega) (by omega) (by omega), ← hbb k k0 k1]
      unfold sCp
      rw [if_pos ⟨rfl, k0, k1⟩]
    · rw [w2 z z3 z4 z5, hz z z1 z2]
end CB3
