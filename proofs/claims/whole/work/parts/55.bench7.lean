/-! TermBench: splice, replace -/
theorem lm_B_wa_169 : sLm "TermBench" 169 mT_weightAt = true := by decide +kernel
theorem lm_B_sp_174 : sLm "TermBench" 174 mB_splice = true := by decide +kernel
section CB7
variable {l : Launch} {G : sG} {L x d : Nat} {I : sI}
theorem c_T_apW {t f : Nat} {b e : Int} {ws fs : List Int} (ht : hT t) (hf : hT f) (hne : t ≠ f) (hm : tm I t ws) (hmf : tm I f fs) (h0 : 0 ≤ b) (h1 : b ≤ e) (h2 : e ≤ fs.length) (hl : ws.length + (e - b) ≤ 100) :
    sCall l G mT_addPart (sRm (d + 1) 0) [.inr (.inl t), .inr (.inl f), .inl b, .inl e] (hS L x I) (qF L x (fun I' => frm I I' t ∧ tm I' t (ws ++ (fs.drop b.toNat).take (e - b).toNat))) := by
  have hw := hm.1
  have h100 := hmf.2.1
  refine sCall_mono (c_T_addPart ht hf hne h0 h1 (by omega) (by omega) (by omega) (fun k k0 k1 => by
    rw [tm_get hmf (by omega) (by omega)]
    have := hmf.2.2.2 _ (List.getElem_mem (show k.toNat < fs.length by omega))
    omega)) (fun r S' h => ?_)
  obtain ⟨h3, h4⟩ := h
  have hseg := sSeg_t hmf (p := b.toNat) (q := e.toNat) (by omega) (by omega)
  rw [show ((b.toNat : Nat) : Int) = b by omega, show e.toNat - b.toNat = (e - b).toNat by omega] at hseg
  rw [hseg] at h4
  refine ⟨_, h3, h4, fun w w1 w2 => sAp_ne w1 w2, tm_ap hm ?_ (fun c hc => hmf.2.2.2 c (List.mem_of_mem_drop (List.mem_of_mem_take hc)))⟩
  rw [List.length_append, List.length_take, List.length_drop]
  omega
theorem c_B_splice {t s : Nat} {p : Int} {cs ds : List Int} (hal : alf I) (ht : hT t) (hs : hT s) (htn : t ≠ 60) (hsn : s ≠ 60) (hc : tw I t cs) (hd : tm I s ds) (hdw : f_wf (hArt I) 1 ds) (h0 : 0 ≤ p) (h1 : p < cs.length) (hl : (spl (hArt I) cs p.toNat ds).length ≤ 100) :
    sCall l G mB_splice (sRm (d + 2) 0) [.inr (.inl 1), .inr (.inl t), .inl p, .inr (.inl s)] (hS L x I) (qF L x (fun I' => tw I' 60 (spl (hArt I) cs p.toNat ds) ∧ ∀ w, w ≠ 60 → w ≠ 61 → w ≠ 62 → I' w = I w)) := by
  have h100 := hc.1.2.1
  have d100 := hd.2.1
  refine sCall_of (by decide) (Nat.le_of_ble_eq_true rfl) (sV1s_c trivial (sV1s_c trivial (sV1s_c (sV1_i (by omega) (by omega)) (sV1s_c trivial sV1s_n)))) rfl ?_
  show sJ l G mB_splice (sRm (d + 2) 0) _ 0 (6 * 0) 0 [some (.inr (.inl 1)), some (.inr (.inl t)), some (.inl p), some (.inr (.inl s))] [] (hSh L, hRF, I, x)
  have lt := hT_lt ht
  have ls := hT_lt hs
  have n1 := hT_ne ht hT_60 htn
  have n2 := hT_ne hs hT_60 hsn
  have he := tw_end hc h0 h1
  have hsl := spl_len (hArt I) (ds := ds) hc.2.2 (show p.toNat < cs.length by omega)
  refine sg_B_sp_0 (k := ?_)
  have hz0 : ∀ w, w ≠ 60 → sU I 60 2 0 w = I w := fun w h => sU_ne h
  have hm0 : tm (sU I 60 2 0) 60 [] := ⟨sU_self _ _ _ _, Nat.zero_le _, fun k hk => (by cases hk), fun c hc => (by cases hc)⟩
  refine sc_vF (as := [.inr (.inl _), .inl _, .inl _]) (rest := []) (cc := 2) ct_B_splice lk_T_addPart lm_B_ap_161 (c_T_apW (d := d) hT_60 ht (fun h => htn h.symm) hm0 (tm_upd hc.1 (hz0 _ (by omega)) (hz0 _ (by omega))) (by omega) h0 (by omega) (by simp; omega)) rfl (fun I1 hI1 => ?_)
  obtain ⟨f1, m1⟩ := hI1
  have z1 : ∀ w, w ≠ 60 → w ≠ 61 → I1 w = I w := fun w h1 h2 => by rw [f1 w h1 h2, hz0 w h1]
  have es : I1 s 2 = ds.length := by rw [z1 s (by omega) (by omega)]; exact hd.1
  refine sg_B_sp_1 (k := ?_)
  have hlm1 : ([] ++ (cs.drop (0 : Int).toNat).take (p - 0).toNat).length = p.toNat := by simp; omega
  refine sc_vF (as := [.inr (.inl _), .inl _, .inl _]) (rest := []) (cc := 2) ct_B_splice lk_T_addPart lm_B_ap_161 (c_T_apW (d := d) hT_60 hs (fun h => hsn h.symm) m1 (tm_upd hd (z1 _ (by omega) (by omega)) (z1 _ (by omega) (by omega))) (by omega) (by omega) (by omega) (by rw [hlm1]; omega)) rfl (fun I2 hI2 => ?_)
  obtain ⟨f2, m2⟩ := hI2
  have z2 : ∀ w, w ≠ 60 → w ≠ 61 → I2 w = I w := fun w h1 h2 => by rw [f2 w h1 h2, z1 w h1 h2]
  have et : I2 t 2 = cs.length := by rw [z2 t (by omega) (by omega)]; exact hc.1.1
  have ee : I2 (t + 2) p = I (t + 2) p := by rw [z2 (t + 2) (by omega) (by omega)]
  refine sg_B_sp_2 (k := ?_)
  have hlm2 : ([] ++ (cs.drop (0 : Int).toNat).take (p - 0).toNat ++ (ds.drop (0 : Int).toNat).take (I1 s 2 - 0).toNat).length = p.toNat + ds.length := by rw [List.length_append, hlm1, es]; simp
  refine sc_vF (as := [.inr (.inl _), .inl _, .inl _]) (rest := []) (cc := 2) ct_B_splice lk_T_addPart lm_B_ap_161 (c_T_apW (d := d) hT_60 ht (fun h => htn h.symm) m2 (tm_upd hc.1 (z2 _ (by omega) (by omega)) (z2 _ (by omega) (by omega))) (by omega) (by omega) (by omega) (by rw [hlm2]; omega)) rfl (fun I3 hI3 => ?_)
  obtain ⟨f3, m3⟩ := hI3
  have z3 : ∀ w, w ≠ 60 → w ≠ 61 → I3 w = I w := fun w h1 h2 => by rw [f3 w h1 h2, z2 w h1 h2]
  have hrow : [] ++ (cs.drop (0 : Int).toNat).take (p - 0).toNat ++ (ds.drop (0 : Int).toNat).take (I1 s 2 - 0).toNat ++ (cs.drop (I2 (t + 2) p).toNat).take (I2 t 2 - I2 (t + 2) p).toNat = spl (hArt I) cs p.toNat ds := by
    unfold spl
    rw [ee, et, es, List.nil_append, List.append_assoc, show (0 : Int).toNat = 0 from rfl, List.drop_zero, List.drop_zero, show (p - 0).toNat = p.toNat by omega, List.take_of_length_le (l := ds) (by omega), List.take_of_length_le (l := cs.drop (I (t + 2) p).toNat) (by rw [List.length_drop]; omega), show (I (t + 2) p).toNat = p.toNat + f_tk (hArt I) 1 (cs.drop p.toNat) by omega]
  rw [hrow] at m3
  have hal3 : alf I3 := by
    unfold alf
    rw [z3 2 (by omega) (by omega), z3 3 (by omega) (by omega), z3 4 (by omega) (by omega)]
    exact hal
  have hwf : f_wf (hArt I3) 1 (spl (hArt I) cs p.toNat ds) := by
    rw [hArt_eq (z3 3 (by omega) (by omega))]
    exact spl_wf _ hc.2.2 (by omega) hdw
  refine sg_B_sp_3 (k := ?_)
  refine sc_vV (as := [.inr (.inl _)]) (rest := []) (cc := 2) ct_B_splice lk_T_findEnds lm_B_fe_109 (c_T_findEnds (d := d) hT_60 m3 hal3 hwf) rfl ?_
  refine sc_retV ct_B_splice ⟨_, rfl, rfl, tw_fp (by omega) (by omega) m3 hwf, fun w w1 w2 w3 => ?_⟩
  have : sFp I3 60 (spl (hArt I) cs p.toNat ds) (-1) w = I3 w := by
    funext k
    unfold sFp
    rw [if_neg (fun h => by omega)]
  rw [this, z3 w w1 w2]
end CB7
