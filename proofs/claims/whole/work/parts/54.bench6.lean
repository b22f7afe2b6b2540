/-! TermBench: bound, splice -/
theorem lm_B_has_148 : sLm "TermBench" 148 mV_has = true := by decide +kernel
theorem lm_B_ap_161 : sLm "TermBench" 161 mT_addPart = true := by decide +kernel
theorem f_cutp (ar : Int → Nat) : ∀ (l : List Int) (k p : Nat), f_wf ar k l → p ≤ l.length → ∃ m, f_wf ar m (l.drop p) ∧ ∀ r, f_wf ar m r → f_wf ar k (l.take p ++ r) := by
  intro l
  induction l with
  | nil =>
    intro k p h hp
    refine ⟨k, by rw [List.drop_nil]; exact h, fun r hr => by rw [List.take_nil]; exact hr⟩
  | cons c l ih =>
    intro k p h hp
    cases p with
    | zero => exact ⟨k, h, fun r hr => hr⟩
    | succ p =>
      cases k with
      | zero => rw [f_wf_0] at h; cases h
      | succ k =>
        rw [f_wf_c] at h
        obtain ⟨m, h1, h2⟩ := ih _ p h (by rw [List.length_cons] at hp; omega)
        exact ⟨m, h1, fun r hr => by rw [List.take_succ_cons, List.cons_append, f_wf_c]; exact h2 r hr⟩
/-- a term with another at a place -/
def spl (ar : Int → Nat) (cs : List Int) (p : Nat) (ds : List Int) : List Int := cs.take p ++ (ds ++ cs.drop (p + f_tk ar 1 (cs.drop p)))
theorem spl_wf (ar : Int → Nat) {cs ds : List Int} {k p : Nat} (h : f_wf ar k cs) (hp : p < cs.length) (hd : f_wf ar 1 ds) : f_wf ar k (spl ar cs p ds) := by
  obtain ⟨m, h1, h2⟩ := f_cutp ar cs k p h (by omega)
  refine h2 _ ?_
  cases m with
  | zero =>
    rw [f_wf_0] at h1
    have := congrArg List.length h1
    rw [List.length_drop] at this
    simp at this
    omega
  | succ m =>
    rw [Nat.add_comm] at h1 ⊢
    have := (f_split ar _ 1 m h1).2
    rw [List.drop_drop] at this
    exact f_wf_app ar _ _ 1 m hd this
theorem spl_len (ar : Int → Nat) {cs ds : List Int} {k p : Nat} (h : f_wf ar k cs) (hp : p < cs.length) : (spl ar cs p ds).length + f_tk ar 1 (cs.drop p) = cs.length + ds.length := by
  have := f_s_pos ar h hp
  unfold spl
  rw [List.length_append, List.length_append, List.length_take, List.length_drop]
  omega
theorem sSeg_t {I : sI} {t : Nat} {cs : List Int} (h : tm I t cs) {p q : Nat} (h1 : p ≤ q) (h2 : q ≤ cs.length) : sSeg I (t + 1) p (q - p) = (cs.drop p).take (q - p) := by
  refine List.ext_getElem? (fun i => ?_)
  by_cases hi : i < q - p
  · rw [sSeg_get _ _ _ _ _ hi, List.getElem?_take_of_lt hi, List.getElem?_drop, List.getElem?_eq_getElem (by omega)]
    have := h.2.2.1 (p + i) (by omega)
    rw [← this]
    congr 2
  · rw [List.getElem?_eq_none (by rw [sSeg_len]; omega), List.getElem?_eq_none (by rw [List.length_take]; omega)]
section CB6
variable {l : Launch} {G : sG} {L x d : Nat} {I : sI}
theorem c_B_bound (hl : l.stackTraces = false) (hx : x ≠ 0) (hal : alf I) {a v : Int} {sub : List Int} (ha : sR a) (hv : sR v) (hw : tw I 70 sub) (hbo : bOk (I 69) sub.length) : sCall l G mB_bound (sRm (d + 7) 2) [.inr (.inl 1), .inl a, .inl v] (hS L x I) (qO L x (fun r I' => (r = .inr 0 ∧ I' = I ∧ ¬ (okS a ∧ 0 ≤ v ∧ v < 6 ∧ I 69 v ≠ -1)) ∨ (okS a ∧ (0 ≤ v ∧ v < 6 ∧ I 69 v ≠ -1) ∧ r = .inl (f_s (hArt I) sub (I 69 v).toNat).length ∧ tw I' (6 + 3 * a.toNat) (f_s (hArt I) sub (I 69 v).toNat) ∧ ∀ w, (w < 60 ∨ 63 ≤ w) → w ≠ 6 + 3 * a.toNat → w ≠ 6 + 3 * a.toNat + 1 → w ≠ 6 + 3 * a.toNat + 2 → I' w = I w))) := by
  refine sCall_of (by decide) (Nat.le_of_ble_eq_true rfl) (sV1s_c trivial (sV1s_c ha (sV1s_c hv sV1s_n))) rfl ?_
  show sJ l G mB_bound (sRm (d + 7) 2) _ 0 (6 * 0) 0 [some (.inr (.inl 1)), some (.inl a), some (.inl v), none] [] (hSh L, hRF, I, x)
  refine sg_B_bo_0 (k := ?_)
  refine sc_rs ct_B_bound hl hx ha (fun h => ⟨_, rfl, Or.inr ⟨0, rfl, Or.inl ⟨rfl, rfl, fun h2 => h h2.1⟩⟩⟩) (fun hok => ?_)
  have hok' := hok
  unfold okS at hok'
  have ht := hT_slot hok'.1 hok'.2
  have hlt := hT_lt ht
  refine sg_B_bo_1 (k := ?_)
  refine sc_vI (as := [.inl _]) (rest := []) (cc := 3) ct_B_bound lk_V_has lm_B_has_148 (c_V_has (d := d) hv) rfl ?_
  by_cases hh : 0 ≤ v ∧ v < 6 ∧ I 69 v ≠ -1
  · rw [if_pos hh]
    have hb := (hbo v hh.1 hh.2.1).resolve_left hh.2.2
    have he : I 72 (I 69 v) = I 69 v + f_tk (hArt I) 1 (sub.drop (I 69 v).toNat) ∧ I 69 v < I 72 (I 69 v) ∧ I 72 (I 69 v) ≤ sub.length ∧ I 72 (I 69 v) ≤ 100 := tw_end hw hb.1 hb.2
    have h100 := hw.1.2.1
    refine sg_B_bo_2 (k := ?_)
    have hz : ∀ w, w ≠ 60 → sU I 60 2 0 w = I w := fun w h => sU_ne h
    have hw' : tw (sU I 60 2 0) 70 sub := tw_upd hw (hz _ (by omega)) (hz _ (by omega)) (hz _ (by omega)) (hz _ (by omega))
    have h60 : sU I 60 2 0 60 2 = 0 := sU_self _ _ _ _
    refine sc_vV (as := [.inr (.inl _), .inl _, .inl _]) (rest := []) (cc := 2) ct_B_bound lk_T_addPart lm_B_ap_161 (c_T_addPart (d := d) (t := 60) (f := 70) hT_60 hT_70 (by omega) hb.1 (by omega) (by omega) (by omega) (by omega) (fun k k0 k1 => by
      rw [tm_get hw'.1 (by omega) (by omega)]
      have := hw'.1.2.2.2 _ (List.getElem_mem (show k.toNat < sub.length by omega))
      omega)) rfl ?_
    have e72 : sU I 60 2 0 (70 + 2) (I 69 v) = I 72 (I 69 v) := by rw [hz _ (by omega)]
    have hseg : sSeg (sU I 60 2 0) (70 + 1) (I 69 v) (I 72 (I 69 v) - I 69 v).toNat = f_s (hArt I) sub (I 69 v).toNat := by
      have := sSeg_fs hw' hb.1 hb.2
      rw [e72, hArt_eq (hz 3 (by omega))] at this
      exact this
    rw [hseg]
    have hfl := f_s_pos (hArt I) hw.2.2 (show (I 69 v).toNat < sub.length by omega)
    have htm : tm (sAp (sU I 60 2 0) 60 (f_s (hArt I) sub (I 69 v).toNat)) 60 (f_s (hArt I) sub (I 69 v).toNat) := by
      have h0 : tm (sU I 60 2 0) 60 [] := ⟨sU_self _ _ _ _, Nat.zero_le _, fun k hk => (by cases hk), fun c hc => (by cases hc)⟩
      have := tm_ap h0 (w := f_s (hArt I) sub (I 69 v).toNat) (by rw [List.nil_append, f_s_len]; omega) (fun c hc => hw.1.2.2.2 c (f_s_mem hc))
      rw [List.nil_append] at this
      exact this
    have hz2 : ∀ w, w ≠ 60 → w ≠ 61 → sAp (sU I 60 2 0) 60 (f_s (hArt I) sub (I 69 v).toNat) w = I w := fun w h1 h2 => by rw [sAp_ne h1 h2, hz w h1]
    have hal2 : alf (sAp (sU I 60 2 0) 60 (f_s (hArt I) sub (I 69 v).toNat)) := by
      unfold alf
      rw [hz2 2 (by omega) (by omega), hz2 3 (by omega) (by omega), hz2 4 (by omega) (by omega)]
      exact hal
    have hwf : f_wf (hArt (sAp (sU I 60 2 0) 60 (f_s (hArt I) sub (I 69 v).toNat))) 1 (f_s (hArt I) sub (I 69 v).toNat) := by
      rw [hArt_eq (hz2 3 (by omega) (by omega))]
      exact f_s_wf _ hw.2.2 (by omega)
    refine sg_B_bo_3 (k := ?_)
    refine sc_vV (as := [.inr (.inl _)]) (rest := []) (cc := 2) ct_B_bound lk_T_findEnds lm_B_fe_109 (c_T_findEnds (d := d) hT_60 htm hal2 hwf) rfl ?_
    have hw4 := tw_fp (t := 60) (by omega) (by omega) htm hwf
    have hl4 := hw4.1.1
    have hb4 := hw4.1.2.1
    refine sg_B_bo_4 (k := ?_)
    refine sc_vI (as := [.inl _, .inr (.inl _)]) (rest := []) (cc := 0) ct_B_bound lk_B_store lm_B_st_113 (c_B_st (d := d) hx hT_60 hok'.1 hok'.2 (by omega) (by omega) (by omega)) rfl ?_
    obtain ⟨w5, f5⟩ := tw_bc ht hT_60 (by omega) hw4
    refine sc_ret ct_B_bound ⟨_, rfl, Or.inl ⟨_, rfl, Or.inr ⟨hok, hh, ?_, w5, fun w w1 w2 w3 w4 => ?_⟩⟩⟩
    · rw [hl4]
    · rw [f5 w w2 w3 w4]
      have : sFp (sAp (sU I 60 2 0) 60 (f_s (hArt I) sub (I 69 v).toNat)) 60 (f_s (hArt I) sub (I 69 v).toNat) (-1) w = sAp (sU I 60 2 0) 60 (f_s (hArt I) sub (I 69 v).toNat) w := by
        funext k
        unfold sFp
        rw [if_neg (fun h => by omega)]
      rw [this, hz2 w (by omega) (by omega)]
  · rw [if_neg hh]
    refine sg_B_bo_t (k := ?_)
    exact sc_tn "no match gave this variable a value" ct_B_bound hl hx ⟨_, rfl, Or.inr ⟨0, rfl, Or.inl ⟨rfl, rfl, fun h2 => hh h2.2⟩⟩⟩
end CB6
