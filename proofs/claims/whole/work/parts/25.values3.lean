/-! Values: weightOf, fill -/
section CV3
variable {l : Launch} {G : sG} {L x d : Nat} {I : sI}
def vl (ar : Int → Nat) (ss : List Int) (b : Int → Int) : Int → List Int := fun c => f_s ar ss (b (-1 - c)).toNat
theorem take_s {cs : List Int} {i : Nat} (h : i < cs.length) : cs.take (i + 1) = cs.take i ++ [cs[i]] := by rw [List.take_succ, List.getElem?_eq_getElem h]; rfl
theorem sAp_one (I : sI) (t : Nat) (c : Int) : sU (sU I (t + 1) (I t 2) c) t 2 (I t 2 + 1) = sAp I t [c] := by
  have := sAp_snoc I t [] c
  rw [sAp_nil] at this
  exact this
theorem tm_ap {I : sI} {t : Nat} {cs w : List Int} (h : tm I t cs) (hl : (cs ++ w).length ≤ 100) (hw : ∀ c ∈ w, -12 ≤ c ∧ c < 40) : tm (sAp I t w) t (cs ++ w) := by
  obtain ⟨h1, h2, h3, h4⟩ := h
  refine ⟨by rw [sAp_w, h1]; simp, hl, fun k hk => ?_, fun c hc => ?_⟩
  · unfold sAp
    rw [if_neg (fun h => by omega), h1]
    by_cases hk1 : k < cs.length
    · rw [if_neg (fun h => by omega), h3 k hk1, List.getElem_append_left hk1]
    · rw [if_pos ⟨rfl, by omega, by rw [List.length_append] at hk; omega⟩, List.getElem_append_right (by omega)]
      rw [show ((k : Int) - cs.length).toNat = k - cs.length by omega, List.getD_eq_getElem?_getD, List.getElem?_eq_getElem (by rw [List.length_append] at hk; omega)]
      rfl
  · rcases List.mem_append.mp hc with h | h
    · exact h4 c h
    · exact hw c h
theorem sSeg_fs {I : sI} {s : Nat} {ss : List Int} (h : tw I s ss) {p : Int} (h0 : 0 ≤ p) (h1 : p < ss.length) : sSeg I (s + 1) p (I (s + 2) p - p).toNat = f_s (hArt I) ss p.toNat := by
  have he := tw_end h h0 h1
  have hp := f_s_pos (hArt I) h.2.2 (show p.toNat < ss.length by omega)
  refine List.ext_getElem? (fun i => ?_)
  by_cases hi : i < f_tk (hArt I) 1 (ss.drop p.toNat)
  · rw [sSeg_get _ _ _ _ _ (by omega), f_s_get _ hi (by omega)]
    have := tm_get h.1 (p := p + i) (by omega) (by omega)
    rw [this]
    congr 2
    omega
  · rw [List.getElem?_eq_none (by rw [sSeg_len]; omega), List.getElem?_eq_none (by rw [f_s_len]; omega)]
theorem f_s_mem {ar : Int → Nat} {ss : List Int} {p : Nat} {c : Int} (h : c ∈ f_s ar ss p) : c ∈ ss := List.mem_of_mem_drop (List.mem_of_mem_take h)
theorem f_sub_len_c (σ : Int → List Int) (l : List Int) (c : Int) : (f_sub σ (l ++ [c])).length = (f_sub σ l).length + (if c < 0 then (σ c).length else 1) := by
  rw [f_sub_app, List.length_append, f_sub_c, f_sub_nil, List.append_nil]
  split <;> rfl
theorem f_sub_take_le (σ : Int → List Int) (l : List Int) (i : Nat) : (f_sub σ (l.take i)).length ≤ (f_sub σ l).length := by
  conv => rhs; rw [← List.take_append_drop i l, f_sub_app, List.length_append]
  omega
theorem c_V_weightOf {t s : Nat} {ts ss : List Int} (ht : hT t) (hs : hT s) (hm : tm I t ts) (h6 : ∀ c ∈ ts, -6 ≤ c) (hw : tw I s ss) (hv : ∀ c ∈ ts, c < 0 → 0 ≤ I 67 (-1 - c) ∧ I 67 (-1 - c) < ss.length) :
    sCall l G mV_weightOf (sRm (d + 1) 0) [.inr (.inl 66), .inr (.inl t), .inr (.inl s)] (hS L x I) (qI L x (f_sub (vl (hArt I) ss (I 67)) ts).length I) := by
  refine sCall_of (by decide) (Nat.le_of_ble_eq_true rfl) (sV1s_c trivial (sV1s_c trivial (sV1s_c trivial sV1s_n))) rfl ?_
  show sJ l G mV_weightOf (sRm (d + 1) 0) _ 0 (6 * 0) 0 [some (.inr (.inl 66)), some (.inr (.inl t)), some (.inr (.inl s)), none, none, none] [] (hSh L, hRF, I, x)
  have hl1 := hT_lt ht
  have hl2 := hT_lt hs
  obtain ⟨hm1, hm2, hm3, hm4⟩ := hm
  have loop : ∀ (n i : Nat) (oA : Option sV), n = ts.length - i → i ≤ ts.length → (f_sub (vl (hArt I) ss (I 67)) (ts.take i)).length ≤ 100 * i → sJ l G mV_weightOf (sRm (d + 1) 0) (qI L x (f_sub (vl (hArt I) ss (I 67)) ts).length I) 0 (6 * 0) 4 [some (.inr (.inl 66)), some (.inr (.inl t)), some (.inr (.inl s)), some (.inl (f_sub (vl (hArt I) ss (I 67)) (ts.take i)).length), some (.inl i), oA] [] (hSh L, hRF, I, x) := by
    intro n
    induction n with
    | zero =>
      intro i oA hn hi hb
      have : i = ts.length := by omega
      subst this
      refine sg_V_wo_x (k := ?_)
      rw [List.take_length]
      exact sc_ret ct_V_weightOf ⟨rfl, rfl⟩
    | succ n ih =>
      intro i oA hn hi hb
      have hil : i < ts.length := by omega
      have ec := hm3 i hil
      have hc6 := h6 _ (List.getElem_mem hil)
      have := ih (i + 1)
      rw [take_s hil, f_sub_len_c] at this
      by_cases hcn : ts[i] < 0
      · rw [if_pos hcn] at this
        have hvc := hv _ (List.getElem_mem hil) hcn
        have he := tw_end hw hvc.1 hvc.2
        refine sg_V_wo_n (k := ?_)
        rw [ec]
        refine sc_vI (as := [.inl _]) (rest := [.inl _]) (cc := 2) ct_V_weightOf lk_T_weightAt lm_V_weightAt_47 (c_T_weightAt (d := d) hs (by omega) (by omega) (by omega) (by omega)) (by rw [(hT_k L hs).1]) ?_
        refine sg_V_wo_r (k := ?_)
        have e1 : I (s + 2) (I 67 (-1 - ts[i])) - I 67 (-1 - ts[i]) = ((vl (hArt I) ss (I 67) ts[i]).length : Int) := by
          unfold vl
          rw [f_s_len, he.1]
          omega
        have e2 : (vl (hArt I) ss (I 67) ts[i]).length ≤ 100 := by omega
        have := this (some (.inl ts[i])) (by omega) (by omega) (by omega)
        rw [e1]
        exact this
      · rw [if_neg hcn] at this
        refine sg_V_wo_p (k := ?_)
        exact this _ (by omega) (by omega) (by omega)
  refine sg_V_wo_0 (k := ?_)
  exact loop ts.length 0 none rfl (Nat.zero_le _) (by simp [f_sub_nil])
theorem tm_upd {I I' : sI} {t : Nat} {cs : List Int} (h : tm I t cs) (h0 : I' t = I t) (h1 : I' (t + 1) = I (t + 1)) : tm I' t cs := by
  obtain ⟨a1, a2, a3, a4⟩ := h
  exact ⟨by rw [h0]; exact a1, a2, by rw [h1]; exact a3, a4⟩
/-- all but the codes and the weight of a term is as it was -/
def frm (I I' : sI) (t : Nat) : Prop := ∀ b, b ≠ t → b ≠ t + 1 → I' b = I b
theorem c_V_fill {r t s : Nat} {ts ss : List Int} (hr : hT r) (ht : hT t) (hs : hT s) (hrt : r ≠ t) (hrs : r ≠ s) (hm : tm I t ts) (h6 : ∀ c ∈ ts, -6 ≤ c) (hw : tw I s ss) (hv : ∀ c ∈ ts, c < 0 → 0 ≤ I 67 (-1 - c) ∧ I 67 (-1 - c) < ss.length) (hl : (f_sub (vl (hArt I) ss (I 67)) ts).length ≤ 100) :
    sCall l G mV_fill (sRm (d + 2) 0) [.inr (.inl 66), .inr (.inl r), .inr (.inl t), .inr (.inl s)] (hS L x I) (qF L x (fun I' => frm I I' r ∧ tm I' r (f_sub (vl (hArt I) ss (I 67)) ts))) := by
  refine sCall_of (by decide) (Nat.le_of_ble_eq_true rfl) (sV1s_c trivial (sV1s_c trivial (sV1s_c trivial (sV1s_c trivial sV1s_n)))) rfl ?_
  show sJ l G mV_fill (sRm (d + 2) 0) _ 0 (6 * 0) 0 [some (.inr (.inl 66)), some (.inr (.inl r)), some (.inr (.inl t)), some (.inr (.inl s)), none, none, none] [] (hSh L, hRF, I, x)
  have hl0 := hT_lt hr
  have hl1 := hT_lt ht
  have hl2 := hT_lt hs
  have n1 := hT_ne hr ht hrt
  have n2 := hT_ne hr hs hrs
  obtain ⟨hm1, hm2, hm3, hm4⟩ := hm
  have loop : ∀ (n i : Nat) (oA oB : Option sV) (I' : sI), n = ts.length - i → i ≤ ts.length → frm I I' r → tm I' r (f_sub (vl (hArt I) ss (I 67)) (ts.take i)) → sJ l G mV_fill (sRm (d + 2) 0) (qF L x (fun I' => frm I I' r ∧ tm I' r (f_sub (vl (hArt I) ss (I 67)) ts))) 0 (6 * 0) 5 [some (.inr (.inl 66)), some (.inr (.inl r)), some (.inr (.inl t)), some (.inr (.inl s)), some (.inl i), oA, oB] [] (hSh L, hRF, I', x) := by
    intro n
    induction n with
    | zero =>
      intro i oA oB I' hn hi hf hm
      have : i = ts.length := by omega
      subst this
      have e0 : I' t 2 = ts.length := by rw [hf t (by omega) (by omega)]; exact hm1
      refine sg_V_fill_x (k := ?_)
      rw [List.take_length] at hm
      exact sc_retV ct_V_fill ⟨_, rfl, rfl, hf, hm⟩
    | succ n ih =>
      intro i oA oB I' hn hi hf hm
      have hil : i < ts.length := by omega
      have e0 : I' t 2 = ts.length := by rw [hf t (by omega) (by omega)]; exact hm1
      have ec : I' (t + 1) i = ts[i] := by rw [hf (t + 1) (by omega) (by omega)]; exact hm3 i hil
      have e67 : I' 67 = I 67 := hf 67 (by omega) (by omega)
      have hc6 := h6 _ (List.getElem_mem hil)
      have hc12 := hm4 _ (List.getElem_mem hil)
      have hlen := f_sub_take_le (vl (hArt I) ss (I 67)) ts (i + 1)
      have hih := ih (i + 1)
      rw [take_s hil] at hlen
      rw [take_s hil] at hih
      rw [f_sub_len_c] at hlen
      rw [f_sub_app, f_sub_c, f_sub_nil, List.append_nil] at hih
      have hwr := hm.1
      by_cases hcn : ts[i] < 0
      · rw [if_pos hcn] at hih hlen
        have hvc := hv _ (List.getElem_mem hil) hcn
        have hw' : tw I' s ss := tw_upd hw (hf _ (by omega) (by omega)) (hf _ (by omega) (by omega)) (hf _ (by omega) (by omega)) (hf _ (by omega) (by omega))
        have har : hArt I' = hArt I := hArt_eq (hf 3 (by omega) (by omega))
        rw [← e67] at hvc
        have he := tw_end hw' hvc.1 hvc.2
        have hfs := sSeg_fs hw' hvc.1 hvc.2
        have hvl : f_s (hArt I') ss (I' 67 (-1 - ts[i])).toNat = vl (hArt I) ss (I 67) ts[i] := by rw [har, e67]; rfl
        rw [hvl] at hfs
        have hfl : (vl (hArt I) ss (I 67) ts[i]).length = (I' (s + 2) (I' 67 (-1 - ts[i])) - I' 67 (-1 - ts[i])).toNat := by rw [← hfs, sSeg_len]
        have hvd : 0 ≤ I' 67 (-1 - I' (t + 1) i) ∧ I' 67 (-1 - I' (t + 1) i) < ss.length := by rw [ec]; exact hvc
        have h100 := hw.1.2.1
        refine sg_V_fill_n (k := ?_)
        rw [ec]
        refine sc_vV (as := [.inr (.inl _), .inl _, .inl _]) (rest := []) (cc := 2) ct_V_fill lk_T_addPart lm_V_addPart_51 (c_T_addPart (d := d) hr hs hrs (by omega) (by omega) (by omega) (by omega) (by omega) (fun k k0 k1 => by
          rw [tm_get hw'.1 (by omega) (by omega)]
          have := hw'.1.2.2.2 _ (List.getElem_mem (show k.toNat < ss.length by omega))
          omega)) (by rw [(hT_k L hr).1]) ?_
        refine sg_V_fill_e (k := ?_)
        rw [hfs]
        refine hih _ _ _ (by omega) (by omega) (fun b b0 b1 => by rw [sAp_ne b0 b1]; exact hf b b0 b1) (tm_ap hm (by rw [List.length_append]; omega) (fun c hc => hw'.1.2.2.2 c (f_s_mem hc)))
      · rw [if_neg hcn] at hih hlen
        refine sg_V_fill_p (k := ?_)
        rw [ec]
        refine sc_vV (as := [.inl _]) (rest := []) (cc := 2) ct_V_fill lk_T_add lm_V_add_55 (c_T_add (d := d) hr (by omega) (by omega) (by omega) (by omega)) (by rw [(hT_k L hr).1]) ?_
        refine sg_V_fill_f (k := ?_)
        rw [sAp_one]
        refine hih _ _ _ (by omega) (by omega) (fun b b0 b1 => by rw [sAp_ne b0 b1]; exact hf b b0 b1) (tm_ap hm (by rw [List.length_append]; simp; omega) (fun c hc => by rw [List.mem_singleton] at hc; subst hc; exact hc12))
  refine sg_V_fill_0 (k := ?_)
  exact loop ts.length 0 none none _ rfl (Nat.zero_le _) (fun b b0 b1 => sU_ne b0) ⟨sU_self _ _ _ _, Nat.zero_le _, fun k hk => by simp [f_sub_nil] at hk, fun c hc => by simp [f_sub_nil] at hc⟩
end CV3
