/-! Values: matching along the codes -/
def bU (b : Int → Int) (v z : Int) : Int → Int := fun k => if k = v then z else b k
def hPr (I : sI) : Int → Bool := fun c => decide (0 ≤ c) && decide (I 4 c ≠ 0)
def mf (ar : Int → Nat) (pr : Int → Bool) (ss : List Int) : List Int → Nat → (Int → Int) → Option (Nat × (Int → Int))
  | [], a, b => some (a, b)
  | c :: ps, a, b =>
    if h : a < ss.length then
      if c < 0 then
        if b (-1 - c) = -1 then (if pr ss[a] = true then none else mf ar pr ss ps (a + f_tk ar 1 (ss.drop a)) (bU b (-1 - c) a))
        else if f_s ar ss (b (-1 - c)).toNat = f_s ar ss a then mf ar pr ss ps (a + f_tk ar 1 (ss.drop a)) b else none
      else if ss[a] = c then mf ar pr ss ps (a + 1) b else none
    else none
/-- the begins are none, or places -/
def bOk (b : Int → Int) (n : Nat) : Prop := ∀ k, 0 ≤ k → k < 6 → b k = -1 ∨ (0 ≤ b k ∧ b k < n)
section CV
variable {l : Launch} {G : sG} {L x d : Nat} {I : sI}
theorem lm_V_isAt_37 : sLm "TermBench$Values" 37 mT_isAt = true := by decide +kernel
theorem lm_V_isPred_41 : sLm "TermBench$Values" 41 mA_isPredicate = true := by decide +kernel
theorem lm_V_take_30 : sLm "TermBench$Values" 30 mV_take = true := by decide +kernel
theorem lm_V_cpy_15 : sIn (Cond.methodLink "TermBench$Values" 15 arraycopyName) = true := by decide +kernel
theorem lm_V_weightAt_47 : sLm "TermBench$Values" 47 mT_weightAt = true := by decide +kernel
theorem lm_V_addPart_51 : sLm "TermBench$Values" 51 mT_addPart = true := by decide +kernel
theorem lm_V_add_55 : sLm "TermBench$Values" 55 mT_add = true := by decide +kernel
theorem c_V_become (hx : x ≠ 0) : sCall l G mV_become (sRm (d + 1) 0) [.inr (.inl 68), .inr (.inl 66)] (hS L x I) (qV L x (sCp I 69 67 6)) := by
  refine sCall_of (by decide) (Nat.le_of_ble_eq_true rfl) (sV1s_c trivial (sV1s_c trivial sV1s_n)) rfl ?_
  show sJ l G mV_become (sRm (d + 1) 0) _ 0 (6 * 0) 0 [some (.inr (.inl 68)), some (.inr (.inl 66))] [] (hSh L, hRF, I, x)
  refine sg_V_become (k := ?_)
  refine sc_copy (nd := 6) (ns := 6) ct_V_become lm_V_cpy_15 hx rfl rfl (by omega) (by omega) (by omega) ?_
  exact sc_retV ct_V_become ⟨rfl, rfl⟩
theorem c_V_has {v : Int} (h0 : sR v) : sCall l G mV_has (sRm d 0) [.inr (.inl 68), .inl v] (hS L x I) (qI L x (if 0 ≤ v ∧ v < 6 ∧ I 69 v ≠ -1 then 1 else 0) I) := by
  refine sCall_of (by decide) (Nat.le_of_ble_eq_true rfl) (sV1s_c trivial (sV1s_c h0 sV1s_n)) rfl ?_
  show sJ l G mV_has (sRm d 0) _ 0 (6 * 0) 0 [some (.inr (.inl 68)), some (.inl v)] [] (hSh L, hRF, I, x)
  by_cases h1 : v < 0
  · refine sg_V_has_a (k := ?_)
    exact sc_retZ ct_V_has ⟨by rw [if_neg (by omega)], rfl⟩
  · by_cases h2 : 6 ≤ v
    · refine sg_V_has_b (k := ?_)
      exact sc_retZ ct_V_has ⟨by rw [if_neg (by omega)], rfl⟩
    · by_cases h3 : I 69 v = -1
      · refine sg_V_has_c (k := ?_)
        exact sc_retZ ct_V_has ⟨by rw [if_neg (fun h => h.2.2 h3)], rfl⟩
      · refine sg_V_has_d (k := ?_)
        exact sc_retZ ct_V_has ⟨by rw [if_pos ⟨by omega, by omega, h3⟩], rfl⟩
theorem hPr_v {I : sI} (c : Int) : (if c < 0 then (0 : Int) else if I 4 c = 0 then 0 else 1) = if hPr I c = true then 1 else 0 := by
  unfold hPr
  by_cases h : c < 0
  · rw [if_pos h, if_neg (by simp; omega)]
  · rw [if_neg h]
    by_cases h2 : I 4 c = 0
    · rw [if_pos h2, if_neg (by simp [h2])]
    · rw [if_neg h2, if_pos (by simp [h2]; omega)]
theorem tw_upd {I I' : sI} {t : Nat} {cs : List Int} (h : tw I t cs) (h0 : I' t = I t) (h1 : I' (t + 1) = I (t + 1)) (h2 : I' (t + 2) = I (t + 2)) (h3 : I' 3 = I 3) : tw I' t cs := by
  have e : hArt I' = hArt I := by unfold hArt; rw [h3]
  obtain ⟨⟨a1, a2, a3, a4⟩, b, c⟩ := h
  exact ⟨⟨by rw [h0]; exact a1, a2, by rw [h1]; exact a3, a4⟩, by unfold te; rw [h2, e]; exact b, by rw [e]; exact c⟩
theorem c_V_take {s : Nat} {v a : Int} {ss : List Int} (hs : hT s) (hw : tw I s ss) (hv0 : 0 ≤ v) (hv1 : v < 6) (ha0 : 0 ≤ a) (ha1 : a < ss.length) (hb : bOk (I 67) ss.length) :
    sCall l G mV_take (sRm (d + 3) 0) [.inr (.inl 66), .inl v, .inr (.inl s), .inl a, .inr (.inl 2)] (hS L x I) (qE L x (fun r I' => if I 67 v = -1 then I' = sU I 67 v a ∧ r = (if hPr I (ss[a.toNat]'(by omega)) = true then 0 else 1) else I' = I ∧ r = (if f_s (hArt I) ss (I 67 v).toNat = f_s (hArt I) ss a.toNat then 1 else 0))) := by
  have h100 := hw.1.2.1
  refine sCall_of (by decide) (Nat.le_of_ble_eq_true rfl) (sV1s_c trivial (sV1s_c (sV1_i (by omega) (by omega)) (sV1s_c trivial (sV1s_c (sV1_i (by omega) (by omega)) (sV1s_c trivial sV1s_n))))) rfl ?_
  show sJ l G mV_take (sRm (d + 3) 0) _ 0 (6 * 0) 0 [some (.inr (.inl 66)), some (.inl v), some (.inr (.inl s)), some (.inl a), some (.inr (.inl 2))] [] (hSh L, hRF, I, x)
  have hlt := hT_lt hs
  by_cases h1 : I 67 v = -1
  · refine sg_V_take_n (k := ?_)
    have hbd := hw.1.2.2.2 _ (List.getElem_mem (show a.toNat < ss.length by omega))
    have e4 : sU I 67 v a 4 = I 4 := sU_ne (by omega)
    have e : I (s + 1) a = ss[a.toNat]'(by omega) := tm_get hw.1 ha0 ha1
    refine sc_vI (as := [.inl _]) (rest := []) (cc := 1) ct_V_take lk_A_isPredicate lm_V_isPred_41 (c_A_isPred (d := d) (by omega) (by omega)) rfl ?_
    rw [e4, hPr_v]
    by_cases hp : hPr I (I (s + 1) a) = true
    · rw [if_pos hp]
      refine sg_V_take_p (k := ?_)
      exact sc_retZ ct_V_take ⟨_, _, rfl, rfl, by dsimp only; rw [if_pos h1, ← e, if_pos hp]; exact ⟨rfl, rfl⟩⟩
    · rw [if_neg hp]
      refine sg_V_take_q (k := ?_)
      exact sc_retZ ct_V_take ⟨_, _, rfl, rfl, by dsimp only; rw [if_pos h1, ← e, if_neg hp]; exact ⟨rfl, rfl⟩⟩
  · refine sg_V_take_h (k := ?_)
    have hbv := (hb v hv0 hv1).resolve_left h1
    refine sc_vE (as := [.inl _, .inr (.inl _), .inl _]) (rest := []) (cc := 2) ct_V_take lk_T_isAt lm_V_isAt_37 (c_T_isAtW (d := d) hs hs hw hw hbv.1 hbv.2 ha0 ha1) (by rw [(hT_k L hs).1]) (fun r I' hr => ?_)
    obtain ⟨rfl, rfl⟩ := hr
    exact sc_retZ ct_V_take ⟨_, _, rfl, rfl, by dsimp only; rw [if_neg h1]; exact ⟨rfl, rfl⟩⟩ (by split <;> omega)
end CV
