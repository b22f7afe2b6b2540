/-! Ordering -/
section CO
variable {l : Launch} {G : sG} {L x d : Nat} {I : sI}
theorem lm_O_fd_15 : sLm "TermBench$Ordering" 15 mT_firstDifference = true := by decide +kernel
theorem lm_O_ch_24 : sLm "TermBench$Ordering" 24 mO_compareHere = true := by decide +kernel
theorem lm_O_wa_28 : sLm "TermBench$Ordering" 28 mT_weightAt = true := by decide +kernel
theorem lm_O_he_35 : sLm "TermBench$Ordering" 35 mO_hasEachVariableAsOften = true := by decide +kernel
theorem lm_O_ao_39 : sLm "TermBench$Ordering" 39 mO_addOccurrences = true := by decide +kernel
theorem f_s_s (ar : Int → Nat) {cs : List Int} {k p i : Nat} (h : f_wf ar k cs) (hp : p < cs.length) (hi : i < (f_s ar cs p).length) : f_tk ar 1 ((f_s ar cs p).drop i) = f_tk ar 1 (cs.drop (p + i)) ∧ f_s ar (f_s ar cs p) i = f_s ar cs (p + i) := by
  have hw := f_s_wf ar h hp
  have e0 : cs.drop p = f_s ar cs p ++ (cs.drop p).drop (f_tk ar 1 (cs.drop p)) := (List.take_append_drop _ _).symm
  obtain ⟨m, e1, e2, e3⟩ := f_at ar hw hi
  rw [show m + 1 = 1 + m by omega] at e2
  have hsp := f_split ar _ 1 m e2
  have e4 : cs.drop (p + i) = (f_s ar cs p).drop i ++ (cs.drop p).drop (f_tk ar 1 (cs.drop p)) := by
    rw [← List.drop_drop, e0, List.drop_append_of_le_length (by omega), ← e0]
  have e5 := List.take_append_drop (f_tk ar 1 ((f_s ar cs p).drop i)) ((f_s ar cs p).drop i)
  have e6 : f_tk ar 1 (cs.drop (p + i)) = f_tk ar 1 ((f_s ar cs p).drop i) := by
    rw [e4]
    have h9 := f_tk_app ar _ ((((f_s ar cs p).drop i).drop (f_tk ar 1 ((f_s ar cs p).drop i))) ++ (cs.drop p).drop (f_tk ar 1 (cs.drop p))) 1 0 hsp.1
    rw [← List.append_assoc, e5, f_tk_0, (f_wf_tk ar e2).2] at h9
    exact h9
  refine ⟨e6.symm, ?_⟩
  show ((f_s ar cs p).drop i).take (f_tk ar 1 ((f_s ar cs p).drop i)) = (cs.drop (p + i)).take (f_tk ar 1 (cs.drop (p + i)))
  rw [e6, e4, List.take_append_of_le_length (f_wf_tk ar e2).1]
theorem sSeg_c {I : sI} {s : Nat} {ss : List Int} (h : tw I s ss) {p q : Int} (h0 : 0 ≤ p) (h1 : p < ss.length) (h2 : p ≤ q) (h3 : q ≤ I (s + 2) p) : sSeg I (s + 1) p (q - p).toNat = (f_s (hArt I) ss p.toNat).take (q - p).toNat := by
  rw [← sSeg_fs h h0 h1]
  unfold sSeg
  rw [← List.map_take, List.take_range]
  congr 2
  omega
theorem c_O_ao {t : Nat} {b ea : Int} {cs : List Int} (ht : hT t) (hm : tw I t cs) (h6 : ∀ c ∈ cs, -6 ≤ c) (h0 : 0 ≤ b) (h1 : b < cs.length) (he : ea = 1 ∨ ea = -1) (hb : ∀ k, 0 ≤ k → k < 6 → -100 ≤ I 74 k ∧ I 74 k ≤ 100) :
    sCall l G mO_addOccurrences (sRm d 0) [.inr (.inl 73), .inr (.inl t), .inl b, .inl ea] (hS L x I) (qF L x (fun I' => (∀ z, z ≠ 74 → I' z = I z) ∧ ∀ k : Int, 0 ≤ k → k < 6 → I' 74 k = I 74 k + ea * ((f_s (hArt I) cs b.toNat).count (-1 - k) : Nat))) := by
  refine sCall_of (by decide) (Nat.le_of_ble_eq_true rfl) (sV1s_c trivial (sV1s_c trivial (sV1s_c (sV1_i (by have := hm.1.2.1; omega) (by have := hm.1.2.1; omega)) (sV1s_c (sV1_i (by omega) (by omega)) sV1s_n)))) rfl ?_
  show sJ l G mO_addOccurrences (sRm d 0) _ 0 (6 * 0) 0 [some (.inr (.inl 73)), some (.inr (.inl t)), some (.inl b), some (.inl ea), none] [] (hSh L, hRF, I, x)
  have hl1 := hT_lt ht
  have h100 := hm.1.2.1
  have hend := tw_end hm h0 h1
  have loop : ∀ (n : Nat) (p : Int) (I' : sI), n = (I (t + 2) b - p).toNat → b ≤ p → p ≤ I (t + 2) b → (∀ z, z ≠ 74 → I' z = I z) → (∀ k : Int, 0 ≤ k → k < 6 → I' 74 k = I 74 k + ea * (((f_s (hArt I) cs b.toNat).take (p - b).toNat).count (-1 - k) : Nat)) →
      sJ l G mO_addOccurrences (sRm d 0) (qF L x (fun I' => (∀ z, z ≠ 74 → I' z = I z) ∧ ∀ k : Int, 0 ≤ k → k < 6 → I' 74 k = I 74 k + ea * ((f_s (hArt I) cs b.toNat).count (-1 - k) : Nat))) 0 (6 * 0) 2 [some (.inr (.inl 73)), some (.inr (.inl t)), some (.inl b), some (.inl ea), some (.inl p)] [] (hSh L, hRF, I', x) := by
    intro n
    induction n with
    | zero =>
      intro p I' hn hp0 hp1 hI hk
      have : p = I (t + 2) b := by omega
      subst this
      have e1 : I' (t + 2) b = I (t + 2) b := by rw [hI _ (by omega)]
      refine sg_O_ao_x (k := ?_)
      refine sc_retV ct_O_addOccurrences ⟨_, rfl, rfl, hI, fun k k0 k1 => ?_⟩
      have := hk k k0 k1
      rw [List.take_of_length_le (by rw [f_s_len]; omega)] at this
      exact this
    | succ n ih =>
      intro p I' hn hp0 hp1 hI hk
      have e1 : I' (t + 2) b = I (t + 2) b := by rw [hI _ (by omega)]
      have hfl : (p - b).toNat < (f_s (hArt I) cs b.toNat).length := by rw [f_s_len]; omega
      have e2 : I' (t + 1) p = (f_s (hArt I) cs b.toNat)[(p - b).toNat] := by
        rw [hI _ (by omega), tm_get hm.1 (by omega) (by omega)]
        have := f_s_get (hArt I) (l := cs) (p := b.toNat) (i := (p - b).toNat) (by rw [f_s_len] at hfl; exact hfl) (by omega)
        rw [List.getElem?_eq_getElem hfl] at this
        rw [Option.some.inj this]
        congr 1
        omega
      have hc6 := h6 _ (f_s_mem (List.getElem_mem hfl))
      have hc40 := hm.1.2.2.2 _ (f_s_mem (List.getElem_mem hfl))
      have e3 : (p + 1 - b).toNat = (p - b).toNat + 1 := by omega
      have hih := ih (p + 1)
      rw [e3, take_s hfl] at hih
      have hcl : ∀ k : Int, (((f_s (hArt I) cs b.toNat).take (p - b).toNat).count (-1 - k)) ≤ 100 := fun k => by
        have := List.count_le_length (a := -1 - k) (l := (f_s (hArt I) cs b.toNat).take (p - b).toNat)
        rw [List.length_take] at this
        omega
      by_cases hcn : (f_s (hArt I) cs b.toNat)[(p - b).toNat] < 0
      · have hk1 := hk (-1 - (f_s (hArt I) cs b.toNat)[(p - b).toNat]) (by omega) (by omega)
        have hk2 := hb (-1 - (f_s (hArt I) cs b.toNat)[(p - b).toNat]) (by omega) (by omega)
        have hk3 := hcl (-1 - (f_s (hArt I) cs b.toNat)[(p - b).toNat])
        rw [← e2] at hk1 hk2 hk3
        have hk4 : -200 ≤ I' 74 (-1 - I' (t + 1) p) ∧ I' 74 (-1 - I' (t + 1) p) ≤ 200 := by
          rcases he with rfl | rfl <;> omega
        refine sg_O_ao_n (k := ?_)
        refine hih _ (by omega) (by omega) (by omega) (fun z hz => by rw [sU_ne hz]; exact hI z hz) (fun k k0 k1 => ?_)
        rw [List.count_append, List.count_singleton, ← e2]
        unfold sU
        by_cases hkk : k = -1 - I' (t + 1) p
        · rw [if_pos ⟨rfl, hkk⟩, hkk, hk1, if_pos (by simp; omega)]
          rcases he with rfl | rfl <;> omega
        · rw [if_neg (fun h => hkk h.2), hk k k0 k1, if_neg (by simp; omega)]
          rfl
      · refine sg_O_ao_p (k := ?_)
        refine hih _ (by omega) (by omega) (by omega) hI (fun k k0 k1 => ?_)
        rw [hk k k0 k1, List.count_append, List.count_singleton, if_neg (by simp; omega)]
        rfl
  refine sg_O_ao_0 (k := ?_)
  refine loop _ b I rfl (Int.le_refl _) (by omega) (fun _ _ => rfl) (fun k k0 k1 => ?_)
  rw [Int.sub_self]
  simp
/-- each variable as often: u's in w -/
def vle (u w : List Int) : Prop := ∀ k : Int, 0 ≤ k → k < 6 → u.count (-1 - k) ≤ w.count (-1 - k)
def nz (I I' : sI) : Prop := ∀ z, z ≠ 74 → I' z = I z
theorem c_O_he {s t : Nat} {i j : Int} {cs ds : List Int} (hs : hT s) (ht : hT t) (hc : tw I s cs) (hd : tw I t ds) (c6 : ∀ c ∈ cs, -6 ≤ c) (d6 : ∀ c ∈ ds, -6 ≤ c) (h0 : 0 ≤ i) (h1 : i < cs.length) (g0 : 0 ≤ j) (g1 : j < ds.length) :
    sCall l G mO_hasEachVariableAsOften (sRm (d + 1) 0) [.inr (.inl 73), .inr (.inl s), .inl i, .inr (.inl t), .inl j] (hS L x I) (qE L x (fun r I' => nz I I' ∧ ((r = 1 ∧ vle (f_s (hArt I) ds j.toNat) (f_s (hArt I) cs i.toNat)) ∨ (r = 0 ∧ ¬ vle (f_s (hArt I) ds j.toNat) (f_s (hArt I) cs i.toNat))))) := by
  have h100 := hc.1.2.1
  have g100 := hd.1.2.1
  refine sCall_of (by decide) (Nat.le_of_ble_eq_true rfl) (sV1s_c trivial (sV1s_c trivial (sV1s_c (sV1_i (by omega) (by omega)) (sV1s_c trivial (sV1s_c (sV1_i (by omega) (by omega)) sV1s_n))))) rfl ?_
  show sJ l G mO_hasEachVariableAsOften (sRm (d + 1) 0) _ 0 (6 * 0) 0 [some (.inr (.inl 73)), some (.inr (.inl s)), some (.inl i), some (.inr (.inl t)), some (.inl j), none] [] (hSh L, hRF, I, x)
  have hl1 := hT_lt hs
  have hl2 := hT_lt ht
  have hcnt : ∀ (cs : List Int) (k : Int), cs.length ≤ 100 → cs.count k ≤ 100 := fun cs k h => Nat.le_trans List.count_le_length h
  have hle1 : (f_s (hArt I) cs i.toNat).length ≤ 100 := by have := f_s_pos (hArt I) hc.2.2 (show i.toNat < cs.length by omega); rw [f_s_len]; omega
  have hle2 : (f_s (hArt I) ds j.toNat).length ≤ 100 := by have := f_s_pos (hArt I) hd.2.2 (show j.toNat < ds.length by omega); rw [f_s_len]; omega
  have loop3 : ∀ (n : Nat) (kk : Int) (I' : sI), n = (6 - kk).toNat → 0 ≤ kk → kk ≤ 6 → nz I I' → (∀ k, 0 ≤ k → k < 6 → I' 74 k = ((f_s (hArt I) cs i.toNat).count (-1 - k) : Int) - ((f_s (hArt I) ds j.toNat).count (-1 - k) : Int)) → (∀ k, 0 ≤ k → k < kk → (f_s (hArt I) ds j.toNat).count (-1 - k) ≤ (f_s (hArt I) cs i.toNat).count (-1 - k)) →
      sJ l G mO_hasEachVariableAsOften (sRm (d + 1) 0) (qE L x (fun r I' => nz I I' ∧ ((r = 1 ∧ vle (f_s (hArt I) ds j.toNat) (f_s (hArt I) cs i.toNat)) ∨ (r = 0 ∧ ¬ vle (f_s (hArt I) ds j.toNat) (f_s (hArt I) cs i.toNat))))) 0 (6 * 0) 24 [some (.inr (.inl 73)), some (.inr (.inl s)), some (.inl i), some (.inr (.inl t)), some (.inl j), some (.inl kk)] [] (hSh L, hRF, I', x) := by
    intro n
    induction n with
    | zero =>
      intro kk I' hn hk0 hk1 hI hv hle
      have : kk = 6 := by omega
      subst this
      refine sg_O_he_x (k := ?_)
      exact sc_retZ ct_O_hasEachVariableAsOften ⟨_, _, rfl, rfl, hI, Or.inl ⟨rfl, hle⟩⟩
    | succ n ih =>
      intro kk I' hn hk0 hk1 hI hv hle
      have hvk := hv kk hk0 (by omega)
      by_cases hc : I' 74 kk < 0
      · refine sg_O_he_f (k := ?_)
        refine sc_retZ ct_O_hasEachVariableAsOften ⟨_, _, rfl, rfl, hI, Or.inr ⟨rfl, fun h => ?_⟩⟩
        have := h kk hk0 (by omega)
        omega
      · refine sg_O_he_t (k := ?_)
        refine ih (kk + 1) I' (by omega) (by omega) (by omega) hI hv (fun k k0 k1 => ?_)
        by_cases hkk : k = kk
        · subst hkk
          omega
        · exact hle k k0 (by omega)
  have loop1 : ∀ (n : Nat) (kk : Int) (I' : sI), n = (6 - kk).toNat → 0 ≤ kk → kk ≤ 6 → nz I I' → (∀ k, 0 ≤ k → k < kk → I' 74 k = 0) →
      sJ l G mO_hasEachVariableAsOften (sRm (d + 1) 0) (qE L x (fun r I' => nz I I' ∧ ((r = 1 ∧ vle (f_s (hArt I) ds j.toNat) (f_s (hArt I) cs i.toNat)) ∨ (r = 0 ∧ ¬ vle (f_s (hArt I) ds j.toNat) (f_s (hArt I) cs i.toNat))))) 0 (6 * 0) 2 [some (.inr (.inl 73)), some (.inr (.inl s)), some (.inl i), some (.inr (.inl t)), some (.inl j), some (.inl kk)] [] (hSh L, hRF, I', x) := by
    intro n
    induction n with
    | zero =>
      intro kk I' hn hk0 hk1 hI hz
      have : kk = 6 := by omega
      subst this
      have har : hArt I' = hArt I := hArt_eq (hI 3 (by omega))
      have hc' : tw I' s cs := tw_upd hc (hI _ (by omega)) (hI _ (by omega)) (hI _ (by omega)) (hI _ (by omega))
      refine sg_O_he_m (k := ?_)
      refine sc_vF (as := [.inr (.inl _), .inl _, .inl _]) (rest := []) (cc := 4) ct_O_hasEachVariableAsOften lk_O_addOccurrences lm_O_ao_39 (c_O_ao (d := d) hs hc' c6 h0 h1 (Or.inl rfl) (fun k k0 k1 => by rw [hz k k0 k1]; omega)) rfl (fun I1 hI1 => ?_)
      obtain ⟨hI1, hk1⟩ := hI1
      have har1 : hArt I1 = hArt I := by rw [hArt_eq (hI1 3 (by omega)), har]
      have hd' : tw I1 t ds := tw_upd hd (by rw [hI1 _ (by omega), hI _ (by omega)]) (by rw [hI1 _ (by omega), hI _ (by omega)]) (by rw [hI1 _ (by omega), hI _ (by omega)]) (by rw [hI1 _ (by omega), hI _ (by omega)])
      rw [har] at hk1
      have hk1' : ∀ k, 0 ≤ k → k < 6 → I1 74 k = ((f_s (hArt I) cs i.toNat).count (-1 - k) : Int) := fun k k0 k1 => by
        rw [hk1 k k0 k1, hz k k0 k1]
        omega
      refine sg_O_he_1 (k := ?_)
      refine sc_vF (as := [.inr (.inl _), .inl _, .inl _]) (rest := []) (cc := 4) ct_O_hasEachVariableAsOften lk_O_addOccurrences lm_O_ao_39 (c_O_ao (d := d) ht hd' d6 g0 g1 (Or.inr rfl) (fun k k0 k1 => by rw [hk1' k k0 k1]; have := hcnt _ (-1 - k) hle1; omega)) rfl (fun I2 hI2 => ?_)
      obtain ⟨hI2, hk2⟩ := hI2
      rw [har1] at hk2
      refine sg_O_he_2 (k := ?_)
      refine loop3 6 0 I2 rfl (by omega) (by omega) (fun z hz => by rw [hI2 z hz, hI1 z hz, hI z hz]) (fun k k0 k1 => ?_) (fun k k0 k1 => by omega)
      rw [hk2 k k0 k1, hk1' k k0 k1]
      omega
    | succ n ih =>
      intro kk I' hn hk0 hk1 hI hz
      refine sg_O_he_l (k := ?_)
      refine ih (kk + 1) _ (by omega) (by omega) (by omega) (fun z hz => by rw [sU_ne hz]; exact hI z hz) (fun k k0 k1 => ?_)
      unfold sU
      by_cases hk : k = kk
      · rw [if_pos ⟨rfl, hk⟩]
      · rw [if_neg (fun h => hk h.2)]
        exact hz k k0 (by omega)
  refine sg_O_he_0 (k := ?_)
  exact loop1 6 0 I rfl (by omega) (by omega) (fun _ _ => rfl) (fun k k0 k1 => by omega)
end CO
