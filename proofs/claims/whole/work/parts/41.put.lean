/-! Unifier: addPlaces, putValuesIn -/
section CP
variable {l : Launch} {G : sG} {L x d : Nat} {I : sI}
theorem tm_add {I : sI} {t : Nat} {cs : List Int} {c : Int} (h : tm I t cs) (hl : cs.length < 100) (hc : -12 ≤ c ∧ c < 40) : tm (sU (sU I (t + 1) (I t 2) c) t 2 (I t 2 + 1)) t (cs ++ [c]) := by
  rw [sAp_one]
  refine tm_ap h (by rw [List.length_append]; simp; omega) (fun d hd => ?_)
  rw [List.mem_singleton] at hd
  subst hd
  exact hc
theorem c_U_pl {t : Nat} {bg : Int} {cs : List Int} {V : Int → Prop} {T : Int → List Int} (hF : uF I V T) (ht : hT t) (hb : V bg) (hm : tm I t cs) (hl : (cs ++ T bg).length ≤ 100) :
    sCall l G mU_addPlaces (sRm (d + 1) 0) [.inr (.inl 75), .inr (.inl t), .inl bg] (hS L x I) (qF L x (fun I' => frm I I' t ∧ tm I' t (cs ++ T bg))) := by
  obtain ⟨h1, h2, h3, h4, h5, h6⟩ := hF bg hb
  refine sCall_of (by decide) (Nat.le_of_ble_eq_true rfl) (sV1s_c trivial (sV1s_c trivial (sV1s_c (sV1_i (by omega) (by omega)) sV1s_n))) rfl ?_
  show sJ l G mU_addPlaces (sRm (d + 1) 0) _ 0 (6 * 0) 0 [some (.inr (.inl 75)), some (.inr (.inl t)), some (.inl bg), none] [] (hSh L, hRF, I, x)
  have hl1 := hT_lt ht
  have hl0 : 0 < (T bg).length := List.length_pos_iff.mpr (f_wf_ne _ h4)
  rw [List.length_append] at hl
  have loop : ∀ (n i : Nat) (I' : sI), n = (T bg).length - i → i ≤ (T bg).length → frm I I' t → tm I' t (cs ++ (T bg).take i) → sJ l G mU_addPlaces (sRm (d + 1) 0) (qF L x (fun I' => frm I I' t ∧ tm I' t (cs ++ T bg))) 0 (6 * 0) 2 [some (.inr (.inl 75)), some (.inr (.inl t)), some (.inl bg), some (.inl (bg + i))] [] (hSh L, hRF, I', x) := by
    intro n
    induction n with
    | zero =>
      intro i I' hn hi hf hm
      have : i = (T bg).length := by omega
      subst this
      rw [List.take_length] at hm
      have e77 : I' 77 bg = bg + (T bg).length := by rw [hf 77 (by omega) (by omega)]; exact h3
      refine sg_U_pl_x (k := ?_)
      exact sc_retV ct_U_addPlaces ⟨_, rfl, rfl, hf, hm⟩
    | succ n ih =>
      intro i I' hn hi hf hm
      have hil : i < (T bg).length := by omega
      have e77 : I' 77 bg = bg + (T bg).length := by rw [hf 77 (by omega) (by omega)]; exact h3
      have e76 : I' 76 (bg + i) = (T bg)[i] := by rw [hf 76 (by omega) (by omega)]; exact (h5 i hil).2.1
      have hc := h6 _ (List.getElem_mem hil)
      have hw := hm.1
      have hlen : (cs ++ (T bg).take i).length = cs.length + i := by rw [List.length_append, List.length_take]; omega
      refine sg_U_pl_c (k := ?_)
      rw [e76]
      refine sc_vV (as := [.inl _]) (rest := []) (cc := 2) ct_U_addPlaces lk_T_add lm_U_ad_115 (c_T_add (d := d) ht (by omega) (by omega) (by omega) (by omega)) (by rw [(hT_k L ht).1]) ?_
      refine sg_U_pl_n (k := ?_)
      have := ih (i + 1) (sU (sU I' (t + 1) (I' t 2) (T bg)[i]) t 2 (I' t 2 + 1)) (by omega) (by omega) (fun b b0 b1 => by rw [sU_ne b0, sU_ne b1]; exact hf b b0 b1) (by
        rw [take_s hil, ← List.append_assoc]
        exact tm_add hm (by omega) hc)
      rw [show bg + ((i + 1 : Nat) : Int) = bg + i + 1 by omega] at this
      exact this
  refine sg_U_pl_0 (k := ?_)
  have := loop (T bg).length 0 I rfl (Nat.zero_le _) (fun _ _ _ => rfl) (by rw [List.take_zero, List.append_nil]; exact hm)
  rw [show bg + ((0 : Nat) : Int) = bg by omega] at this
  exact this
/-- one level of values -/
def on1 (sv : Int → Int) (T : Int → List Int) (c : Int) : List Int := if sv c = -1 then [c] else T (sv c)
theorem c_U_pv {s t : Nat} {cs : List Int} {rt : Int → Int} {hh : Int → Nat} {q : Nat} {V : Int → Prop} {T : Int → List Int} (hF : uF I V T) (hR : uR I rt hh q) (hq : q ≤ 211) (hs : hT s) (ht : hT t) (hst : s ≠ t) (hsv : ∀ c, -12 ≤ c → c < 0 → I 79 (rt (199 - c)) = -1 ∨ V (I 79 (rt (199 - c)))) (hm : tm I t cs) (hl : (f_sub (on1 (fun c => I 79 (rt (199 - c))) T) cs).length ≤ 100) :
    sCall l G mU_putValuesIn (sRm (d + 2) 0) [.inr (.inl 75), .inr (.inl s), .inr (.inl t)] (hS L x I) (qE L x (fun r I' => frm I I' s ∧ tm I' s (f_sub (on1 (fun c => I 79 (rt (199 - c))) T) cs) ∧ ((r = 0 ∧ ∀ c ∈ cs, c < 0 → I 79 (rt (199 - c)) = -1) ∨ r = 1))) := by
  refine sCall_of (by decide) (Nat.le_of_ble_eq_true rfl) (sV1s_c trivial (sV1s_c trivial (sV1s_c trivial sV1s_n))) rfl ?_
  show sJ l G mU_putValuesIn (sRm (d + 2) 0) _ 0 (6 * 0) 0 [some (.inr (.inl 75)), some (.inr (.inl s)), some (.inr (.inl t)), none, none, none, none] [] (hSh L, hRF, I, x)
  have hl1 := hT_lt hs
  have hl2 := hT_lt ht
  have n1 := hT_ne hs ht hst
  obtain ⟨hm1, hm2, hm3, hm4⟩ := hm
  have loop : ∀ (n i : Nat) (an : Int) (oA oB : Option sV) (I' : sI), n = cs.length - i → i ≤ cs.length → frm I I' s → tm I' s (f_sub (on1 (fun c => I 79 (rt (199 - c))) T) (cs.take i)) → ((an = 0 ∧ ∀ c ∈ cs.take i, c < 0 → I 79 (rt (199 - c)) = -1) ∨ an = 1) → sJ l G mU_putValuesIn (sRm (d + 2) 0) (qE L x (fun r I' => frm I I' s ∧ tm I' s (f_sub (on1 (fun c => I 79 (rt (199 - c))) T) cs) ∧ ((r = 0 ∧ ∀ c ∈ cs, c < 0 → I 79 (rt (199 - c)) = -1) ∨ r = 1))) 0 (6 * 0) 7 [some (.inr (.inl 75)), some (.inr (.inl s)), some (.inr (.inl t)), some (.inl an), some (.inl i), oA, oB] [] (hSh L, hRF, I', x) := by
    intro n
    induction n with
    | zero =>
      intro i an oA oB I' hn hi hf hm ha
      have : i = cs.length := by omega
      subst this
      rw [List.take_length] at hm ha
      have e0 : I' t 2 = cs.length := by rw [hf t (by omega) (by omega)]; exact hm1
      refine sg_U_pv_x (k := ?_)
      exact sc_retZ ct_U_putValuesIn ⟨_, _, rfl, rfl, hf, hm, ha⟩
    | succ n ih =>
      intro i an oA oB I' hn hi hf hm ha
      have hil : i < cs.length := by omega
      have e0 : I' t 2 = cs.length := by rw [hf t (by omega) (by omega)]; exact hm1
      have ec : I' (t + 1) i = cs[i] := by rw [hf (t + 1) (by omega) (by omega)]; exact hm3 i hil
      have hc := hm4 _ (List.getElem_mem hil)
      have hlen := f_sub_take_le (on1 (fun c => I 79 (rt (199 - c))) T) cs (i + 1)
      have hih := ih (i + 1)
      rw [take_s hil] at hlen
      rw [take_s hil] at hih
      rw [f_sub_len_c] at hlen
      rw [f_sub_app, f_sub_c, f_sub_nil, List.append_nil] at hih
      have hw := hm.1
      have hF' : uF I' V T := uF_upd hF (hf 3 (by omega) (by omega)) (hf 76 (by omega) (by omega)) (hf 77 (by omega) (by omega))
      have hR' : uR I' rt hh q := by unfold uR; rw [hf 78 (by omega) (by omega)]; exact hR
      have e79 : I' 79 = I 79 := hf 79 (by omega) (by omega)
      have anb : an = 0 ∨ an = 1 := by rcases ha with h | h; exact Or.inl h.1; exact Or.inr h
      -- nothing is put in
      have plain : ∀ (oB : Option sV), (cs[i] < 0 → I 79 (rt (199 - cs[i])) = -1) → sJ l G mU_putValuesIn (sRm (d + 2) 0) (qE L x (fun r I' => frm I I' s ∧ tm I' s (f_sub (on1 (fun c => I 79 (rt (199 - c))) T) cs) ∧ ((r = 0 ∧ ∀ c ∈ cs, c < 0 → I 79 (rt (199 - c)) = -1) ∨ r = 1))) 0 (6 * 0) 31 [some (.inr (.inl 75)), some (.inr (.inl s)), some (.inr (.inl t)), some (.inl an), some (.inl i), some (.inl cs[i]), oB] [.inl cs[i], .inr (.inl s)] (hSh L, hRF, I', x) := by
        intro oB hno
        have e1 : (if cs[i] < 0 then on1 (fun c => I 79 (rt (199 - c))) T cs[i] else [cs[i]]) = [cs[i]] := by
          by_cases h : cs[i] < 0
          · rw [if_pos h]
            unfold on1
            rw [if_pos (hno h)]
          · rw [if_neg h]
        rw [e1] at hih
        have e2 : (if cs[i] < 0 then (on1 (fun c => I 79 (rt (199 - c))) T cs[i]).length else 1) = 1 := by
          by_cases h : cs[i] < 0
          · rw [if_pos h]
            unfold on1
            rw [if_pos (hno h)]
            rfl
          · rw [if_neg h]
        rw [e2] at hlen
        refine sc_vV (as := [.inl _]) (rest := []) (cc := 2) ct_U_putValuesIn lk_T_add lm_U_ad_115 (c_T_add (d := d) hs (by omega) (by omega) (by omega) (by omega)) (by rw [(hT_k L hs).1]) ?_
        refine sg_U_pv_a (k := ?_)
        refine hih an _ _ _ (by omega) (by omega) (fun b b0 b1 => by rw [sU_ne b0, sU_ne b1]; exact hf b b0 b1) (tm_add hm (by omega) hc) ?_
        rcases ha with h | h
        · refine Or.inl ⟨h.1, fun c hcm hcn => ?_⟩
          rcases List.mem_append.mp hcm with h2 | h2
          · exact h.2 c h2 hcn
          · rw [List.mem_singleton] at h2
            subst h2
            exact hno hcn
        · exact Or.inr h
      by_cases hcn : cs[i] < 0
      · refine sg_U_pv_v (k := ?_)
        rw [ec]
        refine sc_vI (as := [.inl _]) (rest := []) (cc := 5) ct_U_putValuesIn lk_U_schemaOf lm_U_so_83 (c_U_so (d := d) hR' hq (by omega) (by omega)) rfl ?_
        rw [e79, show 200 + (-1 - cs[i]) = 199 - cs[i] by omega]
        by_cases hsc : I 79 (rt (199 - cs[i])) = -1
        · refine sg_U_pv_n (k := ?_)
          exact plain _ (fun _ => hsc)
        · have hV := (hsv cs[i] (by omega) hcn).resolve_left hsc
          refine sg_U_pv_s (k := ?_)
          rw [if_pos hcn] at hih hlen
          have e1 : on1 (fun c => I 79 (rt (199 - c))) T cs[i] = T (I 79 (rt (199 - cs[i]))) := by unfold on1; rw [if_neg hsc]
          rw [e1] at hih hlen
          refine sc_vF (as := [.inr (.inl _), .inl _]) (rest := []) (cc := 5) ct_U_putValuesIn lk_U_addPlaces lm_U_pl_99 (c_U_pl (d := d) hF' hs hV hm (by rw [List.length_append]; omega)) rfl (fun I2 hI2 => ?_)
          refine sg_U_pv_b (k := ?_)
          exact hih 1 _ _ I2 (by omega) (by omega) (fun b b0 b1 => by rw [hI2.1 b b0 b1]; exact hf b b0 b1) hI2.2 (Or.inr rfl)
      · refine sg_U_pv_p (k := ?_)
        rw [ec]
        exact plain _ (fun h => absurd h hcn)
  refine sg_U_pv_0 (k := ?_)
  exact loop cs.length 0 0 none none _ rfl (Nat.zero_le _) (fun b b0 b1 => sU_ne b0) ⟨sU_self _ _ _ _, Nat.zero_le _, fun k hk => by simp [f_sub_nil] at hk, fun c hc => by simp [f_sub_nil] at hc⟩ (Or.inl ⟨rfl, fun c hc => by simp at hc⟩)
end CP
