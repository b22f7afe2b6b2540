/-! Unifier: write -/
theorem xp_none {sv : Int → Int} {T : Int → List Int} {c : Int} (h : sv c = -1) : ∀ k, xp sv T k c = [c] := by
  intro k
  cases k with
  | zero => rfl
  | succ k => show (if sv c = -1 then [c] else _) = [c]; rw [if_pos h]
theorem f_sub_id {σ : Int → List Int} {l : List Int} (h : ∀ c ∈ l, c < 0 → σ c = [c]) : f_sub σ l = l := by
  induction l with
  | nil => rfl
  | cons e l ih =>
    rw [f_sub_c, ih (fun c hc => h c (List.mem_cons_of_mem _ hc))]
    by_cases he : e < 0
    · rw [if_pos he, h e List.mem_cons_self he]; rfl
    · rw [if_neg he]; rfl
theorem xp_on1 {sv : Int → Int} {T : Int → List Int} (k : Nat) {c : Int} (hc : c < 0) : xp sv T (k + 1) c = f_sub (xp sv T k) (on1 sv T c) := by
  show (if sv c = -1 then [c] else f_sub (xp sv T k) (T (sv c))) = _
  unfold on1
  by_cases h : sv c = -1
  · rw [if_pos h, if_pos h, f_sub_c, if_pos hc, f_sub_nil, List.append_nil, xp_none h]
  · rw [if_neg h, if_neg h]
theorem xp_step {sv : Int → Int} {T : Int → List Int} (k : Nat) (l : List Int) : f_sub (xp sv T (k + 1)) l = f_sub (xp sv T k) (f_sub (on1 sv T) l) := by
  rw [f_sub_sub]
  exact f_sub_congr (fun c _ hc => xp_on1 k hc)
theorem f_sub_len_ge {σ : Int → List Int} {l : List Int} (h : ∀ c ∈ l, c < 0 → 0 < (σ c).length) : l.length ≤ (f_sub σ l).length := by
  induction l with
  | nil => exact Nat.le_refl _
  | cons e l ih =>
    rw [f_sub_c, List.length_append, List.length_cons]
    have := ih (fun c hc => h c (List.mem_cons_of_mem _ hc))
    by_cases he : e < 0
    · rw [if_pos he]
      have := h e List.mem_cons_self he
      omega
    · rw [if_neg he, List.length_singleton]
      omega
theorem tm_bc {I : sI} {s t : Nat} {cs : List Int} (hst : s ≠ t) (h1 : s + 1 ≠ t + 1) (hx1 : t + 1 ≠ s + 2) (hx2 : s + 1 ≠ t) (h : tm I t cs) : tm (sBc I s t) s cs := by
  obtain ⟨a1, a2, a3, a4⟩ := h
  refine ⟨by unfold sBc; rw [sU_self]; exact a1, a2, fun k hk => ?_, a4⟩
  unfold sBc
  rw [sU_ne (by omega), sCp_ne (by omega)]
  unfold sCp
  rw [if_pos ⟨rfl, by omega, by omega⟩]
  exact a3 k hk
section CWR
variable {l : Launch} {G : sG} {L x d : Nat} {I : sI}
def wrP (I : sI) (s t : Nat) (Y Z : List Int) : Int → sI → Prop := fun r I' => (∀ z, z ≠ s → z ≠ s + 1 → z ≠ s + 2 → z ≠ t → z ≠ t + 1 → z ≠ 83 → I' z = I z) ∧ ((r = 0 ∧ (100 < Y.length ∨ 6 < (nml [] Z).length)) ∨ (r = 1 ∧ Y.length ≤ 100 ∧ (nml [] Z).length ≤ 6 ∧ tm I' s (canon Z)))
theorem c_U_wr {s t : Nat} {rt : Int → Int} {hh : Int → Nat} {q K : Nat} {V : Int → Prop} {T : Int → List Int} (hx : x ≠ 0) (hF : uF I V T) (h0 : V 0) (hR : uR I rt hh q) (hq : q ≤ 211) (hs : hT s) (ht : hT t) (hst : s ≠ t)
    (hsv : ∀ c, -12 ≤ c → c < 0 → I 79 (rt (199 - c)) = -1 ∨ (V (I 79 (rt (199 - c))) ∧ 0 ≤ I 76 (I 79 (rt (199 - c))))) (hrt : ∀ c, -12 ≤ c → c < 0 → I 79 (rt (199 - c)) = -1 → 200 ≤ rt (199 - c))
    (hw : wOk (fun c => I 79 (rt (199 - c))) T (I 82) K) (hu : uC (I 82) = 0) :
    sCall l G mU_write (sRm (d + 3) 0) [.inr (.inl 75), .inr (.inl s), .inr (.inl t)] (hS L x I) (qE L x (wrP I s t (f_sub (xp (fun c => I 79 (rt (199 - c))) T 12) (T 0)) ((f_sub (xp (fun c => I 79 (rt (199 - c))) T 12) (T 0)).map (ren rt)))) := by
  refine sCall_of (by decide) (Nat.le_of_ble_eq_true rfl) (sV1s_c trivial (sV1s_c trivial (sV1s_c trivial sV1s_n))) rfl ?_
  show sJ l G mU_write (sRm (d + 3) 0) _ 0 (6 * 0) 0 [some (.inr (.inl 75)), some (.inr (.inl s)), some (.inr (.inl t)), none, none] [] (hSh L, hRF, I, x)
  have hl1 := hT_lt hs
  have hl2 := hT_lt ht
  have n1 := hT_ne hs ht hst
  have hS := uS_of hF
  have hF0 := hF 0 h0
  have hK : K ≤ 12 := by have := hw.1; omega
  have hknown : ∀ l : List Int, (∀ c ∈ l, -12 ≤ c) → ¬ uk (I 82) l := by
    rintro l hl ⟨c, hc, c1, c2⟩
    exact uC_none hu c (hl c hc) c1 c2
  have hb0 : ∀ c ∈ T 0, -12 ≤ c := fun c hc => (hF0.2.2.2.2.2 c hc).1
  obtain ⟨y1, y2, y3⟩ := wN_sub hw (T 0) hb0 (hknown _ hb0)
  rw [← y2 12 hK] at y1 y3
  have hnonempty : ∀ (k : Nat) (c : Int), -12 ≤ c → c < 0 → 0 < (xp (fun c => I 79 (rt (199 - c))) T k c).length := by
    intro k c c0 c1
    cases k with
    | zero => exact Nat.zero_lt_one
    | succ k =>
      rcases hsv c c0 c1 with h | h
      · rw [xp_none (sv := fun c => I 79 (rt (199 - c))) h]; exact Nat.zero_lt_one
      · show 0 < (if I 79 (rt (199 - c)) = -1 then [c] else f_sub _ (T (I 79 (rt (199 - c))))).length
        by_cases h9 : I 79 (rt (199 - c)) = -1
        · rw [if_pos h9]; exact Nat.zero_lt_one
        · rw [if_neg h9, (T_cons hS h.1).1, f_sub_c, if_neg (by omega), List.length_append, List.length_singleton]
          omega
  have hWb : ∀ v, 0 ≤ v → v < 12 → 0 ≤ I 82 v ∧ I 82 v ≤ 101 := fun v v0 v1 => by
    have := (hw.2 (-1 - v) (by omega) (by omega)).1
    rw [show -1 - (-1 - v) = v by omega] at this
    exact this
  generalize hY : f_sub (xp (fun c => I 79 (rt (199 - c))) T 12) (T 0) = Y at *
  -- naming, the last step
  have fin : ∀ (mo ro : Int) (I' : sI), (∀ z, z ≠ s → z ≠ s + 1 → z ≠ s + 2 → z ≠ t → z ≠ t + 1 → z ≠ 83 → I' z = I z) → tm I' s Y → sJ l G mU_write (sRm (d + 3) 0) (qE L x (wrP I s t Y (Y.map (ren rt)))) 0 (6 * 0) 35 [some (.inr (.inl 75)), some (.inr (.inl s)), some (.inr (.inl t)), some (.inl mo), some (.inl ro)] [.inr (.inl s), .inr (.inl 75)] (hSh L, hRF, I', x) := by
    intro mo ro I' hI hm
    have hR' : uR I' rt hh q := by unfold uR; rw [hI 78 (by omega) (by omega) (by omega) (by omega) (by omega) (by omega)]; exact hR
    refine sc_vE (as := [.inr (.inl _)]) (rest := []) (cc := 5) ct_U_write lk_U_nameVariables lm_U_nm_111 (c_U_nm (d := d) hR' hq hs hm (fun c hc hn => hrt c (hm.2.2.2 c hc).1 hn (y3 c hc hn))) rfl (fun r I2 hr => ?_)
    obtain ⟨hI2, hC, hr⟩ := hr
    have hz : ∀ z, z ≠ s → z ≠ s + 1 → z ≠ s + 2 → z ≠ t → z ≠ t + 1 → z ≠ 83 → I2 z = I z := fun z z1 z2 z3 z4 z5 z6 => by rw [hI2 z z2 z6, hI z z1 z2 z3 z4 z5 z6]
    by_cases h6 : (nml [] (Y.map (ren rt))).length ≤ 6
    · rw [if_pos h6] at hr
      subst hr
      refine sc_retZ ct_U_write ⟨_, _, rfl, rfl, hz, Or.inr ⟨rfl, hm.2.1, h6, ?_, ?_, fun k hk => ?_, fun c hc => ?_⟩⟩
      · rw [hI2 s (by omega) (by omega), hm.1]
        simp [canon]
      · simp [canon]; exact hm.2.1
      · have hk' : k < Y.length := by simpa [canon] using hk
        rw [hC k hk']
        simp [canon]
      · obtain ⟨e, he, rfl⟩ := List.mem_map.mp hc
        unfold cv
        by_cases hn : e < 0
        · rw [if_pos hn]
          have : (nml [] (Y.map (ren rt))).idxOf e < (nml [] (Y.map (ren rt))).length := List.idxOf_lt_length_of_mem ((nml_mem _ _ _).mpr (Or.inr ⟨he, hn⟩))
          omega
        · rw [if_neg hn]
          obtain ⟨e', he', rfl⟩ := List.mem_map.mp he
          have hb := hm.2.2.2 e' he'
          have : ren rt e' = e' := by
            unfold ren
            by_cases h : e' < 0 ∧ 200 ≤ rt (199 - e')
            · unfold ren at hn
              rw [if_pos h] at hn
              omega
            · rw [if_neg h]
          rw [this]
          exact hb
    · rw [if_neg h6] at hr
      subst hr
      exact sc_retZ ct_U_write ⟨_, _, rfl, rfl, hz, Or.inl ⟨rfl, Or.inr (by omega)⟩⟩
  refine sg_U_wr_0 (k := ?_)
  refine sc_vE (as := [.inl _]) (rest := []) (cc := 5) ct_U_write lk_U_weightWithValues lm_U_ww_90 (c_U_ww (d := d) hF h0 hWb) rfl (fun r I1 hr => ?_)
  obtain ⟨rfl, hr⟩ := hr
  have hr := hr.resolve_left (fun h => hknown _ hb0 h.2)
  obtain ⟨-, hr1, hr2⟩ := hr
  by_cases hbig : 100 < r
  · refine sg_U_wr_f (k := ?_)
    exact sc_retZ ct_U_write ⟨_, _, rfl, rfl, fun _ _ _ _ _ _ _ => rfl, Or.inl ⟨rfl, Or.inl (by omega)⟩⟩
  · have hYl : Y.length ≤ 100 := by omega
    refine sg_U_wr_t (k := ?_)
    have hsz : ∀ z, z ≠ s → sU I1 s 2 0 z = I1 z := fun z hz => sU_ne hz
    have hT0l : (T 0).length ≤ 100 := by
      have := f_sub_len_ge (σ := xp (fun c => I1 79 (rt (199 - c))) T 12) (l := T 0) (fun c hc hn => hnonempty 12 c (hb0 c hc) hn)
      rw [hY] at this
      omega
    have hm0 : tm (sU I1 s 2 0) s [] := ⟨sU_self _ _ _ _, Nat.zero_le _, fun k hk => (by cases hk), fun c hc => (by cases hc)⟩
    refine sc_vF (as := [.inr (.inl _), .inl _]) (rest := []) (cc := 5) ct_U_write lk_U_addPlaces lm_U_pl_99 (c_U_pl (d := d) (cs := []) (uF_upd hF (hsz 3 (by omega)) (hsz 76 (by omega)) (hsz 77 (by omega))) hs h0 hm0 (by simpa using hT0l)) rfl (fun I2 hI2 => ?_)
    obtain ⟨hI2, hm2⟩ := hI2
    rw [List.nil_append] at hm2
    refine sg_U_wr_1 (k := ?_)
    have loop : ∀ (n j : Nat) (mo : Int) (cs : List Int) (I' : sI), n = 12 - j → j ≤ 12 → (∀ z, z ≠ s → z ≠ s + 1 → z ≠ s + 2 → z ≠ t → z ≠ t + 1 → z ≠ 83 → I' z = I1 z) → tm I' s cs → f_sub (xp (fun c => I1 79 (rt (199 - c))) T (12 - j)) cs = Y → (mo = 1 ∨ (mo = 0 ∧ ∀ c ∈ cs, c < 0 → I1 79 (rt (199 - c)) = -1)) →
        sJ l G mU_write (sRm (d + 3) 0) (qE L x (wrP I1 s t Y (Y.map (ren rt)))) 0 (6 * 0) 18 [some (.inr (.inl 75)), some (.inr (.inl s)), some (.inr (.inl t)), some (.inl mo), some (.inl j)] [] (hSh L, hRF, I', x) := by
      intro n
      induction n with
      | zero =>
        intro j mo cs I' hn hj hI hm hxp hmo
        have : j = 12 := by omega
        subst this
        refine sg_U_wr_x (k := ?_)
        have : cs = Y := by
          rw [← hxp]
          exact (f_sub_id (fun c _ _ => rfl)).symm
        rw [this] at hm
        exact fin mo 12 I' hI hm
      | succ n ih =>
        intro j mo cs I' hn hj hI hm hxp hmo
        by_cases hmz : mo = 0
        · refine sg_U_wr_y (k := ?_)
          have hall := (hmo.resolve_left (fun h => by omega)).2
          have : cs = Y := by
            rw [← hxp]
            exact (f_sub_id (fun c hc hn => xp_none (sv := fun c => I1 79 (rt (199 - c))) (hall c hc hn) _)).symm
          rw [this] at hm
          exact fin mo j I' hI hm
        · have hI79 : I' 79 = I1 79 := hI 79 (by omega) (by omega) (by omega) (by omega) (by omega) (by omega)
          have hF' : uF I' V T := uF_upd hF (hI 3 (by omega) (by omega) (by omega) (by omega) (by omega) (by omega)) (hI 76 (by omega) (by omega) (by omega) (by omega) (by omega) (by omega)) (hI 77 (by omega) (by omega) (by omega) (by omega) (by omega) (by omega))
          have hR' : uR I' rt hh q := by unfold uR; rw [hI 78 (by omega) (by omega) (by omega) (by omega) (by omega) (by omega)]; exact hR
          have hrow : f_sub (xp (fun c => I1 79 (rt (199 - c))) T (12 - (j + 1))) (f_sub (on1 (fun c => I1 79 (rt (199 - c))) T) cs) = Y := by
            rw [← xp_step, show 12 - (j + 1) + 1 = 12 - j by omega]
            exact hxp
          have hrb : ∀ c ∈ f_sub (on1 (fun c => I1 79 (rt (199 - c))) T) cs, -12 ≤ c := fun c hc => by
            rcases f_sub_mem hc with h | ⟨e, he, hen, h⟩
            · omega
            · unfold on1 at h
              have hbe := hm.2.2.2 e he
              rcases hsv e hbe.1 hen with h9 | h9
              · rw [if_pos h9, List.mem_singleton] at h
                omega
              · by_cases h8 : I1 79 (rt (199 - e)) = -1
                · rw [if_pos h8, List.mem_singleton] at h
                  omega
                · rw [if_neg h8] at h
                  exact ((hF _ h9.1).2.2.2.2.2 c h).1
          have hrl : (f_sub (on1 (fun c => I1 79 (rt (199 - c))) T) cs).length ≤ 100 := by
            have := f_sub_len_ge (σ := xp (fun c => I1 79 (rt (199 - c))) T (12 - (j + 1))) (l := f_sub (on1 (fun c => I1 79 (rt (199 - c))) T) cs) (fun c hc hn => hnonempty _ c (hrb c hc) hn)
            rw [hrow] at this
            omega
          refine sg_U_wr_c (k := ?_)
          refine sc_vE (as := [.inr (.inl _), .inr (.inl _)]) (rest := []) (cc := 5) ct_U_write lk_U_putValuesIn lm_U_pv_103 (c_U_pv (d := d) (cs := cs) hF' hR' hq ht hs (fun h => hst h.symm) (fun c c0 c1 => by
            rw [hI79]
            rcases hsv c c0 c1 with h | h
            · exact Or.inl h
            · exact Or.inr h.1) hm (by rw [hI79]; exact hrl)) rfl (fun r3 I3 hr3 => ?_)
          rw [hI79] at hr3
          obtain ⟨hf3, hm3, hr3⟩ := hr3
          refine sg_U_wr_d (k := ?_)
          have hw3 := hm3.1
          have hb3 := hm3.2.1
          refine sc_vV (as := [.inr (.inl _)]) (rest := []) (cc := 2) ct_U_write lk_T_become lm_U_bc_107 (c_T_become (d := d) hx hs ht hst (by omega) (by omega)) (by rw [(hT_k L hs).1]) ?_
          refine sg_U_wr_n (k := ?_)
          refine ih (j + 1) r3 (f_sub (on1 (fun c => I1 79 (rt (199 - c))) T) cs) (sBc I3 s t) (by omega) (by omega) (fun z z1 z2 z3 z4 z5 z6 => ?_) (tm_bc hst (by omega) (by omega) (by omega) hm3) hrow ?_
          · unfold sBc
            rw [sU_ne z1, sCp_ne z3, sCp_ne z2, hf3 z z4 z5, hI z z1 z2 z3 z4 z5 z6]
          · rcases hr3 with ⟨h1, h2⟩ | h1
            · right
              refine ⟨h1, ?_⟩
              have : f_sub (on1 (fun c => I1 79 (rt (199 - c))) T) cs = cs := f_sub_id (fun c hc hn => by unfold on1; rw [if_pos (h2 c hc hn)])
              rw [this]
              exact h2
            · exact Or.inl h1
    exact loop 12 0 1 (T 0) I2 rfl (by omega) (fun z z1 z2 z3 z4 z5 z6 => by rw [hI2 z z1 z2, hsz z z1]) hm2 hY (Or.inl rfl)
end CWR
