/-! Unifier: weighValues -/
def ind (W : Int → Int) : Nat → Nat := fun v => if W (v : Nat) = 0 then 1 else 0
theorem ind_le (W : Int → Int) : ∀ n, rsum (ind W) n ≤ n := by
  intro n
  induction n with
  | zero => exact Nat.le_refl _
  | succ n ih =>
    simp only [rsum]
    have : ind W n ≤ 1 := by unfold ind; split <;> omega
    omega
theorem uC_ind (W : Int → Int) : uC W = rsum (ind W) 12 := rfl
theorem bU_id {W : Int → Int} {v z : Int} (h : W v = z) : bU W v z = W := by
  funext k
  unfold bU
  by_cases hk : k = v
  · rw [if_pos hk, hk, h]
  · rw [if_neg hk]
theorem uC_pos {W : Int → Int} (h : 0 < uC W) : ∃ c, -12 ≤ c ∧ c < 0 ∧ W (-1 - c) = 0 := by
  have key : ∀ n, 0 < rsum (ind W) n → ∃ v, v < n ∧ W (v : Nat) = 0 := by
    intro n
    induction n with
    | zero => intro h; exact absurd h (by simp [rsum])
    | succ n ih =>
      intro h
      simp only [rsum] at h
      by_cases hz : W (n : Nat) = 0
      · exact ⟨n, by omega, hz⟩
      · have e : ind W n = 0 := by unfold ind; rw [if_neg hz]
        obtain ⟨v, v1, v2⟩ := ih (by omega)
        exact ⟨v, by omega, v2⟩
  obtain ⟨v, v1, v2⟩ := key 12 h
  exact ⟨-1 - v, by omega, by omega, by rw [show -1 - (-1 - (v : Int)) = v by omega]; exact v2⟩
theorem uC_none {W : Int → Int} (h : uC W = 0) : ∀ c, -12 ≤ c → c < 0 → W (-1 - c) ≠ 0 := by
  intro c c0 c1 hc
  have hpos : ∀ n, (-1 - c).toNat < n → 0 < rsum (ind W) n := by
    intro n
    induction n with
    | zero => intro h; omega
    | succ n ih =>
      intro h
      simp only [rsum]
      by_cases hn : (-1 - c).toNat = n
      · have : ind W n = 1 := by unfold ind; rw [← hn, show (((-1 - c).toNat : Nat) : Int) = -1 - c by omega, if_pos hc]
        omega
      · have := ih (by omega)
        omega
  have := hpos 12 (by omega)
  rw [uC_ind] at h
  omega
section CW3
variable {l : Launch} {G : sG} {L x d : Nat} {I : sI}
def wvP (I : sI) (sv : Int → Int) (T : Int → List Int) : Int → sI → Prop := fun r I' => (∀ z, z ≠ 82 → I' z = I z) ∧ ((r = 1 ∧ ∃ K, wOk sv T (I' 82) K ∧ uC (I' 82) = 0) ∨ (r = 0 ∧ ∃ W K, wOk sv T W K ∧ stk sv T W ∧ 0 < uC W))
theorem c_U_wv {rt : Int → Int} {hh : Int → Nat} {q : Nat} {V : Int → Prop} {T : Int → List Int} (hF : uF I V T) (hR : uR I rt hh q) (hq : q ≤ 211) (hs : ∀ c, -12 ≤ c → c < 0 → I 79 (rt (199 - c)) = -1 ∨ V (I 79 (rt (199 - c)))) :
    sCall l G mU_weighValues (sRm (d + 2) 0) [.inr (.inl 75)] (hS L x I) (qE L x (wvP I (fun c => I 79 (rt (199 - c))) T)) := by
  refine sCall_of (by decide) (Nat.le_of_ble_eq_true rfl) (sV1s_c trivial sV1s_n) rfl ?_
  show sJ l G mU_weighValues (sRm (d + 2) 0) _ 0 (6 * 0) 0 [some (.inr (.inl 75)), none, none, none] [] (hSh L, hRF, I, x)
  -- the cells that stay
  have hRz : ∀ I' : sI, (∀ z, z ≠ 82 → I' z = I z) → uR I' rt hh q := fun I' h => by unfold uR; rw [h 78 (by omega)]; exact hR
  have hFz : ∀ I' : sI, (∀ z, z ≠ 82 → I' z = I z) → uF I' V T := fun I' h => uF_upd hF (h 3 (by omega)) (h 76 (by omega)) (h 77 (by omega))
  -- the end
  have fin : ∀ (un ro : Int) (oA : Option sV) (I' : sI) (K : Nat), (∀ z, z ≠ 82 → I' z = I z) → wOk (fun c => I 79 (rt (199 - c))) T (I' 82) K → un = uC (I' 82) → (un ≠ 0 → stk (fun c => I 79 (rt (199 - c))) T (I' 82)) → sJ l G mU_weighValues (sRm (d + 2) 0) (qE L x (wvP I (fun c => I 79 (rt (199 - c))) T)) 0 (6 * 0) 59 [some (.inr (.inl 75)), some (.inl un), some (.inl ro), oA] [] (hSh L, hRF, I', x) := by
    intro un ro oA I' K hI hw hun hst
    by_cases h0 : un = 0
    · refine sg_U_wv_t (k := ?_)
      exact sc_retZ ct_U_weighValues ⟨_, _, rfl, rfl, hI, Or.inl ⟨rfl, K, hw, by omega⟩⟩
    · refine sg_U_wv_f (k := ?_)
      exact sc_retZ ct_U_weighValues ⟨_, _, rfl, rfl, hI, Or.inr ⟨rfl, I' 82, K, hw, hst h0, by omega⟩⟩
  -- one round
  have inner : ∀ (ro : Int) (W0 : Int → Int), 0 ≤ ro → ro < 12 → (∀ (un : Int) (oA : Option sV) (I' : sI) (K : Nat), (∀ z, z ≠ 82 → I' z = I z) → wOk (fun c => I 79 (rt (199 - c))) T (I' 82) K → un = uC (I' 82) → (stk (fun c => I 79 (rt (199 - c))) T (I' 82) ∨ (uC (I' 82) < uC W0 ∧ ¬ stk (fun c => I 79 (rt (199 - c))) T W0)) → sJ l G mU_weighValues (sRm (d + 2) 0) (qE L x (wvP I (fun c => I 79 (rt (199 - c))) T)) 0 (6 * 0) 23 [some (.inr (.inl 75)), some (.inl un), some (.inl (ro + 1)), oA] [] (hSh L, hRF, I', x)) →
      ∀ (n v : Nat) (un : Int) (I' : sI) (K : Nat), n = 12 - v → v ≤ 12 → (∀ z, z ≠ 82 → I' z = I z) → wOk (fun c => I 79 (rt (199 - c))) T (I' 82) K → un = rsum (ind (I' 82)) v → ((I' 82 = W0 ∧ ∀ c : Int, -12 ≤ c → c < 0 → -1 - c < v → W0 (-1 - c) = 0 → uk W0 (T (I 79 (rt (199 - c))))) ∨ (uC (I' 82) < uC W0 ∧ ¬ stk (fun c => I 79 (rt (199 - c))) T W0)) →
      sJ l G mU_weighValues (sRm (d + 2) 0) (qE L x (wvP I (fun c => I 79 (rt (199 - c))) T)) 0 (6 * 0) 32 [some (.inr (.inl 75)), some (.inl un), some (.inl ro), some (.inl v)] [] (hSh L, hRF, I', x) := by
    intro ro W0 ro0 ro1 next n
    induction n with
    | zero =>
      intro v un I' K hn hv hI hw hun hc
      have : v = 12 := by omega
      subst this
      refine sg_U_wv_z (k := ?_)
      refine next un _ I' K hI hw hun ?_
      rcases hc with ⟨h1, h2⟩ | h2
      · left
        rw [h1]
        exact fun c c0 c1 hz => h2 c c0 c1 (by omega) hz
      · exact Or.inr h2
    | succ n ih =>
      intro v un I' K hn hv hI hw hun hc
      have hvl := ind_le (I' 82) v
      have hwb := (hw.2 (-1 - (v : Int)) (by omega) (by omega)).1
      have hih := ih (v + 1)
      have hrs : rsum (ind (I' 82)) (v + 1) = rsum (ind (I' 82)) v + ind (I' 82) v := rfl
      by_cases hz : I' 82 v = 0
      · refine sg_U_wv_u (k := ?_)
        refine sc_vI (as := [.inl _]) (rest := [.inr (.inl _), .inl _, .inr (.inl _)]) (cc := 5) ct_U_weighValues lk_U_schemaOf lm_U_so_83 (c_U_so (d := d) (hRz I' hI) hq (by omega) (by omega)) rfl ?_
        have e79 : I' 79 = I 79 := hI 79 (by omega)
        have esv : rt (200 + (v : Int)) = rt (199 - (-1 - (v : Int))) := by congr 1; omega
        have hz' : I' 82 (-1 - (-1 - (v : Int))) = 0 := by rw [show -1 - (-1 - (v : Int)) = v by omega]; exact hz
        have hne := (hw.2 (-1 - (v : Int)) (by omega) (by omega)).2.1 hz'
        have hV := (hs (-1 - (v : Int)) (by omega) (by omega)).resolve_left hne
        rw [e79, esv]
        have hWb : ∀ u, 0 ≤ u → u < 12 → 0 ≤ I' 82 u ∧ I' 82 u ≤ 101 := fun u u0 u1 => by
          have := (hw.2 (-1 - u) (by omega) (by omega)).1
          rw [show -1 - (-1 - u) = u by omega] at this
          exact this
        refine sc_vE (as := [.inl _]) (rest := [.inl _, .inr (.inl _)]) (cc := 5) ct_U_weighValues lk_U_weightWithValues lm_U_ww_90 (c_U_ww (d := d) (hFz I' hI) hV hWb) rfl (fun r I1 hr => ?_)
        obtain ⟨rfl, hr⟩ := hr
        have hFI := hFz I1 hI
        have hTb := hFI _ hV
        rcases hr with ⟨rfl, hu⟩ | ⟨hu, hr1, hr2⟩
        · refine sg_U_wv_v (k := ?_)
          have e82 : sU I1 82 v 0 = I1 := by
            funext b k
            unfold sU
            by_cases hb : b = 82 ∧ k = v
            · rw [if_pos hb, hb.1, hb.2, hz]
            · rw [if_neg hb]
          rw [e82]
          refine sg_U_wv_e (k := ?_)
          refine hih (un + 1) I1 K (by omega) (by omega) hI hw ?_ ?_
          · rw [hrs, hun]
            have : ind (I1 82) v = 1 := by unfold ind; rw [if_pos hz]
            omega
          · rcases hc with ⟨h1, h2⟩ | h2
            · refine Or.inl ⟨h1, fun c c0 c1 cv hcz => ?_⟩
              by_cases hcv : -1 - c = v
              · rw [← h1, show c = -1 - (v : Int) by omega]
                exact hu
              · exact h2 c c0 c1 (by omega) hcz
            · exact Or.inr h2
        · refine sg_U_wv_v (k := ?_)
          have e82 : sU I1 82 v r 82 = bU (I1 82) (-1 - (-1 - (v : Int))) r := by rw [sU_b, show -1 - (-1 - (v : Int)) = v by omega]
          have hw' : wOk (fun c => I 79 (rt (199 - c))) T (sU I1 82 v r 82) (K + 1) := by
            rw [e82]
            exact wOk_upd hw (by omega) (by omega) hz' (fun d hd => (hTb.2.2.2.2.2 d hd).1) hu (List.length_pos_iff.mpr (f_wf_ne _ hTb.2.2.2.1)) hr1 (by omega) (by omega)
          have hcnt : uC (sU I1 82 v r 82) + 1 = uC (I1 82) := by
            rw [e82]
            exact uC_upd (by omega) (by omega) hz' (by omega)
          have hnz : ¬ sU I1 82 v r 82 v = 0 := by rw [sU_self]; omega
          refine sg_U_wv_d (k := ?_)
          refine hih un _ (K + 1) (by omega) (by omega) (fun z hzz => by rw [sU_ne hzz]; exact hI z hzz) hw' ?_ ?_
          · have e1 : rsum (ind (sU I1 82 v r 82)) (v + 1) = rsum (ind (sU I1 82 v r 82)) v + ind (sU I1 82 v r 82) v := rfl
            have e2 : ind (sU I1 82 v r 82) v = 0 := by unfold ind; rw [if_neg hnz]
            have e3 : rsum (ind (sU I1 82 v r 82)) v = rsum (ind (I1 82)) v := rsum_congr v (fun k hk => by unfold ind; rw [hU_nj (by omega)])
            omega
          · refine Or.inr ?_
            rcases hc with ⟨h1, h2⟩ | h2
            · rw [h1] at hcnt hu hz'
              exact ⟨by omega, fun hst => hu (hst (-1 - (v : Int)) (by omega) (by omega) hz')⟩
            · exact ⟨by omega, h2.2⟩
      · refine sg_U_wv_k (k := ?_)
        refine sg_U_wv_d (k := ?_)
        refine hih un I' K (by omega) (by omega) hI hw ?_ ?_
        · rw [hrs, hun]
          have : ind (I' 82) v = 0 := by unfold ind; rw [if_neg hz]
          omega
        · rcases hc with ⟨h1, h2⟩ | h2
          · refine Or.inl ⟨h1, fun c c0 c1 cv hcz => ?_⟩
            by_cases hcv : -1 - c = v
            · rw [h1, ← hcv] at hz
              exact absurd hcz hz
            · exact h2 c c0 c1 (by omega) hcz
          · exact Or.inr h2
  -- the rounds
  have outer : ∀ (n : Nat) (ro un : Int) (oA : Option sV) (I' : sI) (K : Nat), n = (12 - ro).toNat → 0 ≤ ro → ro ≤ 12 → (∀ z, z ≠ 82 → I' z = I z) → wOk (fun c => I 79 (rt (199 - c))) T (I' 82) K → ((ro = 0 ∧ un = 12) ∨ un = uC (I' 82)) → (stk (fun c => I 79 (rt (199 - c))) T (I' 82) ∨ uC (I' 82) + ro ≤ 12) → sJ l G mU_weighValues (sRm (d + 2) 0) (qE L x (wvP I (fun c => I 79 (rt (199 - c))) T)) 0 (6 * 0) 23 [some (.inr (.inl 75)), some (.inl un), some (.inl ro), oA] [] (hSh L, hRF, I', x) := by
    intro n
    induction n with
    | zero =>
      intro ro un oA I' K hn r0 r1 hI hw hun hst
      have : ro = 12 := by omega
      subst this
      refine sg_U_wv_x (k := ?_)
      refine fin un 12 oA I' K hI hw (hun.resolve_left (fun h => by omega)) (fun h => hst.resolve_right (fun h2 => by omega))
    | succ n ih =>
      intro ro un oA I' K hn r0 r1 hI hw hun hst
      by_cases h0 : un ≤ 0
      · refine sg_U_wv_y (k := ?_)
        refine fin un ro oA I' K hI hw (hun.resolve_left (fun h => by omega)) (fun h => by omega)
      · refine sg_U_wv_r (k := ?_)
        refine inner ro (I' 82) r0 (by omega) (fun un2 oA2 I2 K2 hI2 hw2 hun2 hst2 => ?_) 12 0 0 I' K rfl (by omega) hI hw rfl (Or.inl ⟨rfl, fun c c0 c1 cv => by omega⟩)
        refine ih (ro + 1) un2 oA2 I2 K2 (by omega) (by omega) (by omega) hI2 hw2 (Or.inr hun2) ?_
        rcases hst2 with h | ⟨h, h'⟩
        · exact Or.inl h
        · have := hst.resolve_left h'
          exact Or.inr (by omega)
  -- the first weights
  have first : ∀ (n : Nat) (v : Int) (I' : sI), n = (12 - v).toNat → 0 ≤ v → v ≤ 12 → (∀ z, z ≠ 82 → I' z = I z) → (∀ c : Int, -12 ≤ c → c < 0 → -1 - c < v → I' 82 (-1 - c) = if I 79 (rt (199 - c)) = -1 then 1 else 0) → sJ l G mU_weighValues (sRm (d + 2) 0) (qE L x (wvP I (fun c => I 79 (rt (199 - c))) T)) 0 (6 * 0) 2 [some (.inr (.inl 75)), some (.inl v), none, none] [] (hSh L, hRF, I', x) := by
    intro n
    induction n with
    | zero =>
      intro v I' hn v0 v1 hI hk
      have : v = 12 := by omega
      subst this
      refine sg_U_wv_1 (k := ?_)
      have hle := ind_le (I' 82) 12
      have hw : wOk (fun c => I 79 (rt (199 - c))) T (I' 82) 0 := by
        refine ⟨by rw [uC_ind]; omega, fun c c0 c1 => ?_⟩
        have := hk c c0 c1 (by omega)
        rw [this]
        by_cases h1 : I 79 (rt (199 - c)) = -1
        · rw [if_pos h1]
          refine ⟨by omega, fun h => by omega, fun _ => ⟨0, Nat.le_refl _, fun k _ => ?_, fun c' hc' _ => ?_, rfl⟩⟩
          · cases k with
            | zero => rfl
            | succ k => show (if I 79 (rt (199 - c)) = -1 then [c] else _) = [c]; rw [if_pos h1]
          · have : c' = c := List.mem_singleton.mp hc'
            subst this
            exact h1
        · rw [if_neg h1]
          exact ⟨by omega, fun _ => h1, fun h => absurd rfl h⟩
      refine outer 12 0 12 none I' 0 rfl (by omega) (by omega) hI hw (Or.inl ⟨rfl, rfl⟩) (Or.inr ?_)
      rw [uC_ind]
      omega
    | succ n ih =>
      intro v I' hn v0 v1 hI hk
      refine sg_U_wv_c (k := ?_)
      refine sc_vI (as := [.inl _]) (rest := [.inl _, .inr (.inl _)]) (cc := 5) ct_U_weighValues lk_U_schemaOf lm_U_so_83 (c_U_so (d := d) (hRz I' hI) hq (by omega) (by omega)) rfl ?_
      have e79 : I' 79 = I 79 := hI 79 (by omega)
      have esv : rt (200 + v) = rt (199 - (-1 - v)) := by congr 1; omega
      rw [e79, esv]
      have step : ∀ z : Int, z = (if I 79 (rt (199 - (-1 - v))) = -1 then 1 else 0) → sJ l G mU_weighValues (sRm (d + 2) 0) (qE L x (wvP I (fun c => I 79 (rt (199 - c))) T)) 0 (6 * 0) 2 [some (.inr (.inl 75)), some (.inl (v + 1)), none, none] [] (hSh L, hRF, sU I' 82 v z, x) := fun z hz => by
        refine ih (v + 1) _ (by omega) (by omega) (by omega) (fun b hb => by rw [sU_ne hb]; exact hI b hb) (fun c c0 c1 cv => ?_)
        by_cases hcv : -1 - c = v
        · rw [hcv, hU_eq, hz, show -1 - v = c by omega]
        · rw [hU_nj hcv]
          exact hk c c0 c1 (by omega)
      by_cases h1 : I 79 (rt (199 - (-1 - v))) = -1
      · refine sg_U_wv_n (k := ?_)
        exact step _ (by rw [if_pos h1])
      · refine sg_U_wv_s (k := ?_)
        exact step _ (by rw [if_neg h1])
  refine sg_U_wv_0 (k := ?_)
  exact first 12 0 I rfl (by omega) (by omega) (fun _ _ => rfl) (fun c c0 c1 cv => by omega)
end CW3
