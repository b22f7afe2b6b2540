/-! the reference: matches, tried, hasAll, weighMatched, withMatched -/
theorem lm_M_144 : sLm "TermBenchModel" 144 mM_isPredicate = true := by decide +kernel
theorem lm_M_166 : sLm "TermBenchModel" 166 mM_matches = true := by decide +kernel
theorem lm_M_169 : sLm "TermBenchModel" 169 mM_hasAll = true := by decide +kernel
theorem lm_M_172 : sLm "TermBenchModel" 172 mM_weighMatched = true := by decide +kernel
theorem lm_M_175 : sLm "TermBenchModel" 175 mM_withMatched = true := by decide +kernel
theorem lm_M_178 : sLm "TermBenchModel" 178 mM_replaced = true := by decide +kernel
theorem lm_M_181 : sLm "TermBenchModel" 181 mM_nth = true := by decide +kernel
theorem lm_M_184 : sLm "TermBenchModel" 184 mM_tried = true := by decide +kernel
theorem lm_M_187 : sLm "TermBenchModel" 187 mM_found = true := by decide +kernel
theorem lm_M_200 : sLm "TermBenchModel" 200 mM_depth = true := by decide +kernel
theorem lm_M_162 : sLm "TermBenchModel" 162 mM_number = true := by decide +kernel
theorem lm_M_max : sIn (Cond.methodLink "TermBenchModel" 203 Lib.Math.max.name) = true := by decide +kernel
def maQ (I : sI) (ar : Int → Nat) (pr : Int → Bool) (cs ps : List Int) (a : Nat) (b : Int → Int) : Int → sI → Prop := fun r I' => (∀ w, w ≠ 122 → I' w = I w) ∧ ((r = 0 ∧ mf ar pr cs ps a b = none) ∨ (r = 1 ∧ ∃ e bb, mf ar pr cs ps a b = some (e, bb) ∧ aB (I' 122) bb ∧ bOk bb cs.length))
section CR5
variable {l : Launch} {G : sG} {L x d : Nat} {ar : Int → Nat} {pr : Int → Bool} {cs : List Int} {kk : Nat}
theorem c_R_ma (hwf : f_wf ar kk cs) (h6 : cs.length ≤ 6000) (hrg : ∀ c ∈ cs, -6 ≤ c ∧ c < 40) (hsz : ∀ p, p < cs.length → f_tk ar 1 (cs.drop p) ≤ 100) (hv : ∀ c, c < 0 → ar c = 0) : ∀ (n p a : Nat) (I : sI) (b : Int → Int), p < cs.length → a < cs.length → f_tk ar 1 (cs.drop p) ≤ n → tr ar I 0 cs → rP I pr → aB (I 122) b → bOk b cs.length →
    sCall l G mM_matches (sRm (d + 100 + n) 0) [.inr (.inl 84), .inl (p : Int), .inl (a : Int)] (hS L x I) (qE L x (maQ I ar pr cs (f_s ar cs p) a b)) := by
  intro n
  induction n with
  | zero =>
    intro p a I b hp ha hn
    have := (f_s_pos ar hwf hp).1
    omega
  | succ n ih =>
    intro p a I b hp ha hn ht hP hab hbo
    obtain ⟨t1, t2, t3, t4⟩ := tr_at ht hp
    obtain ⟨u1, u2, u3, u4⟩ := tr_at ht ha
    have hca := hrg cs[p] (List.getElem_mem hp)
    have hend := pre_end ar hwf hp
    refine sCall_of (by decide) (Nat.le_of_ble_eq_true rfl) (sV1s_c trivial (sV1s_c (sV1_i (by omega) (by omega)) (sV1s_c (sV1_i (by omega) (by omega)) sV1s_n))) rfl ?_
    show sJ l G mM_matches (sRm (d + 100 + (n + 1)) 0) _ 0 (6 * 0) 0 [some (.inr (.inl 84)), some (.inl (p : Int)), some (.inl (a : Int)), none, none] [] (hSh L, hRF, I, x)
    by_cases hc : cs[p] < 0
    · have hfs : f_s ar cs p = [cs[p]] := by rw [hend, hv _ hc, pre_0]
      have hm := mf_v ar pr b hc ha
      rw [hfs]
      have e1 : I 122 (-1 - I 114 p) = b (-1 - cs[p]) := by rw [t1]; exact hab _ (by omega) (by omega)
      have hb := hbo (-1 - cs[p]) (by omega) (by omega)
      by_cases hz : b (-1 - cs[p]) = -1
      · rw [if_pos hz] at hm
        refine sg_R_ma_i (k := ?_)
        refine sc_vI (as := [.inl _]) (rest := []) (cc := 6) ct_M_matches lk_M_isPredicate lm_M_144 (c_R_ip (d := d) h6 (fun c h => ⟨by have := hrg c h; omega, (hrg c h).2⟩) ht hP ha) rfl ?_
        by_cases hpr : pr cs[a] = true
        · rw [if_pos hpr] at hm ⊢
          refine sg_R_ma_p (k := ?_)
          exact sc_retZ ct_M_matches ⟨_, _, rfl, rfl, fun _ _ => rfl, Or.inl ⟨rfl, hm⟩⟩
        · rw [if_neg hpr] at hm ⊢
          refine sg_R_ma_b (k := ?_)
          refine sc_retZ ct_M_matches ⟨_, _, rfl, rfl, fun w g => sU_ne g, Or.inr ⟨rfl, _, _, hm, fun q g1 g2 => ?_, fun q g1 g2 => ?_⟩⟩
          · unfold bU
            rw [t1]
            by_cases hq : q = -1 - cs[p]
            · rw [if_pos hq, hq, hU_eq]
            · rw [if_neg hq, hU_nj hq]; exact hab q g1 g2
          · unfold bU
            by_cases hq : q = -1 - cs[p]
            · rw [if_pos hq]; right; omega
            · rw [if_neg hq]; exact hbo q g1 g2
      · rw [if_neg hz] at hm
        have hb2 := hb.resolve_left hz
        have e2 : I 122 (-1 - I 114 p) = (((b (-1 - cs[p])).toNat : Nat) : Int) := by rw [e1]; omega
        refine sg_R_ma_s (k := ?_)
        rw [e2]
        refine sc_vE (as := [.inl _, .inl _]) (rest := []) (cc := 6) ct_M_matches lk_M_same lm_M_123 (c_R_sa (d := d) hwf h6 ht 100 _ a (by omega) ha (hsz _ (by omega))) rfl (fun r I1 hr => ?_)
        obtain ⟨rfl, ⟨rfl, he⟩ | ⟨rfl, he⟩⟩ := hr
        · rw [if_pos he] at hm
          exact sc_retZ ct_M_matches ⟨_, _, rfl, rfl, fun _ _ => rfl, Or.inr ⟨rfl, _, _, hm, hab, hbo⟩⟩
        · rw [if_neg he] at hm
          exact sc_retZ ct_M_matches ⟨_, _, rfl, rfl, fun _ _ => rfl, Or.inl ⟨rfl, hm⟩⟩
    · by_cases hcc : cs[a] = cs[p]
      · refine sg_R_ma_g (k := ?_)
        rw [hcc] at u3 u4
        have loop : ∀ (m i : Nat) (ka kb : Int) (I2 : sI) (b2 : Int → Int), m = ar cs[p] - i → i ≤ ar cs[p] → ka = kc ar cs p (ar cs[p]) i → kb = kc ar cs a (ar cs[p]) i → (∀ w, w ≠ 122 → I2 w = I w) → mf ar pr cs (cs[p] :: pre ar cs p i) a b = some (ap ar cs a i, b2) → aB (I2 122) b2 → bOk b2 cs.length →
            sJ l G mM_matches (sRm (d + 100 + (n + 1)) 0) (qE L x (maQ I ar pr cs (f_s ar cs p) a b)) 0 (6 * 0) 59 [some (.inr (.inl 84)), some (.inl (p : Int)), some (.inl (a : Int)), some (.inl kb), some (.inl ka)] [] (hSh L, hRF, I2, x) := by
          intro m
          induction m with
          | zero =>
            intro i ka kb I2 b2 hm hi hka hkb hw2 hmf ha2 hb2
            have hi' : i = ar cs[p] := by omega
            subst hi'
            rw [kc_no] at hka
            refine sg_R_ma_x (k := ?_)
            exact sc_retZ ct_M_matches ⟨_, _, rfl, rfl, hw2, Or.inr ⟨rfl, _, _, by rw [hend]; exact hmf, ha2, hb2⟩⟩
          | succ m ihm =>
            intro i ka kb I2 b2 hm hi hka hkb hw2 hmf ha2 hb2
            have hi' : i < ar cs[p] := by omega
            rw [kc_in hi'] at hka hkb
            subst hka
            subst hkb
            have hlt := ap_lt ar hwf hp hi'
            have hla := ap_lt ar hwf ha (i := i) (by rw [hcc]; exact hi')
            have hkd := ap_kid ar hwf hp hi'
            have ht2 : tr ar I2 0 cs := tr_upd hwf ht (fun w g1 g2 j _ _ => by rw [hw2 w (by omega)])
            have hP2 : rP I2 pr := ⟨hP.1, fun c g1 g2 => by rw [hw2 87 (by omega)]; exact hP.2 c g1 g2⟩
            have e4 : I2 116 (ap ar cs p i : Int) = kc ar cs p (ar cs[p]) (i + 1) := by rw [hw2 116 (by omega)]; exact t4 i hi'
            have e5 : I2 116 (ap ar cs a i : Int) = kc ar cs a (ar cs[p]) (i + 1) := by rw [hw2 116 (by omega)]; exact u4 i hi'
            refine sg_R_ma_k (k := ?_)
            refine sc_vE (as := [.inl _, .inl _]) (rest := []) (cc := 6) ct_M_matches lk_M_matches lm_M_166 (ih (ap ar cs p i) (ap ar cs a i) I2 b2 hlt.2 hla.2 (by omega) ht2 hP2 ha2 hb2) rfl (fun r I3 hr => ?_)
            obtain ⟨hw3, hr⟩ := hr
            have hw4 : ∀ w, w ≠ 122 → I3 w = I w := fun w g => by rw [hw3 w g, hw2 w g]
            have hst := mf_some ar pr (f_s ar cs (ap ar cs p i)) hmf
            rw [List.cons_append, ← pre_s ar hwf hp hi'] at hst
            rcases hr with ⟨rfl, hn0⟩ | ⟨rfl, e, b3, hm3, ha3, hb3⟩
            · refine sg_R_ma_f (k := ?_)
              rw [hn0] at hst
              obtain ⟨rr, hrr⟩ := pre_le ar hwf hp (i := i + 1) (n := ar cs[p]) (by omega) (Nat.le_refl _)
              exact sc_retZ ct_M_matches ⟨_, _, rfl, rfl, hw4, Or.inl ⟨rfl, by rw [hend, hrr]; exact mf_none ar pr rr hst⟩⟩
            · refine sg_R_ma_n (k := ?_)
              rw [hm3] at hst
              obtain ⟨j, hj⟩ := f_wf_at ar hwf hla.2
              have he := mf_end ar pr cs hv _ 1 j _ _ _ _ (f_s_wf ar hwf hlt.2) hj hm3
              rw [← ap_s ar hwf ha (by rw [hcc]; exact hi')] at he
              rw [he] at hst
              exact ihm (i + 1) _ _ I3 b3 (by omega) (by omega) (by rw [hw3 116 (by omega)]; exact e4) (by rw [hw3 116 (by omega)]; exact e5) hw4 hst ha3 hb3
        exact loop (ar cs[p]) 0 _ _ I b rfl (Nat.zero_le _) t3 u3 (fun _ _ => rfl) (by rw [pre_0, mf_c ar pr [] b hc ha, if_pos hcc, ap_0]; rfl) hab hbo
      · refine sg_R_ma_c (k := ?_)
        exact sc_retZ ct_M_matches ⟨_, _, rfl, rfl, fun _ _ => rfl, Or.inl ⟨rfl, by rw [hend, mf_c ar pr _ b hc ha, if_neg hcc]⟩⟩
theorem c_R_td (hwf : f_wf ar kk cs) (h6 : cs.length ≤ 6000) (hrg : ∀ c ∈ cs, -6 ≤ c ∧ c < 40) (hsz : ∀ p, p < cs.length → f_tk ar 1 (cs.drop p) ≤ 100) (hv : ∀ c, c < 0 → ar c = 0) {p a : Nat} {I : sI} (hp : p < cs.length) (ha : a < cs.length) (ht : tr ar I 0 cs) (hP : rP I pr) :
    sCall l G mM_tried (sRm (d + 201) 0) [.inr (.inl 84), .inl (p : Int), .inl (a : Int)] (hS L x I) (qE L x (maQ I ar pr cs (f_s ar cs p) a (fun _ => -1))) := by
  refine sCall_of (by decide) (Nat.le_of_ble_eq_true rfl) (sV1s_c trivial (sV1s_c (sV1_i (by omega) (by omega)) (sV1s_c (sV1_i (by omega) (by omega)) sV1s_n))) rfl ?_
  show sJ l G mM_tried (sRm (d + 201) 0) _ 0 (6 * 0) 0 [some (.inr (.inl 84)), some (.inl (p : Int)), some (.inl (a : Int)), none] [] (hSh L, hRF, I, x)
  refine sg_R_td_0 (k := ?_)
  have loop : ∀ (m j : Nat) (I2 : sI), m = 6 - j → j ≤ 6 → (∀ w, w ≠ 122 → I2 w = I w) → (∀ v : Int, 0 ≤ v → v < j → I2 122 v = -1) → sJ l G mM_tried (sRm (d + 201) 0) (qE L x (maQ I ar pr cs (f_s ar cs p) a (fun _ => -1))) 0 (6 * 0) 2 [some (.inr (.inl 84)), some (.inl (p : Int)), some (.inl (a : Int)), some (.inl (j : Int))] [] (hSh L, hRF, I2, x) := by
    intro m
    induction m with
    | zero =>
      intro j I2 hm hj hw hz
      have : j = 6 := by omega
      subst this
      refine sg_R_td_1 (k := ?_)
      have ht2 : tr ar I2 0 cs := tr_upd hwf ht (fun w g1 g2 j _ _ => by rw [hw w (by omega)])
      have hP2 : rP I2 pr := ⟨hP.1, fun c g1 g2 => by rw [hw 87 (by omega)]; exact hP.2 c g1 g2⟩
      refine sc_vE (as := [.inl _, .inl _]) (rest := []) (cc := 6) ct_M_tried lk_M_matches lm_M_166 (c_R_ma (d := d) hwf h6 hrg hsz hv 100 p a I2 (fun _ => -1) hp ha (hsz p hp) ht2 hP2 (fun q g1 g2 => hz q g1 (by omega)) (fun q _ _ => Or.inl rfl)) rfl (fun r I3 hr => ?_)
      obtain ⟨hw3, hr⟩ := hr
      exact sc_retZ ct_M_tried ⟨_, _, rfl, rfl, fun w g => by rw [hw3 w g, hw w g], hr⟩ (by rcases hr with h | h <;> omega)
    | succ m ihm =>
      intro j I2 hm hj hw hz
      refine sg_R_td_z (k := ?_)
      refine ihm (j + 1) _ (by omega) (by omega) (fun w g => by rw [sU_ne g, hw w g]) (fun v g1 g2 => ?_)
      by_cases hv2 : v = j
      · rw [hv2, hU_eq]
      · rw [hU_nj hv2]; exact hz v g1 (by omega)
  exact loop 6 0 I rfl (by omega) (fun _ _ => rfl) (fun v g1 g2 => by omega)
theorem c_R_ha (hwf : f_wf ar kk cs) (h6 : cs.length ≤ 6000) (hrg : ∀ c ∈ cs, -6 ≤ c ∧ c < 40) (hv : ∀ c, c < 0 → ar c = 0) {I : sI} (ht : tr ar I 0 cs) : ∀ (n p : Nat), p < cs.length → f_tk ar 1 (cs.drop p) ≤ n →
    sCall l G mM_hasAll (sRm (d + n) 0) [.inr (.inl 84), .inl (p : Int)] (hS L x I) (qE L x (fun r I' => I' = I ∧ ((r = 1 ∧ ∀ c ∈ f_s ar cs p, c < 0 → 0 ≤ I 122 (-1 - c)) ∨ (r = 0 ∧ ∃ c ∈ f_s ar cs p, c < 0 ∧ I 122 (-1 - c) < 0)))) := by
  intro n
  induction n with
  | zero =>
    intro p hp hn
    have := (f_s_pos ar hwf hp).1
    omega
  | succ n ih =>
    intro p hp hn
    obtain ⟨t1, t2, t3, t4⟩ := tr_at ht hp
    have hca := hrg cs[p] (List.getElem_mem hp)
    have hend := pre_end ar hwf hp
    refine sCall_of (by decide) (Nat.le_of_ble_eq_true rfl) (sV1s_c trivial (sV1s_c (sV1_i (by omega) (by omega)) sV1s_n)) rfl ?_
    show sJ l G mM_hasAll (sRm (d + (n + 1)) 0) _ 0 (6 * 0) 0 [some (.inr (.inl 84)), some (.inl (p : Int)), none] [] (hSh L, hRF, I, x)
    by_cases hc : cs[p] < 0
    · have hfs : f_s ar cs p = [cs[p]] := by rw [hend, hv _ hc, pre_0]
      have e1 : I 122 (-1 - I 114 p) = I 122 (-1 - cs[p]) := by rw [t1]
      rw [hfs]
      by_cases hz : I 122 (-1 - cs[p]) < 0
      · refine sg_R_ha_n (k := ?_)
        exact sc_retZ ct_M_hasAll ⟨_, _, rfl, rfl, rfl, Or.inr ⟨rfl, _, List.mem_singleton.mpr rfl, hc, hz⟩⟩
      · refine sg_R_ha_y (k := ?_)
        exact sc_retZ ct_M_hasAll ⟨_, _, rfl, rfl, rfl, Or.inl ⟨rfl, fun c hcm _ => by rw [List.mem_singleton.mp hcm]; omega⟩⟩
    · refine sg_R_ha_g (k := ?_)
      have loop : ∀ (m i : Nat) (ka : Int), m = ar cs[p] - i → i ≤ ar cs[p] → ka = kc ar cs p (ar cs[p]) i → (∀ c ∈ pre ar cs p i, c < 0 → 0 ≤ I 122 (-1 - c)) →
          sJ l G mM_hasAll (sRm (d + (n + 1)) 0) (qE L x (fun r I' => I' = I ∧ ((r = 1 ∧ ∀ c ∈ f_s ar cs p, c < 0 → 0 ≤ I 122 (-1 - c)) ∨ (r = 0 ∧ ∃ c ∈ f_s ar cs p, c < 0 ∧ I 122 (-1 - c) < 0)))) 0 (6 * 0) 24 [some (.inr (.inl 84)), some (.inl (p : Int)), some (.inl ka)] [] (hSh L, hRF, I, x) := by
        intro m
        induction m with
        | zero =>
          intro i ka hm hi hka hall
          have hi' : i = ar cs[p] := by omega
          subst hi'
          rw [kc_no] at hka
          refine sg_R_ha_x (k := ?_)
          exact sc_retZ ct_M_hasAll ⟨_, _, rfl, rfl, rfl, Or.inl ⟨rfl, fun c hcm hn0 => by
            rw [hend] at hcm
            rcases List.mem_cons.mp hcm with h | h
            · omega
            · exact hall c h hn0⟩⟩
        | succ m ihm =>
          intro i ka hm hi hka hall
          have hi' : i < ar cs[p] := by omega
          rw [kc_in hi'] at hka
          subst hka
          have hlt := ap_lt ar hwf hp hi'
          have hkd := ap_kid ar hwf hp hi'
          refine sg_R_ha_k (k := ?_)
          refine sc_vE (as := [.inl _]) (rest := []) (cc := 6) ct_M_hasAll lk_M_hasAll lm_M_169 (ih (ap ar cs p i) hlt.2 (by omega)) rfl (fun r I1 hr => ?_)
          obtain ⟨rfl, ⟨rfl, hy⟩ | ⟨rfl, c, hcm, hn0, hz⟩⟩ := hr
          · refine sg_R_ha_t (k := ?_)
            exact ihm (i + 1) _ (by omega) (by omega) (t4 i hi') (fun c hcm hn0 => by
              rw [pre_s ar hwf hp hi'] at hcm
              rcases List.mem_append.mp hcm with h | h
              · exact hall c h hn0
              · exact hy c h hn0)
          · refine sg_R_ha_f (k := ?_)
            exact sc_retZ ct_M_hasAll ⟨_, _, rfl, rfl, rfl, Or.inr ⟨rfl, c, f_s_memp ar hwf hp hi' hcm, hn0, hz⟩⟩
      exact loop (ar cs[p]) 0 _ rfl (Nat.zero_le _) t3 (fun c hcm => by rw [pre_0] at hcm; cases hcm)
theorem c_R_wm (hwf : f_wf ar kk cs) (h6 : cs.length ≤ 6000) (hrg : ∀ c ∈ cs, -6 ≤ c ∧ c < 40) (hsz : ∀ p, p < cs.length → f_tk ar 1 (cs.drop p) ≤ 100) (hv : ∀ c, c < 0 → ar c = 0) {I : sI} (ht : tr ar I 0 cs) : ∀ (n p : Nat), p < cs.length → f_tk ar 1 (cs.drop p) ≤ n → (∀ c ∈ f_s ar cs p, c < 0 → 0 ≤ I 122 (-1 - c) ∧ I 122 (-1 - c) < cs.length) →
    sCall l G mM_weighMatched (sRm (d + n) 0) [.inr (.inl 84), .inl (p : Int)] (hS L x I) (qI L x (f_sub (vl ar cs (I 122)) (f_s ar cs p)).length I) := by
  intro n
  induction n with
  | zero =>
    intro p hp hn
    have := (f_s_pos ar hwf hp).1
    omega
  | succ n ih =>
    intro p hp hn hall
    obtain ⟨t1, t2, t3, t4⟩ := tr_at ht hp
    have hca := hrg cs[p] (List.getElem_mem hp)
    have hend := pre_end ar hwf hp
    have hbig : ∀ i, i ≤ ar cs[p] → (f_sub (vl ar cs (I 122)) (pre ar cs p i)).length ≤ 100 * 100 := fun i hi => by
      obtain ⟨r, hr⟩ := pre_le ar hwf hp hi (Nat.le_refl _)
      have h1 : (f_sub (vl ar cs (I 122)) (pre ar cs p i)).length ≤ 100 * (pre ar cs p i).length := f_sub_len_le (by omega) (fun c hcm hn0 => by
        have := hall c (by rw [hend, hr]; exact List.mem_cons_of_mem _ (List.mem_append_left _ hcm)) hn0
        unfold vl
        rw [f_s_len]
        exact hsz _ (by omega))
      have h2 := f_s_len ar cs p
      have h3 := hsz p hp
      rw [hend, hr, List.length_cons, List.length_append] at h2
      omega
    refine sCall_of (by decide) (Nat.le_of_ble_eq_true rfl) (sV1s_c trivial (sV1s_c (sV1_i (by omega) (by omega)) sV1s_n)) rfl ?_
    show sJ l G mM_weighMatched (sRm (d + (n + 1)) 0) _ 0 (6 * 0) 0 [some (.inr (.inl 84)), some (.inl (p : Int)), none, none] [] (hSh L, hRF, I, x)
    by_cases hc : cs[p] < 0
    · have hfs : f_s ar cs p = [cs[p]] := by rw [hend, hv _ hc, pre_0]
      rw [hfs] at hall ⊢
      have h1 := hall cs[p] (List.mem_singleton.mpr rfl) hc
      have e1 : I 122 (-1 - I 114 p) = (((I 122 (-1 - cs[p])).toNat : Nat) : Int) := by rw [t1]; omega
      obtain ⟨v1, v2, -, -⟩ := tr_at ht (p := (I 122 (-1 - cs[p])).toNat) (by omega)
      rw [← e1] at v2
      refine sg_R_wm_v (k := ?_)
      rw [v2]
      refine sc_ret ct_M_weighMatched ⟨?_, rfl⟩
      congr 4
      rw [f_sub_c, if_pos hc, f_sub_nil, List.append_nil]
      unfold vl
      rw [f_s_len]
    · refine sg_R_wm_g (k := ?_)
      have loop : ∀ (m i : Nat) (w ka : Int), m = ar cs[p] - i → i ≤ ar cs[p] → ka = kc ar cs p (ar cs[p]) i → w = 1 + (f_sub (vl ar cs (I 122)) (pre ar cs p i)).length →
          sJ l G mM_weighMatched (sRm (d + (n + 1)) 0) (qI L x (f_sub (vl ar cs (I 122)) (f_s ar cs p)).length I) 0 (6 * 0) 25 [some (.inr (.inl 84)), some (.inl (p : Int)), some (.inl w), some (.inl ka)] [] (hSh L, hRF, I, x) := by
        intro m
        induction m with
        | zero =>
          intro i w ka hm hi hka hw
          have hi' : i = ar cs[p] := by omega
          subst hi'
          rw [kc_no] at hka
          refine sg_R_wm_x (k := ?_)
          refine sc_ret ct_M_weighMatched ⟨?_, rfl⟩
          rw [hw, hend, f_sub_c, if_neg hc, List.length_append, List.length_singleton]
          congr 3
        | succ m ihm =>
          intro i w ka hm hi hka hw
          have hi' : i < ar cs[p] := by omega
          rw [kc_in hi'] at hka
          subst hka
          have hlt := ap_lt ar hwf hp hi'
          have hkd := ap_kid ar hwf hp hi'
          have hb1 := hbig i (by omega)
          have hb2 := hbig (i + 1) (by omega)
          rw [pre_s ar hwf hp hi', f_sub_app, List.length_append] at hb2
          refine sg_R_wm_k (k := ?_)
          refine sc_vI (as := [.inl _]) (rest := [.inl _]) (cc := 6) ct_M_weighMatched lk_M_weighMatched lm_M_172 (ih (ap ar cs p i) hlt.2 (by omega) (fun c hcm hn0 => hall c (f_s_memp ar hwf hp hi' hcm) hn0)) rfl ?_
          refine sg_R_wm_n (k := ?_)
          exact ihm (i + 1) _ _ (by omega) (by omega) (t4 i hi') (by rw [hw, pre_s ar hwf hp hi', f_sub_app, List.length_append]; omega)
      exact loop (ar cs[p]) 0 _ _ rfl (Nat.zero_le _) t3 (by rw [pre_0]; simp [f_sub])
theorem c_R_im (hwf : f_wf ar kk cs) (hrg : ∀ c ∈ cs, -6 ≤ c ∧ c < 40) (hsz : ∀ p, p < cs.length → f_tk ar 1 (cs.drop p) ≤ 100) (hv : ∀ c, c < 0 → ar c = 0) {σ : Int → List Int} {b0 : Int → Int} (hσ : ∀ c, σ c = f_s ar cs (b0 (-1 - c)).toNat) : ∀ (n p : Nat) (I : sI), p < cs.length → f_tk ar 1 (cs.drop p) ≤ n → tr ar I 0 cs → (cs.length : Int) ≤ I 84 17 → I 84 17 + (f_sub σ (f_s ar cs p)).length ≤ 6000 → I 122 = b0 → (∀ c ∈ f_s ar cs p, c < 0 → 0 ≤ b0 (-1 - c) ∧ b0 (-1 - c) < cs.length) →
    sCall l G mM_withMatched (sRm (d + 100 + n) 0) [.inr (.inl 84), .inl (p : Int)] (hS L x I) (qE L x (mkP I ar (f_sub σ (f_s ar cs p)))) := by
  intro n
  induction n with
  | zero =>
    intro p I hp hn
    have := (f_s_pos ar hwf hp).1
    omega
  | succ n ih =>
    intro p I hp hn ht htop h6 hbe hall
    have hpos := f_s_pos ar hwf hp
    obtain ⟨t1, t2, t3, t4⟩ := tr_at ht hp
    have hend := pre_end ar hwf hp
    have hca := hrg cs[p] (List.getElem_mem hp)
    refine sCall_of (by decide) (Nat.le_of_ble_eq_true rfl) (sV1s_c trivial (sV1s_c (sV1_i (by omega) (by omega)) sV1s_n)) rfl ?_
    show sJ l G mM_withMatched (sRm (d + 100 + (n + 1)) 0) _ 0 (6 * 0) 0 [some (.inr (.inl 84)), some (.inl (p : Int)), none, none, none, none] [] (hSh L, hRF, I, x)
    by_cases hc : cs[p] < 0
    · have hfs : f_s ar cs p = [cs[p]] := by rw [hend, hv _ hc, pre_0]
      rw [hfs] at hall h6 ⊢
      have h1 := hall cs[p] (List.mem_singleton.mpr rfl) hc
      have e1 : I 122 (-1 - I 114 p) = (((b0 (-1 - cs[p])).toNat : Nat) : Int) := by rw [t1, hbe]; omega
      have es : f_sub σ [cs[p]] = f_s ar cs (b0 (-1 - cs[p])).toNat := by rw [f_sub_c, if_pos hc, f_sub_nil, List.append_nil, hσ]
      rw [es] at h6 ⊢
      rw [f_s_len] at h6
      have hq : (b0 (-1 - cs[p])).toNat < cs.length := by omega
      refine sg_R_im_v (k := ?_)
      rw [e1]
      refine sc_vE (as := [.inl _]) (rest := []) (cc := 6) ct_M_withMatched lk_M_copy lm_M_127 (c_R_cp (d := d) hwf (fun c h => ⟨by have := hrg c h; omega, (hrg c h).2⟩) 100 _ I hq (hsz _ hq) ht htop h6) rfl (fun r I3 hr3 => ?_)
      exact sc_ret ct_M_withMatched ⟨_, _, rfl, rfl, hr3⟩
    · have hle : ∀ i, i ≤ ar cs[p] → (f_sub σ (pre ar cs p i)).length + 1 ≤ (f_sub σ (f_s ar cs p)).length := fun i hi => by
        obtain ⟨r, hr⟩ := pre_le ar hwf hp hi (Nat.le_refl _)
        rw [hend, f_sub_c, if_neg hc, hr, f_sub_app, List.length_append, List.length_append, List.length_singleton]
        omega
      have hle0 := hle 0 (Nat.zero_le _)
      refine sg_R_im_0 (k := ?_)
      refine sc_vI (as := [.inl _]) (rest := []) (cc := 6) ct_M_withMatched lk_M_fresh lm_M_111 (c_R_fr (d := 0) (by unfold sR; omega) (by omega) (by omega)) rfl ?_
      rw [t1]
      have F2 : bF I (frI I cs[p]) := frI_F I cs[p]
      have T2 := frI_top I cs[p]
      have P2 := frI_pt ar I cs[p]
      refine sg_R_im_1 (k := ?_)
      have loop : ∀ (m i : Nat) (I2 : sI) (la ka : Int) (oA : Option sV), m = ar cs[p] - i → i ≤ ar cs[p] → ka = kc ar cs p (ar cs[p]) i → bF I I2 → pt ar I2 (I 84 17) cs[p] i (f_sub σ (pre ar cs p i)) la → I2 84 17 = I 84 17 + 1 + (f_sub σ (pre ar cs p i)).length →
          sJ l G mM_withMatched (sRm (d + 100 + (n + 1)) 0) (qE L x (mkP I ar (f_sub σ (f_s ar cs p)))) 0 (6 * 0) 31 [some (.inr (.inl 84)), some (.inl (p : Int)), some (.inl (I 84 17)), some (.inl la), some (.inl ka), oA] [] (hSh L, hRF, I2, x) := by
        intro m
        induction m with
        | zero =>
          intro i I2 la ka oA hm hi hka F P T
          have hi' : i = ar cs[p] := by omega
          subst hi'
          rw [kc_no] at hka
          refine sg_R_im_x (k := ?_)
          obtain ⟨D1, D2, D3⟩ := pt_done P
          have es : f_sub σ (f_s ar cs p) = cs[p] :: f_sub σ (pre ar cs p (ar cs[p])) := by rw [hend, f_sub_c, if_neg hc, List.singleton_append]
          rw [es]
          exact sc_ret ct_M_withMatched ⟨_, _, rfl, rfl, rfl, F, by rw [T, List.length_cons]; omega, D1, D3⟩
        | succ m ihm =>
          intro i I2 la ka oA hm hi hka F P T
          have hi' : i < ar cs[p] := by omega
          rw [kc_in hi'] at hka
          subst hka
          have hlt := ap_lt ar hwf hp hi'
          have hkd := ap_kid ar hwf hp hi'
          have hl1 := hle (i + 1) (by omega)
          rw [pre_s ar hwf hp hi', f_sub_app, List.length_append] at hl1
          have hal2 : ∀ c ∈ f_s ar cs (ap ar cs p i), c < 0 → 0 ≤ b0 (-1 - c) ∧ b0 (-1 - c) < cs.length := fun c hcm hn0 => hall c (f_s_memp ar hwf hp hi' hcm) hn0
          refine sg_R_im_k (k := ?_)
          refine sc_vE (as := [.inl _]) (rest := []) (cc := 6) ct_M_withMatched lk_M_withMatched lm_M_175 (ih (ap ar cs p i) I2 hlt.2 (by omega) (bF_tr F hwf ht htop) (by omega) (by omega) (by rw [F.1 122 (by omega) (by omega)]; exact hbe) hal2) rfl (fun r I3 hr3 => ?_)
          obtain ⟨rfl, F3, T3, X3, R3⟩ := hr3
          have hw3 : f_wf ar 1 (f_sub σ (f_s ar cs (ap ar cs p i))) := f_sub_wfr ar hv (fun c hcm hn0 => by
            rw [hσ]
            have := hal2 c hcm hn0
            exact f_s_wf ar hwf (by omega)) (f_s_wf ar hwf hlt.2)
          obtain ⟨S1, S2, S3⟩ := mk_step rfl (by omega) F P T F3 X3 hw3 R3 T3
          refine sg_R_im_u (k := ?_)
          have hla := pt_la (by omega) P
          have hwt : I3 117 (I 84 17) = 1 + (f_sub σ (pre ar cs p i)).length := by rw [F3.2.2 117 _ (by omega) (by omega) (by omega)]; exact P.2.1
          have hwx : I3 117 (I2 84 17) = (f_sub σ (f_s ar cs (ap ar cs p i))).length := tr_root X3 hw3
          have hne : 0 < (f_sub σ (f_s ar cs (ap ar cs p i))).length := List.length_pos_iff.mpr (f_wf_ne ar hw3)
          refine sc_vV (as := [.inl _, .inl _, .inl _]) (rest := []) (cc := 6) ct_M_withMatched lk_M_under lm_M_115 (c_R_un (d := 0) (by omega) (by omega) (by omega) (by omega) (by omega) (by omega) (by omega) (by omega)) rfl ?_
          have e116 : un I3 (I 84 17) la (I2 84 17) 116 (ap ar cs p i : Int) = kc ar cs p (ar cs[p]) (i + 1) := by
            rw [S1.2.2 116 _ (by omega) (by omega) (by omega)]
            exact t4 i hi'
          refine sg_R_im_n (k := ?_)
          rw [← f_sub_app, ← pre_s ar hwf hp hi'] at S2 S3
          exact ihm (i + 1) _ _ _ _ (by omega) (by omega) e116 S1 S2 S3
      have e115 : frI I cs[p] 115 (p : Int) = kc ar cs p (ar cs[p]) 0 := by rw [F2.2.2 115 _ (by omega) (by omega) (by omega)]; exact t3
      exact loop (ar cs[p]) 0 _ _ _ _ rfl (Nat.zero_le _) e115 F2 (by rw [pre_0]; exact P2) (by rw [T2, pre_0]; simp [f_sub])
end CR5
