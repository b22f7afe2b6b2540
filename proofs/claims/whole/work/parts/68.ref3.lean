/-! the reference: write, written, same, isPredicate, times -/
theorem kc_in {ar : Int → Nat} {cs : List Int} {p n i : Nat} (h : i < n) : kc ar cs p n i = (ap ar cs p i : Int) := by unfold kc; rw [if_pos h]
theorem kc_no {ar : Int → Nat} {cs : List Int} {p n : Nat} : kc ar cs p n n = -1 := by unfold kc; rw [if_neg (by omega)]
section CR3
variable {l : Launch} {G : sG} {L x d : Nat}
theorem c_R_wr {ar : Int → Nat} {f : Nat} {cs : List Int} {kk : Nat} (hwf : f_wf ar kk cs) (h6 : cs.length ≤ 6000) (hrg : ∀ c ∈ cs, -12 ≤ c ∧ c < 40) (hk : sKd (hSh L) f = (0, 100)) (hf : 84 < f ∧ (f < 114 ∨ f = 123)) : ∀ (n p : Nat) (I : sI) (a : Int), p < cs.length → f_tk ar 1 (cs.drop p) ≤ n → tr ar I 0 cs → I 84 18 = a → 0 ≤ a → a + f_tk ar 1 (cs.drop p) ≤ 100 →
    sCall l G mM_write (sRm (d + n) 0) [.inr (.inl 84), .inl (p : Int), .inr (.inl f)] (hS L x I) (qV L x (wrt I f a (f_s ar cs p))) := by
  intro n
  induction n with
  | zero =>
    intro p I a hp hn
    have := (f_s_pos ar hwf hp).1
    omega
  | succ n ih =>
    intro p I a hp hn ht hat h0 h1
    have hpos := f_s_pos ar hwf hp
    obtain ⟨t1, t2, t3, t4⟩ := tr_at ht hp
    have hend := pre_end ar hwf hp
    refine sCall_of (by decide) (Nat.le_of_ble_eq_true rfl) (sV1s_c trivial (sV1s_c (sV1_i (by omega) (by omega)) (sV1s_c trivial sV1s_n))) rfl ?_
    show sJ l G mM_write (sRm (d + (n + 1)) 0) _ 0 (6 * 0) 0 [some (.inr (.inl 84)), some (.inl (p : Int)), some (.inr (.inl f)), none] [] (hSh L, hRF, I, x)
    have hsa : sArr (hSh L) 0 f (I 84 18) := by rw [hat]; exact hAr hk (by omega) (by omega)
    have loop : ∀ (m i : Nat) (ka : Int) (I2 : sI), m = ar cs[p] - i → i ≤ ar cs[p] → ka = kc ar cs p (ar cs[p]) i → I2 = wrt I f a (cs[p] :: pre ar cs p i) →
        sJ l G mM_write (sRm (d + (n + 1)) 0) (qV L x (wrt I f a (f_s ar cs p))) 0 (6 * 0) 18 [some (.inr (.inl 84)), some (.inl (p : Int)), some (.inr (.inl f)), some (.inl ka)] [] (hSh L, hRF, I2, x) := by
      intro m
      induction m with
      | zero =>
        intro i ka I2 hm hi hka hI2
        have hi' : i = ar cs[p] := by omega
        subst hi'
        rw [kc_no] at hka
        refine sg_R_wr_x (k := ?_)
        exact sc_retV ct_M_write ⟨rfl, by rw [hI2, hend]⟩
      | succ m ihm =>
        intro i ka I2 hm hi hka hI2
        have hi' : i < ar cs[p] := by omega
        rw [kc_in hi'] at hka
        subst hka
        have hlt := ap_lt ar hwf hp hi'
        have hkd := ap_kid ar hwf hp hi'
        have hpa := pre_ap ar cs p i
        have ht2 : tr ar I2 0 cs := tr_upd hwf ht (fun w g1 g2 j _ _ => by rw [hI2, wrt_o _ _ _ _ (by omega) (by omega)])
        refine sg_R_wr_k (k := ?_)
        refine sc_vV (as := [.inl _, .inr (.inl _)]) (rest := []) (cc := 6) ct_M_write lk_M_write lm_M_119 (ih (ap ar cs p i) I2 (a + (cs[p] :: pre ar cs p i).length) hlt.2 (by omega) ht2 (by rw [hI2, wrt_18 _ _ _ (by omega)]) (by omega) (by rw [List.length_cons]; omega)) rfl ?_
        have e116 : wrt I2 f (a + (cs[p] :: pre ar cs p i).length) (f_s ar cs (ap ar cs p i)) 116 (ap ar cs p i : Int) = kc ar cs p (ar cs[p]) (i + 1) := by
          rw [wrt_o _ _ _ _ (by omega) (by omega), hI2, wrt_o _ _ _ _ (by omega) (by omega)]
          exact t4 i hi'
        refine sg_R_wr_n (k := ?_)
        exact ihm (i + 1) _ _ (by omega) (by omega) e116 (by rw [hI2, wrt_app _ _ _ _ (by omega), pre_s ar hwf hp hi', List.cons_append])
    refine sg_R_wr_0 (k := ?_)
    refine loop (ar cs[p]) 0 _ _ rfl (Nat.zero_le _) (by first | exact t3 | rfl) ?_
    rw [hat, wrt_one _ _ _ (by omega), pre_0]
theorem c_R_wn {ar : Int → Nat} {f : Nat} {cs : List Int} {kk p : Nat} {I : sI} (hwf : f_wf ar kk cs) (h6 : cs.length ≤ 6000) (hrg : ∀ c ∈ cs, -12 ≤ c ∧ c < 40) (hk : sKd (hSh L) f = (0, 100)) (hf : 84 < f ∧ (f < 114 ∨ f = 123)) (hp : p < cs.length) (ht : tr ar I 0 cs) (h1 : f_tk ar 1 (cs.drop p) ≤ 100) :
    sCall l G mM_written (sRm (d + 101) 0) [.inr (.inl 84), .inl (p : Int), .inr (.inl f)] (hS L x I) (qI L x (f_s ar cs p).length (wrt I f 0 (f_s ar cs p))) := by
  refine sCall_of (by decide) (Nat.le_of_ble_eq_true rfl) (sV1s_c trivial (sV1s_c (sV1_i (by omega) (by omega)) (sV1s_c trivial sV1s_n))) rfl ?_
  show sJ l G mM_written (sRm (d + 101) 0) _ 0 (6 * 0) 0 [some (.inr (.inl 84)), some (.inl (p : Int)), some (.inr (.inl f))] [] (hSh L, hRF, I, x)
  refine sg_R_wn_0 (k := ?_)
  have ht2 : tr ar (sU I 84 18 0) 0 cs := tr_upd hwf ht (fun w g1 g2 j _ _ => by rw [sU_ne (by omega)])
  refine sc_vV (as := [.inl _, .inr (.inl _)]) (rest := []) (cc := 6) ct_M_written lk_M_write lm_M_119 (c_R_wr (d := d) hwf h6 hrg hk hf 100 p _ 0 hp h1 ht2 (hU_eq _ _ _ _) (by omega) (by omega)) rfl ?_
  have e : wrt (sU I 84 18 0) f 0 (f_s ar cs p) = wrt I f 0 (f_s ar cs p) := by
    funext b k
    unfold wrt sU
    split
    · rfl
    · split
      · rfl
      · rfl
  rw [e]
  refine sg_R_wn_1 (k := ?_)
  rw [wrt_18 _ _ _ (by omega), Int.zero_add]
  exact sc_ret ct_M_written ⟨rfl, rfl⟩
theorem c_R_sa {ar : Int → Nat} {cs : List Int} {kk : Nat} {I : sI} (hwf : f_wf ar kk cs) (h6 : cs.length ≤ 6000) (ht : tr ar I 0 cs) : ∀ (n p q : Nat), p < cs.length → q < cs.length → f_tk ar 1 (cs.drop p) ≤ n →
    sCall l G mM_same (sRm (d + n) 0) [.inr (.inl 84), .inl (p : Int), .inl (q : Int)] (hS L x I) (qE L x (fun r I' => I' = I ∧ ((r = 1 ∧ f_s ar cs p = f_s ar cs q) ∨ (r = 0 ∧ f_s ar cs p ≠ f_s ar cs q)))) := by
  intro n
  induction n with
  | zero =>
    intro p q hp hq hn
    have := (f_s_pos ar hwf hp).1
    omega
  | succ n ih =>
    intro p q hp hq hn
    obtain ⟨t1, t2, t3, t4⟩ := tr_at ht hp
    obtain ⟨u1, u2, u3, u4⟩ := tr_at ht hq
    refine sCall_of (by decide) (Nat.le_of_ble_eq_true rfl) (sV1s_c trivial (sV1s_c (sV1_i (by omega) (by omega)) (sV1s_c (sV1_i (by omega) (by omega)) sV1s_n))) rfl ?_
    show sJ l G mM_same (sRm (d + (n + 1)) 0) _ 0 (6 * 0) 0 [some (.inr (.inl 84)), some (.inl (p : Int)), some (.inl (q : Int)), none, none] [] (hSh L, hRF, I, x)
    by_cases hc : cs[p] = cs[q]
    · by_cases hw : f_tk ar 1 (cs.drop p) = f_tk ar 1 (cs.drop q)
      · refine sg_R_sa_g (k := ?_)
        have key := fs_eq ar hwf hp hq hc
        rw [← hc] at u3 u4
        have loop : ∀ (m i : Nat) (ka kb : Int), m = ar cs[p] - i → i ≤ ar cs[p] → ka = kc ar cs p (ar cs[p]) i → kb = kc ar cs q (ar cs[p]) i → (kd ar cs p (ar cs[p]) = kd ar cs q (ar cs[p]) ↔ (kd ar cs p (ar cs[p])).drop i = (kd ar cs q (ar cs[p])).drop i) →
            sJ l G mM_same (sRm (d + (n + 1)) 0) (qE L x (fun r I' => I' = I ∧ ((r = 1 ∧ f_s ar cs p = f_s ar cs q) ∨ (r = 0 ∧ f_s ar cs p ≠ f_s ar cs q)))) 0 (6 * 0) 30 [some (.inr (.inl 84)), some (.inl (p : Int)), some (.inl (q : Int)), some (.inl kb), some (.inl ka)] [] (hSh L, hRF, I, x) := by
          intro m
          induction m with
          | zero =>
            intro i ka kb hm hi hka hkb hd
            have hi' : i = ar cs[p] := by omega
            subst hi'
            rw [kc_no] at hka
            refine sg_R_sa_x (k := ?_)
            exact sc_retZ ct_M_same ⟨_, _, rfl, rfl, rfl, Or.inl ⟨rfl, key.mpr (hd.mpr (by rw [kd_end, kd_end]))⟩⟩
          | succ m ihm =>
            intro i ka kb hm hi hka hkb hd
            have hi' : i < ar cs[p] := by omega
            rw [kc_in hi'] at hka hkb
            subst hka
            subst hkb
            have hlt := ap_lt ar hwf hp hi'
            have hlq := ap_lt ar hwf hq (i := i) (by rw [← hc]; exact hi')
            have hkd := ap_kid ar hwf hp hi'
            refine sg_R_sa_k (k := ?_)
            refine sc_vE (as := [.inl _, .inl _]) (rest := []) (cc := 6) ct_M_same lk_M_same lm_M_123 (ih (ap ar cs p i) (ap ar cs q i) hlt.2 hlq.2 (by omega)) rfl (fun r I1 hr => ?_)
            rw [kd_drop ar cs p hi', kd_drop ar cs q hi', List.cons.injEq] at hd
            obtain ⟨rfl, ⟨rfl, he⟩ | ⟨rfl, he⟩⟩ := hr
            · refine sg_R_sa_y (k := ?_)
              exact ihm (i + 1) _ _ (by omega) (by omega) (t4 i hi') (u4 i hi') (hd.trans ⟨fun h => h.2, fun h => ⟨he, h⟩⟩)
            · refine sg_R_sa_n (k := ?_)
              exact sc_retZ ct_M_same ⟨_, _, rfl, rfl, rfl, Or.inr ⟨rfl, fun h => he (hd.mp (key.mp h)).1⟩⟩
        exact loop (ar cs[p]) 0 _ _ rfl (Nat.zero_le _) (by first | exact t3 | rfl) u3 (by rw [List.drop_zero, List.drop_zero])
      · refine sg_R_sa_w (k := ?_)
        exact sc_retZ ct_M_same ⟨_, _, rfl, rfl, rfl, Or.inr ⟨rfl, fun h => hw (fs_hd ar hwf hp hq h).2⟩⟩
    · refine sg_R_sa_c (k := ?_)
      exact sc_retZ ct_M_same ⟨_, _, rfl, rfl, rfl, Or.inr ⟨rfl, fun h => hc (fs_hd ar hwf hp hq h).1⟩⟩
/-- the reference's predicates -/
def rP (I : sI) (pr : Int → Bool) : Prop := (∀ c, c < 0 → pr c = false) ∧ ∀ c, 0 ≤ c → c < 40 → (I 87 c = 0 ∧ pr c = false) ∨ (I 87 c = 1 ∧ pr c = true)
theorem c_R_ip {ar : Int → Nat} {pr : Int → Bool} {cs : List Int} {p : Nat} {I : sI} (h6 : cs.length ≤ 6000) (hrg : ∀ c ∈ cs, -12 ≤ c ∧ c < 40) (ht : tr ar I 0 cs) (hP : rP I pr) (hp : p < cs.length) :
    sCall l G mM_isPredicate (sRm d 0) [.inr (.inl 84), .inl (p : Int)] (hS L x I) (qI L x (if pr cs[p] = true then 1 else 0) I) := by
  refine sCall_of (by decide) (Nat.le_of_ble_eq_true rfl) (sV1s_c trivial (sV1s_c (sV1_i (by omega) (by omega)) sV1s_n)) rfl ?_
  show sJ l G mM_isPredicate (sRm d 0) _ 0 (6 * 0) 0 [some (.inr (.inl 84)), some (.inl (p : Int))] [] (hSh L, hRF, I, x)
  obtain ⟨t1, t2, t3, t4⟩ := tr_at ht hp
  have hca := hrg cs[p] (List.getElem_mem hp)
  by_cases hc : cs[p] < 0
  · refine sg_R_ip_v (k := ?_)
    exact sc_retZ ct_M_isPredicate ⟨by rw [hP.1 _ hc]; rfl, rfl⟩
  · rcases hP.2 cs[p] (by omega) (by omega) with ⟨h1, h2⟩ | ⟨h1, h2⟩
    · have h3 : I 87 (I 114 p) = 0 := by rw [t1]; exact h1
      refine sg_R_ip_f (k := ?_)
      exact sc_retZ ct_M_isPredicate ⟨by rw [h2]; rfl, rfl⟩
    · have h3 : I 87 (I 114 p) = 1 := by rw [t1]; exact h1
      refine sg_R_ip_t (k := ?_)
      exact sc_retZ ct_M_isPredicate ⟨by rw [h2]; rfl, rfl⟩
theorem c_R_ti {ar : Int → Nat} {cs : List Int} {kk : Nat} {y : Int} (hwf : f_wf ar kk cs) (h6 : cs.length ≤ 6000) (hrg : ∀ c ∈ cs, -6 ≤ c ∧ c < 40) (hy : y = 1 ∨ y = -1) : ∀ (n p : Nat) (I : sI), p < cs.length → f_tk ar 1 (cs.drop p) ≤ n → tr ar I 0 cs → (∀ j, 0 ≤ j → j < 6 → -100000 + f_tk ar 1 (cs.drop p) ≤ I 118 j ∧ I 118 j ≤ 100000 - f_tk ar 1 (cs.drop p)) →
    sCall l G mM_times (sRm (d + n) 0) [.inr (.inl 84), .inl (p : Int), .inl y] (hS L x I) (qV L x (tms I y (f_s ar cs p))) := by
  intro n
  induction n with
  | zero =>
    intro p I hp hn
    have := (f_s_pos ar hwf hp).1
    omega
  | succ n ih =>
    intro p I hp hn ht hb
    have hpos := f_s_pos ar hwf hp
    obtain ⟨t1, t2, t3, t4⟩ := tr_at ht hp
    have hend := pre_end ar hwf hp
    have hca := hrg cs[p] (List.getElem_mem hp)
    refine sCall_of (by decide) (Nat.le_of_ble_eq_true rfl) (sV1s_c trivial (sV1s_c (sV1_i (by omega) (by omega)) (sV1s_c (sV1_i (by omega) (by omega)) sV1s_n))) rfl ?_
    show sJ l G mM_times (sRm (d + (n + 1)) 0) _ 0 (6 * 0) 0 [some (.inr (.inl 84)), some (.inl (p : Int)), some (.inl y), none] [] (hSh L, hRF, I, x)
    have loop : ∀ (m i : Nat) (ka : Int) (I2 : sI), m = ar cs[p] - i → i ≤ ar cs[p] → ka = kc ar cs p (ar cs[p]) i → I2 = tms I y (cs[p] :: pre ar cs p i) →
        sJ l G mM_times (sRm (d + (n + 1)) 0) (qV L x (tms I y (f_s ar cs p))) 0 (6 * 0) 23 [some (.inr (.inl 84)), some (.inl (p : Int)), some (.inl y), some (.inl ka)] [] (hSh L, hRF, I2, x) := by
      intro m
      induction m with
      | zero =>
        intro i ka I2 hm hi hka hI2
        have hi' : i = ar cs[p] := by omega
        subst hi'
        rw [kc_no] at hka
        refine sg_R_ti_x (k := ?_)
        exact sc_retV ct_M_times ⟨rfl, by rw [hI2, hend]⟩
      | succ m ihm =>
        intro i ka I2 hm hi hka hI2
        have hi' : i < ar cs[p] := by omega
        rw [kc_in hi'] at hka
        subst hka
        have hlt := ap_lt ar hwf hp hi'
        have hkd := ap_kid ar hwf hp hi'
        have hpa := pre_ap ar cs p i
        have ht2 : tr ar I2 0 cs := tr_upd hwf ht (fun w g1 g2 j _ _ => by rw [hI2, tms_o _ _ _ (by omega)])
        refine sg_R_ti_k (k := ?_)
        refine sc_vV (as := [.inl _, .inl _]) (rest := []) (cc := 6) ct_M_times lk_M_times lm_M_130 (ih (ap ar cs p i) I2 hlt.2 (by omega) ht2 (fun j g1 g2 => by
          have h1 := hb j g1 g2
          have h2 := tms_b I hy (cs[p] :: pre ar cs p i) (j := j)
          rw [← hI2, List.length_cons] at h2
          omega)) rfl ?_
        have e116 : tms I2 y (f_s ar cs (ap ar cs p i)) 116 (ap ar cs p i : Int) = kc ar cs p (ar cs[p]) (i + 1) := by
          rw [tms_o _ _ _ (by omega), hI2, tms_o _ _ _ (by omega)]
          exact t4 i hi'
        refine sg_R_ti_n (k := ?_)
        exact ihm (i + 1) _ _ (by omega) (by omega) e116 (by rw [hI2, tms_app, pre_s ar hwf hp hi', List.cons_append])
    by_cases hc : cs[p] < 0
    · have hb2 := hb (-1 - cs[p]) (by omega) (by omega)
      have hb3 := hb (-1 - I 114 p) (by omega) (by omega)
      refine sg_R_ti_v (k := ?_)
      refine loop (ar cs[p]) 0 _ _ rfl (Nat.zero_le _) (by first | exact t3 | rfl) ?_
      rw [t1, pre_0]
      exact tms_v I y _ hc (by omega)
    · refine sg_R_ti_s (k := ?_)
      refine loop (ar cs[p]) 0 _ _ rfl (Nat.zero_le _) (by first | exact t3 | rfl) ?_
      rw [pre_0, tms_c _ _ _ (by omega)]
end CR3
