/-! Unifier: places, small methods -/
def ka (ar : Int → Nat) (w : List Int) : List (List Int) := f_args ar (ar (w.headD 0)) w.tail
theorem ka_ok (ar : Int → Nat) {w : List Int} (h : f_wf ar 1 w) : w = w.headD 0 :: (ka ar w).flatten ∧ (ka ar w).length = ar (w.headD 0) ∧ ∀ a ∈ ka ar w, f_wf ar 1 a := by
  cases w with
  | nil => exact absurd rfl (f_wf_ne ar h)
  | cons c l =>
    rw [f_wf_c, Nat.zero_add] at h
    obtain ⟨g1, g2, g3⟩ := f_args_ok ar _ _ h
    exact ⟨by show c :: l = c :: (f_args ar (ar c) l).flatten; rw [g1], g2, g3⟩
theorem f_s_arg (ar : Int → Nat) {as : List (List Int)} (has : ∀ a ∈ as, f_wf ar 1 a) {k : Nat} (hk : k < as.length) (c : Int) : f_s ar (c :: as.flatten) (1 + (as.take k).flatten.length) = as[k] := by
  have e1 : as.flatten = (as.take k).flatten ++ (as[k] ++ (as.drop (k + 1)).flatten) := by
    conv => lhs; rw [← List.take_append_drop k as, List.flatten_append, List.drop_eq_getElem_cons hk, List.flatten_cons]
  have e2 : (c :: as.flatten).drop (1 + (as.take k).flatten.length) = as[k] ++ (as.drop (k + 1)).flatten := by
    rw [Nat.add_comm, List.drop_succ_cons, e1, List.drop_left]
  have e3 := f_tk_app ar as[k] (as.drop (k + 1)).flatten 1 0 (has _ (List.getElem_mem hk))
  unfold f_s
  rw [e2, show (1 : Nat) = 1 + 0 from rfl, e3, f_tk_0, Nat.add_zero, List.take_left]
/-- the place of the k-th term of the term at p -/
def kp (ar : Int → Nat) (T : Int → List Int) (p : Int) (k : Nat) : Int := p + 1 + (((ka ar (T p)).take k).flatten.length : Nat)
def uF (I : sI) (V : Int → Prop) (T : Int → List Int) : Prop := ∀ p, V p → 0 ≤ p ∧ p + (T p).length ≤ 200 ∧ I 77 p = p + (T p).length ∧ f_wf (hArt I) 1 (T p) ∧ (∀ i : Nat, (h : i < (T p).length) → V (p + i) ∧ I 76 (p + i) = (T p)[i] ∧ T (p + i) = f_s (hArt I) (T p) i) ∧ (∀ c ∈ T p, -12 ≤ c ∧ c < 40)
theorem uF_hd {I : sI} {V : Int → Prop} {T : Int → List Int} (h : uF I V T) {p : Int} (hp : V p) : I 76 p = (T p).headD 0 ∧ 0 < (T p).length ∧ -12 ≤ I 76 p ∧ I 76 p < 40 := by
  obtain ⟨h1, h2, h3, h4, h5, h6⟩ := h p hp
  have hl : 0 < (T p).length := List.length_pos_iff.mpr (f_wf_ne _ h4)
  have := (h5 0 hl).2.1
  rw [show p + ((0 : Nat) : Int) = p by omega] at this
  have hb := h6 _ (List.getElem_mem hl)
  refine ⟨?_, hl, by omega, by omega⟩
  rw [this, List.headD_eq_head?_getD, List.head?_eq_getElem?, List.getElem?_eq_getElem hl]
  rfl
theorem uF_kid {I : sI} {V : Int → Prop} {T : Int → List Int} (h : uF I V T) {p : Int} (hp : V p) {k : Nat} (hk : k < hArt I (I 76 p)) :
    ∃ hk' : k < (ka (hArt I) (T p)).length, V (kp (hArt I) T p k) ∧ T (kp (hArt I) T p k) = (ka (hArt I) (T p))[k] ∧ kp (hArt I) T p (k + 1) = kp (hArt I) T p k + (T (kp (hArt I) T p k)).length := by
  obtain ⟨h1, h2, h3, h4, h5, h6⟩ := h p hp
  obtain ⟨k1, k2, k3⟩ := ka_ok _ h4
  have hd := uF_hd h hp
  have hk' : k < (ka (hArt I) (T p)).length := by rw [k2, ← hd.1]; exact hk
  have hlen : (T p).length = 1 + (ka (hArt I) (T p)).flatten.length := by
    conv => lhs; rw [k1, List.length_cons]
    omega
  have hsp : (ka (hArt I) (T p)).flatten.length = ((ka (hArt I) (T p)).take k).flatten.length + ((ka (hArt I) (T p)).drop k).flatten.length := by
    conv => lhs; rw [← List.take_append_drop k (ka (hArt I) (T p)), List.flatten_append, List.length_append]
  have hkw := k3 _ (List.getElem_mem hk')
  have hkl : 0 < ((ka (hArt I) (T p))[k]).length := List.length_pos_iff.mpr (f_wf_ne _ hkw)
  have hdk : ((ka (hArt I) (T p)).drop k).flatten.length = ((ka (hArt I) (T p))[k]).length + ((ka (hArt I) (T p)).drop (k + 1)).flatten.length := by
    rw [List.drop_eq_getElem_cons hk', List.flatten_cons, List.length_append]
  have hi : 1 + ((ka (hArt I) (T p)).take k).flatten.length < (T p).length := by omega
  have g := h5 _ hi
  have e : kp (hArt I) T p k = p + ((1 + ((ka (hArt I) (T p)).take k).flatten.length : Nat) : Int) := by unfold kp; omega
  have eT : T (kp (hArt I) T p k) = (ka (hArt I) (T p))[k] := by
    rw [e, g.2.2]
    conv => lhs; arg 2; rw [k1]
    exact f_s_arg _ k3 hk' _
  refine ⟨hk', by rw [e]; exact g.1, eT, ?_⟩
  rw [eT]
  unfold kp
  rw [List.take_succ, List.getElem?_eq_getElem hk', List.flatten_append, List.length_append]
  simp
  omega
/-- the pairs -/
def uQ (I : sI) (P : List (Int × Int)) : Prop := I 75 6 = P.length ∧ P.length ≤ 201 ∧ ∀ k : Nat, (h : k < P.length) → I 80 k = P[k].1 ∧ I 81 k = P[k].2
/-- the kinds: a root for each node -/
def uR (I : sI) (rt : Int → Int) (hh : Int → Nat) (q : Nat) : Prop := ∀ n, 0 ≤ n → n < 212 → (0 ≤ I 78 n ∧ I 78 n < 212) ∧ (I 78 n = n → rt n = n ∧ hh n = 0) ∧ (I 78 n ≠ n → rt n = rt (I 78 n) ∧ hh n = hh (I 78 n) + 1) ∧ hh n ≤ q ∧ (0 ≤ rt n ∧ rt n < 212 ∧ I 78 (rt n) = rt n)
section CU
variable {l : Launch} {G : sG} {L x d : Nat} {I : sI}
theorem lm_U_lo_36 : sLm "TermBench$Unifier" 36 mU_loadOne = true := by decide +kernel
theorem lm_U_ap_44 : sLm "TermBench$Unifier" 44 mU_addPair = true := by decide +kernel
theorem lm_U_na_55 : sLm "TermBench$Unifier" 55 mU_nodeAt = true := by decide +kernel
theorem lm_U_rt_59 : sLm "TermBench$Unifier" 59 mU_root = true := by decide +kernel
theorem lm_U_jn_62 : sLm "TermBench$Unifier" 62 mU_join = true := by decide +kernel
theorem lm_U_nv_66 : sLm "TermBench$Unifier" 66 mU_noValueBeginsWithPredicate = true := by decide +kernel
theorem lm_U_wv_70 : sLm "TermBench$Unifier" 70 mU_weighValues = true := by decide +kernel
theorem lm_U_to_74 : sLm "TermBench$Unifier" 74 mA_termsOf = true := by decide +kernel
theorem lm_U_at_79 : sLm "TermBench$Unifier" 79 mU_addPairsOfTerms = true := by decide +kernel
theorem lm_U_so_83 : sLm "TermBench$Unifier" 83 mU_schemaOf = true := by decide +kernel
theorem lm_U_ip_86 : sLm "TermBench$Unifier" 86 mA_isPredicate = true := by decide +kernel
theorem lm_U_ww_90 : sLm "TermBench$Unifier" 90 mU_weightWithValues = true := by decide +kernel
theorem lm_U_min_93 : sIn (Cond.methodLink "TermBench$Unifier" 93 Lib.Math.min.name) = true := by decide +kernel
theorem lm_U_pl_99 : sLm "TermBench$Unifier" 99 mU_addPlaces = true := by decide +kernel
theorem lm_U_pv_103 : sLm "TermBench$Unifier" 103 mU_putValuesIn = true := by decide +kernel
theorem lm_U_bc_107 : sLm "TermBench$Unifier" 107 mT_become = true := by decide +kernel
theorem lm_U_nm_111 : sLm "TermBench$Unifier" 111 mU_nameVariables = true := by decide +kernel
theorem lm_U_ad_115 : sLm "TermBench$Unifier" 115 mT_add = true := by decide +kernel
theorem c_U_ap {u w : Int} {P : List (Int × Int)} (hu : 0 ≤ u ∧ u < 200) (hw : 0 ≤ w ∧ w < 200) (hP : uQ I P) (hl : P.length < 201) :
    sCall l G mU_addPair (sRm d 0) [.inr (.inl 75), .inl u, .inl w] (hS L x I) (qF L x (fun I' => (∀ z, z ≠ 75 → z ≠ 80 → z ≠ 81 → I' z = I z) ∧ uQ I' (P ++ [(u, w)]))) := by
  refine sCall_of (by decide) (Nat.le_of_ble_eq_true rfl) (sV1s_c trivial (sV1s_c (sV1_i (by omega) (by omega)) (sV1s_c (sV1_i (by omega) (by omega)) sV1s_n))) rfl ?_
  show sJ l G mU_addPair (sRm d 0) _ 0 (6 * 0) 0 [some (.inr (.inl 75)), some (.inl u), some (.inl w)] [] (hSh L, hRF, I, x)
  obtain ⟨h1, h2, h3⟩ := hP
  refine sg_U_ap (k := ?_)
  refine sc_retV ct_U_addPair ⟨_, rfl, rfl, fun z z1 z2 z3 => by rw [sU_ne z1, sU_ne z3, sU_ne z2], ?_, ?_, fun k hk => ?_⟩
  · rw [sU_self]
    simp
  · simp; omega
  · rw [sU_ne (by omega), sU_ne (by omega)]
    unfold sU
    rw [h1]
    by_cases hkl : k < P.length
    · have e9 := h3 k hkl
      rw [List.getElem_append_left hkl]
      refine ⟨?_, ?_⟩
      · rw [if_neg (fun h => by omega)]
        exact e9.1
      · rw [if_neg (fun h => by omega), if_neg (fun h => by omega)]
        exact e9.2
    · have : k = P.length := by simp at hk; omega
      subst this
      simp
theorem c_U_na {p : Int} {V : Int → Prop} {T : Int → List Int} (hF : uF I V T) (hp : V p) : sCall l G mU_nodeAt (sRm d 0) [.inr (.inl 75), .inl p] (hS L x I) (qI L x (if I 76 p < 0 then 199 - I 76 p else p) I) := by
  have hd := uF_hd hF hp
  obtain ⟨h1, h2, -⟩ := hF p hp
  refine sCall_of (by decide) (Nat.le_of_ble_eq_true rfl) (sV1s_c trivial (sV1s_c (sV1_i (by omega) (by omega)) sV1s_n)) rfl ?_
  show sJ l G mU_nodeAt (sRm d 0) _ 0 (6 * 0) 0 [some (.inr (.inl 75)), some (.inl p)] [] (hSh L, hRF, I, x)
  by_cases hc : I 76 p < 0
  · refine sg_U_na_v (k := ?_)
    exact sc_ret ct_U_nodeAt ⟨by rw [if_pos hc], rfl⟩
  · refine sg_U_na_p (k := ?_)
    exact sc_ret ct_U_nodeAt ⟨by rw [if_neg hc], rfl⟩
theorem c_U_rt {n : Int} {rt : Int → Int} {hh : Int → Nat} {q : Nat} (hR : uR I rt hh q) (hq : q ≤ 211) (h0 : 0 ≤ n) (h1 : n < 212) : sCall l G mU_root (sRm d 0) [.inr (.inl 75), .inl n] (hS L x I) (qI L x (rt n) I) := by
  refine sCall_of (by decide) (Nat.le_of_ble_eq_true rfl) (sV1s_c trivial (sV1s_c (sV1_i (by omega) (by omega)) sV1s_n)) rfl ?_
  show sJ l G mU_root (sRm d 0) _ 0 (6 * 0) 0 [some (.inr (.inl 75)), some (.inl n), none, none] [] (hSh L, hRF, I, x)
  have loop : ∀ (m : Nat) (c sp : Int), m = hh c → 0 ≤ c → c < 212 → 0 ≤ sp → sp + hh c ≤ q → rt c = rt n → sJ l G mU_root (sRm d 0) (qI L x (rt n) I) 0 (6 * 0) 4 [some (.inr (.inl 75)), some (.inl n), some (.inl c), some (.inl sp)] [] (hSh L, hRF, I, x) := by
    intro m
    induction m with
    | zero =>
      intro c sp hm c0 c1 s0 s1 hr
      obtain ⟨r1, r2, r3, r4, r5⟩ := hR c c0 c1
      by_cases hc : I 78 c = c
      · refine sg_U_rt_x (k := ?_)
        have := (r2 hc).1
        exact sc_ret ct_U_root ⟨by rw [← hr, this], rfl⟩
      · have := (r3 hc).2
        omega
    | succ m ih =>
      intro c sp hm c0 c1 s0 s1 hr
      obtain ⟨r1, r2, r3, r4, r5⟩ := hR c c0 c1
      by_cases hc : I 78 c = c
      · have := (r2 hc).2
        omega
      · have hc2 := r3 hc
        refine sg_U_rt_s (k := ?_)
        exact ih (I 78 c) (sp + 1) (by omega) r1.1 r1.2 (by omega) (by omega) (by rw [← hc2.1, hr])
  refine sg_U_rt_0 (k := ?_)
  have := (hR n h0 h1).2.2.2.1
  exact loop (hh n) n 0 rfl h0 h1 (by omega) (by omega) rfl
theorem c_U_so {v : Int} {rt : Int → Int} {hh : Int → Nat} {q : Nat} (hR : uR I rt hh q) (hq : q ≤ 211) (h0 : 0 ≤ v) (h1 : v < 12) : sCall l G mU_schemaOf (sRm (d + 1) 0) [.inr (.inl 75), .inl v] (hS L x I) (qI L x (I 79 (rt (200 + v))) I) := by
  refine sCall_of (by decide) (Nat.le_of_ble_eq_true rfl) (sV1s_c trivial (sV1s_c (sV1_i (by omega) (by omega)) sV1s_n)) rfl ?_
  show sJ l G mU_schemaOf (sRm (d + 1) 0) _ 0 (6 * 0) 0 [some (.inr (.inl 75)), some (.inl v)] [] (hSh L, hRF, I, x)
  refine sg_U_so_0 (k := ?_)
  refine sc_vI (as := [.inl _]) (rest := [.inr (.inl _)]) (cc := 5) ct_U_schemaOf lk_U_root lm_U_rt_59 (c_U_rt (d := d) hR hq (by omega) (by omega)) rfl ?_
  have := (hR (200 + v) (by omega) (by omega)).2.2.2.2
  refine sg_U_so_1 (k := ?_)
  exact sc_ret ct_U_schemaOf ⟨rfl, rfl⟩
/-- the pairs of the terms of two terms -/
def pks (ar : Int → Nat) (T : Int → List Int) (f g : Int) (n : Nat) : List (Int × Int) := (List.range n).map (fun k => (kp ar T f k, kp ar T g k))
theorem pks_s (ar : Int → Nat) (T : Int → List Int) (f g : Int) (n : Nat) : pks ar T f g (n + 1) = pks ar T f g n ++ [(kp ar T f n, kp ar T g n)] := by simp [pks, List.range_succ]
theorem uF_upd {I I' : sI} {V : Int → Prop} {T : Int → List Int} (h : uF I V T) (h3 : I' 3 = I 3) (h76 : I' 76 = I 76) (h77 : I' 77 = I 77) : uF I' V T := by
  intro p hp
  rw [hArt_eq h3, h76, h77]
  exact h p hp
theorem c_U_at {f g : Int} {te : Nat} {P : List (Int × Int)} {V : Int → Prop} {T : Int → List Int} (hF : uF I V T) (hf : V f) (hg : V g) (ht1 : te ≤ hArt I (I 76 f)) (ht2 : te ≤ hArt I (I 76 g)) (hP : uQ I P) (hl : P.length + te ≤ 201) :
    sCall l G mU_addPairsOfTerms (sRm (d + 1) 0) [.inr (.inl 75), .inl f, .inl g, .inl te] (hS L x I) (qF L x (fun I' => (∀ z, z ≠ 75 → z ≠ 80 → z ≠ 81 → I' z = I z) ∧ uQ I' (P ++ pks (hArt I) T f g te))) := by
  have hf0 := hF f hf
  have hg0 := hF g hg
  refine sCall_of (by decide) (Nat.le_of_ble_eq_true rfl) (sV1s_c trivial (sV1s_c (sV1_i (by omega) (by omega)) (sV1s_c (sV1_i (by omega) (by omega)) (sV1s_c (sV1_i (by omega) (by omega)) sV1s_n)))) rfl ?_
  show sJ l G mU_addPairsOfTerms (sRm (d + 1) 0) _ 0 (6 * 0) 0 [some (.inr (.inl 75)), some (.inl f), some (.inl g), some (.inl te), none, none, none] [] (hSh L, hRF, I, x)
  have loop : ∀ (m j : Nat) (I' : sI), m = te - j → j ≤ te → (∀ z, z ≠ 75 → z ≠ 80 → z ≠ 81 → I' z = I z) → uQ I' (P ++ pks (hArt I) T f g j) → sJ l G mU_addPairsOfTerms (sRm (d + 1) 0) (qF L x (fun I' => (∀ z, z ≠ 75 → z ≠ 80 → z ≠ 81 → I' z = I z) ∧ uQ I' (P ++ pks (hArt I) T f g te))) 0 (6 * 0) 10 [some (.inr (.inl 75)), some (.inl f), some (.inl g), some (.inl te), some (.inl (kp (hArt I) T f j)), some (.inl (kp (hArt I) T g j)), some (.inl j)] [] (hSh L, hRF, I', x) := by
    intro m
    induction m with
    | zero =>
      intro j I' hm hj hI hQ
      have : j = te := by omega
      subst this
      refine sg_U_at_x (k := ?_)
      exact sc_retV ct_U_addPairsOfTerms ⟨_, rfl, rfl, hI, hQ⟩
    | succ m ih =>
      intro j I' hm hj hI hQ
      obtain ⟨hk1, v1, t1, n1⟩ := uF_kid hF hf (k := j) (by omega)
      obtain ⟨hk2, v2, t2, n2⟩ := uF_kid hF hg (k := j) (by omega)
      have w1 := hF _ v1
      have w2 := hF _ v2
      have l1 := (uF_hd hF v1).2.1
      have l2 := (uF_hd hF v2).2.1
      have e77 : I' 77 = I 77 := hI 77 (by omega) (by omega) (by omega)
      refine sg_U_at_c (k := ?_)
      have hlen : (P ++ pks (hArt I) T f g j).length = P.length + j := by simp [pks]
      refine sc_vF (as := [.inl _, .inl _]) (rest := []) (cc := 5) ct_U_addPairsOfTerms lk_U_addPair lm_U_ap_44 (c_U_ap (d := d) ⟨w1.1, by omega⟩ ⟨w2.1, by omega⟩ hQ (by omega)) rfl (fun I2 hI2 => ?_)
      obtain ⟨hI2, hQ2⟩ := hI2
      have e772 : I2 77 = I 77 := by rw [hI2 77 (by omega) (by omega) (by omega), e77]
      refine sg_U_at_n (k := ?_)
      rw [e772, w1.2.2.1, w2.2.2.1, ← n1, ← n2]
      refine ih (j + 1) I2 (by omega) (by omega) (fun z z1 z2 z3 => by rw [hI2 z z1 z2 z3, hI z z1 z2 z3]) ?_
      rw [pks_s, ← List.append_assoc]
      exact hQ2
  refine sg_U_at_0 (k := ?_)
  have := loop te 0 I rfl (Nat.zero_le _) (fun _ _ _ _ => rfl) (by simpa [pks] using hP)
  have e1 : kp (hArt I) T f 0 = f + 1 := by simp [kp]
  have e2 : kp (hArt I) T g 0 = g + 1 := by simp [kp]
  rw [e1, e2] at this
  exact this
end CU
