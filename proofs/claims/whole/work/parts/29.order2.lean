/-! Ordering: compareHere, isGreater -/
theorem f_s_c (ar : Int → Nat) {l : List Int} {k p : Nat} (h : f_wf ar k l) (hp : p < l.length) : f_s ar l p = l[p] :: (l.drop (p + 1)).take (f_tk ar (ar l[p]) (l.drop (p + 1))) := by
  obtain ⟨m, e1, e2, e3⟩ := f_at ar h hp
  unfold f_s
  rw [f_tk_1 ar h hp, e1, Nat.add_comm, List.take_succ_cons]
theorem f_args_tk (ar : Int → Nat) {l : List Int} {k m : Nat} (h : f_wf ar (k + m) l) : f_args ar k (l.take (f_tk ar k l)) = f_args ar k l := by
  have := f_args_app ar k _ (l.drop (f_tk ar k l)) (f_split ar l k m h).1
  rw [List.take_append_drop] at this
  exact this.symm
theorem gt_at (ar : Int → Nat) {w u : List Int} {a b j : Nat} (hw : f_wf ar a w) (hu : f_wf ar b u) (h1 : j < w.length) (h2 : j < u.length) :
    gt ar (f_s ar w j) (f_s ar u j) ↔ 0 ≤ w[j] ∧ (f_s ar u j).length ≤ (f_s ar w j).length ∧ vle (f_s ar u j) (f_s ar w j) ∧ ((f_s ar u j).length < (f_s ar w j).length ∨ u[j] < w[j] ∨ (u[j] = w[j] ∧ gtL (gt ar) (f_args ar (ar w[j]) (w.drop (j + 1))) (f_args ar (ar w[j]) (u.drop (j + 1))))) := by
  obtain ⟨m, e1, e2, e3⟩ := f_at ar hw h1
  obtain ⟨m', e1', e2', e3'⟩ := f_at ar hu h2
  rw [f_s_c ar hw h1, f_s_c ar hu h2, gt_c]
  simp only [List.length_cons, Nat.add_le_add_iff_right, Nat.add_lt_add_iff_right]
  have hx : ∀ (h : u[j] = w[j]), (gtL (gt ar) (f_args ar (ar w[j]) ((w.drop (j + 1)).take (f_tk ar (ar w[j]) (w.drop (j + 1))))) (f_args ar (ar w[j]) ((u.drop (j + 1)).take (f_tk ar (ar u[j]) (u.drop (j + 1))))) ↔ gtL (gt ar) (f_args ar (ar w[j]) (w.drop (j + 1))) (f_args ar (ar w[j]) (u.drop (j + 1)))) := by
    intro h
    rw [f_args_tk ar (m := m) (by rw [Nat.add_comm]; exact e3), h, f_args_tk ar (m := m') (by rw [Nat.add_comm, ← h]; exact e3')]
  constructor
  · rintro ⟨g1, g2, g3, g4 | g4 | g4⟩
    · exact ⟨g1, g2, g3, Or.inl g4⟩
    · exact ⟨g1, g2, g3, Or.inr (Or.inl g4)⟩
    · exact ⟨g1, g2, g3, Or.inr (Or.inr ⟨g4.1, (hx g4.1).mp g4.2⟩)⟩
  · rintro ⟨g1, g2, g3, g4 | g4 | g4⟩
    · exact ⟨g1, g2, g3, Or.inl g4⟩
    · exact ⟨g1, g2, g3, Or.inr (Or.inl g4)⟩
    · exact ⟨g1, g2, g3, Or.inr (Or.inr ⟨g4.1, (hx g4.1).mpr g4.2⟩)⟩
def chP (w u : List Int) (c e v : Int) : Prop := (v = 1 ∧ 0 ≤ c ∧ u.length ≤ w.length ∧ vle u w ∧ (u.length < w.length ∨ e < c)) ∨ (v = 0 ∧ 0 ≤ c ∧ u.length = w.length ∧ vle u w ∧ e = c) ∨ (v = -1 ∧ ¬ (0 ≤ c ∧ u.length ≤ w.length ∧ vle u w ∧ (u.length < w.length ∨ e ≤ c)))
section CO2
variable {l : Launch} {G : sG} {L x d : Nat} {I : sI}
theorem c_O_ch {s t : Nat} {i j : Int} {cs ds : List Int} (hs : hT s) (ht : hT t) (hc : tw I s cs) (hd : tw I t ds) (c6 : ∀ c ∈ cs, -6 ≤ c) (d6 : ∀ c ∈ ds, -6 ≤ c) (h0 : 0 ≤ i) (h1 : i < cs.length) (g0 : 0 ≤ j) (g1 : j < ds.length) :
    sCall l G mO_compareHere (sRm (d + 2) 0) [.inr (.inl 73), .inr (.inl s), .inl i, .inr (.inl t), .inl j] (hS L x I) (qE L x (fun r I' => nz I I' ∧ chP (f_s (hArt I) cs i.toNat) (f_s (hArt I) ds j.toNat) (cs[i.toNat]'(by omega)) (ds[j.toNat]'(by omega)) r)) := by
  have h100 := hc.1.2.1
  have g100 := hd.1.2.1
  refine sCall_of (by decide) (Nat.le_of_ble_eq_true rfl) (sV1s_c trivial (sV1s_c trivial (sV1s_c (sV1_i (by omega) (by omega)) (sV1s_c trivial (sV1s_c (sV1_i (by omega) (by omega)) sV1s_n))))) rfl ?_
  show sJ l G mO_compareHere (sRm (d + 2) 0) _ 0 (6 * 0) 0 [some (.inr (.inl 73)), some (.inr (.inl s)), some (.inl i), some (.inr (.inl t)), some (.inl j), none] [] (hSh L, hRF, I, x)
  have hl1 := hT_lt hs
  have hl2 := hT_lt ht
  have es := tw_end hc h0 h1
  have et := tw_end hd g0 g1
  have gs := tm_get hc.1 h0 h1
  have gt_ := tm_get hd.1 g0 g1
  have ls : ((f_s (hArt I) cs i.toNat).length : Int) = I (s + 2) i - i := by rw [f_s_len]; omega
  have lt : ((f_s (hArt I) ds j.toNat).length : Int) = I (t + 2) j - j := by rw [f_s_len]; omega
  refine sg_O_ch_0 (k := ?_)
  refine sc_vI (as := [.inl _]) (rest := []) (cc := 2) ct_O_compareHere lk_T_weightAt lm_O_wa_28 (c_T_weightAt (d := d) hs h0 (by omega) (by omega) (by omega)) (by rw [(hT_k L hs).1]) ?_
  refine sg_O_ch_1 (k := ?_)
  refine sc_vI (as := [.inl _]) (rest := [.inl _]) (cc := 2) ct_O_compareHere lk_T_weightAt lm_O_wa_28 (c_T_weightAt (d := d) ht g0 (by omega) (by omega) (by omega)) (by rw [(hT_k L ht).1]) ?_
  by_cases hcn : I (s + 1) i < 0
  · refine sg_O_ch_v (k := ?_)
    exact sc_ret ct_O_compareHere ⟨_, _, rfl, rfl, fun _ _ => rfl, Or.inr (Or.inr ⟨rfl, fun h => by omega⟩)⟩
  · by_cases hmo : I (s + 2) i - i - (I (t + 2) j - j) < 0
    · refine sg_O_ch_w (k := ?_)
      exact sc_ret ct_O_compareHere ⟨_, _, rfl, rfl, fun _ _ => rfl, Or.inr (Or.inr ⟨rfl, fun h => by omega⟩)⟩
    · refine sg_O_ch_2 (k := ?_)
      refine sc_vE (as := [.inr (.inl _), .inl _, .inr (.inl _), .inl _]) (rest := []) (cc := 4) ct_O_compareHere lk_O_hasEachVariableAsOften lm_O_he_35 (c_O_he (d := d) hs ht hc hd c6 d6 h0 h1 g0 g1) rfl (fun r I' hr => ?_)
      obtain ⟨hI, hr | hr⟩ := hr
      · obtain ⟨rfl, hv⟩ := hr
        have gs' : I' (s + 1) i = I (s + 1) i := by rw [hI _ (by omega)]
        have gt' : I' (t + 1) j = I (t + 1) j := by rw [hI _ (by omega)]
        by_cases hg : 0 < I (s + 2) i - i - (I (t + 2) j - j)
        · refine sg_O_ch_g (k := ?_)
          exact sc_ret ct_O_compareHere ⟨_, _, rfl, rfl, hI, Or.inl ⟨rfl, by omega, by omega, hv, by omega⟩⟩
        · by_cases hg2 : I (t + 1) j < I (s + 1) i
          · refine sg_O_ch_c (k := ?_)
            exact sc_ret ct_O_compareHere ⟨_, _, rfl, rfl, hI, Or.inl ⟨rfl, by omega, by omega, hv, by omega⟩⟩
          · by_cases hg3 : I (s + 1) i < I (t + 1) j
            · refine sg_O_ch_l (k := ?_)
              exact sc_ret ct_O_compareHere ⟨_, _, rfl, rfl, hI, Or.inr (Or.inr ⟨rfl, fun h => by omega⟩)⟩
            · refine sg_O_ch_o (k := ?_)
              exact sc_ret ct_O_compareHere ⟨_, _, rfl, rfl, hI, Or.inr (Or.inl ⟨rfl, by omega, by omega, hv, by omega⟩)⟩
      · obtain ⟨rfl, hv⟩ := hr
        refine sg_O_ch_h (k := ?_)
        exact sc_ret ct_O_compareHere ⟨_, _, rfl, rfl, hI, Or.inr (Or.inr ⟨rfl, fun h => hv h.2.2.1⟩)⟩
theorem c_O_ig {s t : Nat} {pl : Int} {cs ds : List Int} (hs : hT s) (ht : hT t) (hc : tw I s cs) (hd : tw I t ds) (c6 : ∀ c ∈ cs, -6 ≤ c) (d6 : ∀ c ∈ ds, -6 ≤ c) (h0 : 0 ≤ pl) (h1 : pl < cs.length) :
    sCall l G mO_isGreater (sRm (d + 3) 0) [.inr (.inl 73), .inr (.inl s), .inl pl, .inr (.inl t)] (hS L x I) (qE L x (fun r I' => nz I I' ∧ ((r = 1 ∧ gt (hArt I) (f_s (hArt I) cs pl.toNat) ds) ∨ (r = 0 ∧ ¬ gt (hArt I) (f_s (hArt I) cs pl.toNat) ds)))) := by
  have h100 := hc.1.2.1
  have g100 := hd.1.2.1
  refine sCall_of (by decide) (Nat.le_of_ble_eq_true rfl) (sV1s_c trivial (sV1s_c trivial (sV1s_c (sV1_i (by omega) (by omega)) (sV1s_c trivial sV1s_n)))) rfl ?_
  show sJ l G mO_isGreater (sRm (d + 3) 0) _ 0 (6 * 0) 0 [some (.inr (.inl 73)), some (.inr (.inl s)), some (.inl pl), some (.inr (.inl t)), none, none, none] [] (hSh L, hRF, I, x)
  have hl1 := hT_lt hs
  have hl2 := hT_lt ht
  have hpl : pl.toNat < cs.length := by omega
  have hw := f_s_wf (hArt I) hc.2.2 hpl
  have hu := hd.2.2
  have hul : 0 < ds.length := List.length_pos_iff.mpr (f_wf_ne _ hu)
  have es := tw_end hc h0 h1
  have et := tw_end hd (p := 0) (by omega) (by omega)
  have lw : ((f_s (hArt I) cs pl.toNat).length : Int) = I (s + 2) pl - pl := by rw [f_s_len]; omega
  have lu : (ds.length : Int) = I (t + 2) 0 := by
    have := f_wf_len _ _ _ hu
    have e9 := et.1
    rw [show (0 : Int).toNat = 0 from rfl, List.drop_zero, this] at e9
    omega
  -- the rows read
  have rw_ : ∀ i : Nat, i < (f_s (hArt I) cs pl.toNat).length → (f_s (hArt I) cs pl.toNat)[i]? = some (I (s + 1) (pl + i)) := fun i hi => by
    rw [f_s_get _ (by rw [f_s_len] at hi; exact hi) (by omega), tm_get hc.1 (by omega) (by omega)]
    congr 2
    omega
  have ru_ : ∀ i : Nat, i < ds.length → ds[i]? = some (I (t + 1) (0 + i)) := fun i hi => by
    rw [List.getElem?_eq_getElem hi, tm_get hd.1 (by omega) (by omega)]
    congr 2
    omega
  generalize hW : f_s (hArt I) cs pl.toNat = w at *
  refine sg_O_ig_0 (k := ?_)
  refine sc_vE (as := [.inl _, .inr (.inl _), .inl _]) (rest := []) (cc := 2) ct_O_isGreater lk_T_firstDifference lm_O_fd_15 (c_T_fd (d := d) hs ht h0 (by omega) (by omega) (by omega) (by omega) (by omega)) (by rw [(hT_k L hs).1]) (fun df I' hr => ?_)
  obtain ⟨rfl, hr⟩ := hr
  refine sg_O_ig_1 (k := ?_)
  rcases hr with ⟨rfl, hsame⟩ | ⟨hd0, hdn, hdne, hsame⟩
  · refine sg_O_ig_x (k := ?_)
    refine sc_retZ ct_O_isGreater ⟨_, _, rfl, rfl, fun _ _ => rfl, Or.inr ⟨rfl, ?_⟩⟩
    have : w = ds := f_same _ hw hu (fun i i1 i2 => by
      rw [rw_ i i1, ru_ i i2]
      exact congrArg some (hsame i (by omega) (by split <;> omega)))
    rw [this]
    exact gt_irr _ _
  · have hd1 : df.toNat < w.length := by split at hdn <;> omega
    have hd2 : df.toNat < ds.length := by split at hdn <;> omega
    have hne : w[df.toNat]? ≠ ds[df.toNat]? := by
      rw [rw_ _ hd1, ru_ _ hd2, show ((df.toNat : Nat) : Int) = df by omega]
      exact fun h => hdne (Option.some.inj h)
    have hlt : ∀ i, i < df.toNat → w[i]? = ds[i]? := fun i hi => by
      rw [rw_ i (by omega), ru_ i (by omega)]
      exact congrArg some (hsame i (by omega) (by omega))
    have hend : ∀ i : Nat, i < w.length → I' (s + 2) (pl + i) = pl + i + f_tk (hArt I') 1 (w.drop i) ∧ f_s (hArt I') cs (pl.toNat + i) = f_s (hArt I') w i := fun i hi => by
      have := f_s_s (hArt I') hc.2.2 hpl (i := i) (by rw [hW]; exact hi)
      rw [hW] at this
      refine ⟨?_, this.2.symm⟩
      rw [this.1, (tw_end hc (p := pl + i) (by omega) (by omega)).1, show (pl + (i : Int)).toNat = pl.toNat + i by omega]
    have loop : ∀ (n i j : Nat) (oC : Option sV) (I1 : sI), n = df.toNat + 1 - i → i ≤ j → j ≤ df.toNat → df.toNat < j + f_tk (hArt I') 1 (w.drop j) → (∀ q, i ≤ q → q < j → q + f_tk (hArt I') 1 (w.drop q) ≤ df.toNat) → nz I' I1 → (gt (hArt I') w ds ↔ gt (hArt I') (f_s (hArt I') w j) (f_s (hArt I') ds j)) →
        sJ l G mO_isGreater (sRm (d + 3) 0) (qE L x (fun r I1 => nz I' I1 ∧ ((r = 1 ∧ gt (hArt I') w ds) ∨ (r = 0 ∧ ¬ gt (hArt I') w ds)))) 0 (6 * 0) 8 [some (.inr (.inl 73)), some (.inr (.inl s)), some (.inl pl), some (.inr (.inl t)), some (.inl df), some (.inl i), oC] [] (hSh L, hRF, I1, x) := by
      intro n
      induction n with
      | zero => intro i j oC I1 hn hij hj; omega
      | succ n ih =>
        intro i j oC I1 hn hij hj hjd hq hI hg
        have eend := (hend i (by omega)).1
        have eend1 : I1 (s + 2) (pl + i) = I' (s + 2) (pl + i) := by rw [hI _ (by omega)]
        by_cases hi : i < j
        · have := hq i (Nat.le_refl _) hi
          refine sg_O_ig_s (k := ?_)
          exact ih (i + 1) j oC I1 (by omega) (by omega) hj hjd (fun q q0 q1 => hq q (by omega) q1) hI hg
        · have hij : i = j := by omega
          subst hij
          refine sg_O_ig_c (k := ?_)
          have har : hArt I1 = hArt I' := hArt_eq (hI 3 (by omega))
          have hc1 : tw I1 s cs := tw_upd hc (hI _ (by omega)) (hI _ (by omega)) (hI _ (by omega)) (hI _ (by omega))
          have hd1' : tw I1 t ds := tw_upd hd (hI _ (by omega)) (hI _ (by omega)) (hI _ (by omega)) (hI _ (by omega))
          refine sc_vE (as := [.inr (.inl _), .inl _, .inr (.inl _), .inl _]) (rest := []) (cc := 4) ct_O_isGreater lk_O_compareHere lm_O_ch_24 (c_O_ch (d := d) hs ht hc1 hd1' c6 d6 (by omega) (by omega) (by omega) (by omega)) rfl (fun r I2 hr => ?_)
          obtain ⟨hI2, hr⟩ := hr
          have hIn : nz I' I2 := fun z hz => by rw [hI2 z hz, hI z hz]
          have hiw : i < w.length := by omega
          have hid : i < ds.length := by omega
          have ew : cs[(pl + (i : Int)).toNat]'(by omega) = w[i] := by
            have := rw_ i hiw
            rw [List.getElem?_eq_getElem hiw, tm_get hc.1 (by omega) (by omega)] at this
            exact (Option.some.inj this).symm
          rw [har, ew, show (pl + (i : Int)).toNat = pl.toNat + i by omega, (hend i hiw).2] at hr
          change chP (f_s (hArt I') w i) (f_s (hArt I') ds i) w[i] ds[i] r at hr
          have hga := gt_at (hArt I') hw hu hiw hid
          rcases hr with ⟨rfl, r1, r2, r3, r4⟩ | ⟨rfl, r1, r2, r3, r4⟩ | ⟨rfl, r1⟩
          · refine sg_O_ig_g (k := ?_)
            refine sc_retZ ct_O_isGreater ⟨_, _, rfl, rfl, hIn, Or.inl ⟨rfl, ?_⟩⟩
            rw [hg, hga]
            refine ⟨r1, r2, r3, ?_⟩
            rcases r4 with r4 | r4
            · exact Or.inl r4
            · exact Or.inr (Or.inl r4)
          · refine sg_O_ig_o (k := ?_)
            have hidf : i ≠ df.toNat := fun h => by
              subst h
              rw [List.getElem?_eq_getElem hiw, List.getElem?_eq_getElem hid] at hne
              exact hne (congrArg some r4.symm)
            obtain ⟨m1, -, -, a3⟩ := f_at (hArt I') hw hiw
            obtain ⟨m2, -, -, b3⟩ := f_at (hArt I') hu hid
            rw [f_tk_1 _ hw hiw] at hjd
            obtain ⟨j', p1, p2, p3, p4, p5⟩ := gtL_path (hArt I') (gt (hArt I')) hw hne hlt (hArt I' w[i]) m1 m2 (i + 1) (by rw [Nat.add_comm]; exact a3) (by rw [Nat.add_comm, ← r4]; exact b3) (by omega) (by omega)
            refine ih (i + 1) j' _ I2 (by omega) p1 p2 p3 p4 hIn ?_
            rw [hg, hga, ← p5]
            constructor
            · rintro ⟨-, -, -, q | q | q⟩
              · omega
              · omega
              · exact q.2
            · exact fun q => ⟨r1, by omega, r3, Or.inr (Or.inr ⟨r4, q⟩)⟩
          · refine sg_O_ig_l (k := ?_)
            refine sc_retZ ct_O_isGreater ⟨_, _, rfl, rfl, hIn, Or.inr ⟨rfl, ?_⟩⟩
            rw [hg, hga]
            rintro ⟨q1, q2, q3, q | q | q⟩
            · exact r1 ⟨q1, q2, q3, Or.inl q⟩
            · exact r1 ⟨q1, q2, q3, Or.inr (by omega)⟩
            · exact r1 ⟨q1, q2, q3, Or.inr (by omega)⟩
    have hw0 : f_s (hArt I') w 0 = w := f_s_0 _ hw
    have hu0 : f_s (hArt I') ds 0 = ds := f_s_0 _ hu
    have htk0 : f_tk (hArt I') 1 (w.drop 0) = w.length := by rw [List.drop_zero]; exact f_wf_len _ _ _ hw
    exact loop _ 0 0 none I' rfl (Nat.le_refl _) (Nat.zero_le _) (by omega) (fun q q0 q1 => by omega) (fun _ _ => rfl) (by rw [hw0, hu0])
end CO2
