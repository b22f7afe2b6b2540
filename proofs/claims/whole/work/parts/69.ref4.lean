/-! the reference: copy, greater -/
theorem pt_la {ar : Int → Nat} {I : sI} {b c : Int} {i : Nat} {l : List Int} {la : Int} (h0 : 0 ≤ b) (P : pt ar I b c i l la) : -1 ≤ la ∧ la < b + 1 + l.length := by
  have h8 := P.2.2.2.2.2.2.2
  have h5 := P.2.2.2.2.1
  by_cases hz : i = 0
  · rw [if_pos hz] at h8; omega
  · rw [if_neg hz] at h8
    have := f_tk_lt ar (k := i - 1) (n := 0) (l := l) (by rw [show i - 1 + (0 + 1) = i by omega]; exact h5)
    omega
theorem tr_root {ar : Int → Nat} {I : sI} {b : Int} {X : List Int} (h : tr ar I b X) (hw : f_wf ar 1 X) : I 117 b = X.length := by
  have hl : 0 < X.length := List.length_pos_iff.mpr (f_wf_ne ar hw)
  have := (h 0 hl).2.1
  rw [List.drop_zero, f_wf_len ar _ _ hw] at this
  simpa using this
section CR4
variable {l : Launch} {G : sG} {L x d : Nat}
theorem c_R_cp {ar : Int → Nat} {cs : List Int} {kk : Nat} (hwf : f_wf ar kk cs) (hrg : ∀ c ∈ cs, -12 ≤ c ∧ c < 40) : ∀ (n p : Nat) (I : sI), p < cs.length → f_tk ar 1 (cs.drop p) ≤ n → tr ar I 0 cs → (cs.length : Int) ≤ I 84 17 → I 84 17 + f_tk ar 1 (cs.drop p) ≤ 6000 →
    sCall l G mM_copy (sRm (d + n) 0) [.inr (.inl 84), .inl (p : Int)] (hS L x I) (qE L x (mkP I ar (f_s ar cs p))) := by
  intro n
  induction n with
  | zero =>
    intro p I hp hn
    have := (f_s_pos ar hwf hp).1
    omega
  | succ n ih =>
    intro p I hp hn ht htop h6
    have hpos := f_s_pos ar hwf hp
    obtain ⟨t1, t2, t3, t4⟩ := tr_at ht hp
    have hend := pre_end ar hwf hp
    have hca := hrg cs[p] (List.getElem_mem hp)
    refine sCall_of (by decide) (Nat.le_of_ble_eq_true rfl) (sV1s_c trivial (sV1s_c (sV1_i (by omega) (by omega)) sV1s_n)) rfl ?_
    show sJ l G mM_copy (sRm (d + (n + 1)) 0) _ 0 (6 * 0) 0 [some (.inr (.inl 84)), some (.inl (p : Int)), none, none, none, none] [] (hSh L, hRF, I, x)
    refine sg_R_cp_0 (k := ?_)
    refine sc_vI (as := [.inl _]) (rest := []) (cc := 6) ct_M_copy lk_M_fresh lm_M_111 (c_R_fr (d := 0) (by unfold sR; omega) (by omega) (by omega)) rfl ?_
    rw [t1]
    have F2 : bF I (frI I cs[p]) := frI_F I cs[p]
    have T2 := frI_top I cs[p]
    have P2 := frI_pt ar I cs[p]
    refine sg_R_cp_1 (k := ?_)
    have loop : ∀ (m i : Nat) (I2 : sI) (la ka : Int) (oA : Option sV), m = ar cs[p] - i → i ≤ ar cs[p] → ka = kc ar cs p (ar cs[p]) i → bF I I2 → pt ar I2 (I 84 17) cs[p] i (pre ar cs p i) la → I2 84 17 = I 84 17 + 1 + (pre ar cs p i).length →
        sJ l G mM_copy (sRm (d + (n + 1)) 0) (qE L x (mkP I ar (f_s ar cs p))) 0 (6 * 0) 14 [some (.inr (.inl 84)), some (.inl (p : Int)), some (.inl (I 84 17)), some (.inl la), some (.inl ka), oA] [] (hSh L, hRF, I2, x) := by
      intro m
      induction m with
      | zero =>
        intro i I2 la ka oA hm hi hka F P T
        have hi' : i = ar cs[p] := by omega
        subst hi'
        rw [kc_no] at hka
        refine sg_R_cp_x (k := ?_)
        obtain ⟨D1, D2, D3⟩ := pt_done P
        rw [← hend] at D1
        exact sc_ret ct_M_copy ⟨_, _, rfl, rfl, rfl, F, by rw [T, hend, List.length_cons]; omega, D1, D3⟩
      | succ m ihm =>
        intro i I2 la ka oA hm hi hka F P T
        have hi' : i < ar cs[p] := by omega
        rw [kc_in hi'] at hka
        subst hka
        have hlt := ap_lt ar hwf hp hi'
        have hkd := ap_kid ar hwf hp hi'
        have hpa := pre_ap ar cs p i
        have hlX : (f_s ar cs (ap ar cs p i)).length = f_tk ar 1 (cs.drop (ap ar cs p i)) := f_s_len ar cs _
        refine sg_R_cp_k (k := ?_)
        refine sc_vE (as := [.inl _]) (rest := []) (cc := 6) ct_M_copy lk_M_copy lm_M_127 (ih (ap ar cs p i) I2 hlt.2 (by omega) (bF_tr F hwf ht htop) (by omega) (by omega)) rfl (fun r I3 hr3 => ?_)
        obtain ⟨rfl, F3, T3, X3, R3⟩ := hr3
        have hw3 : f_wf ar 1 (f_s ar cs (ap ar cs p i)) := f_s_wf ar hwf hlt.2
        obtain ⟨S1, S2, S3⟩ := mk_step rfl (by omega) F P T F3 X3 hw3 R3 T3
        refine sg_R_cp_u (k := ?_)
        have hla := pt_la (by omega) P
        have hwt : I3 117 (I 84 17) = 1 + (pre ar cs p i).length := by rw [F3.2.2 117 _ (by omega) (by omega) (by omega)]; exact P.2.1
        have hwx : I3 117 (I2 84 17) = (f_s ar cs (ap ar cs p i)).length := tr_root X3 hw3
        refine sc_vV (as := [.inl _, .inl _, .inl _]) (rest := []) (cc := 6) ct_M_copy lk_M_under lm_M_115 (c_R_un (d := 0) (by omega) (by omega) (by omega) (by omega) (by omega) (by omega) (by omega) (by omega)) rfl ?_
        have e116 : un I3 (I 84 17) la (I2 84 17) 116 (ap ar cs p i : Int) = kc ar cs p (ar cs[p]) (i + 1) := by
          rw [S1.2.2 116 _ (by omega) (by omega) (by omega)]
          exact t4 i hi'
        refine sg_R_cp_n (k := ?_)
        rw [← pre_s ar hwf hp hi'] at S2 S3
        exact ihm (i + 1) _ _ _ _ (by omega) (by omega) e116 S1 S2 S3
    have e115 : frI I cs[p] 115 (p : Int) = kc ar cs p (ar cs[p]) 0 := by rw [F2.2.2 115 _ (by omega) (by omega) (by omega)]; exact t3
    exact loop (ar cs[p]) 0 _ _ _ _ rfl (Nat.zero_le _) e115 F2 (by rw [pre_0]; exact P2) (by rw [T2, pre_0]; simp [f_sub])
theorem c_R_gr {ar : Int → Nat} {cs : List Int} {kk : Nat} (hwf : f_wf ar kk cs) (h6 : cs.length ≤ 6000) (hrg : ∀ c ∈ cs, -6 ≤ c ∧ c < 40) (hsz : ∀ p, p < cs.length → f_tk ar 1 (cs.drop p) ≤ 100) : ∀ (n p q : Nat) (I : sI), p < cs.length → q < cs.length → f_tk ar 1 (cs.drop p) ≤ n → tr ar I 0 cs →
    sCall l G mM_greater (sRm (d + 100 + n) 0) [.inr (.inl 84), .inl (p : Int), .inl (q : Int)] (hS L x I) (qE L x (fun r I' => (∀ w, w ≠ 118 → I' w = I w) ∧ ((r = 1 ∧ gt ar (f_s ar cs p) (f_s ar cs q)) ∨ (r = 0 ∧ ¬ gt ar (f_s ar cs p) (f_s ar cs q))))) := by
  intro n
  induction n with
  | zero =>
    intro p q I hp hq hn
    have := (f_s_pos ar hwf hp).1
    omega
  | succ n ih =>
    intro p q I hp hq hn ht
    obtain ⟨t1, t2, t3, t4⟩ := tr_at ht hp
    obtain ⟨u1, u2, u3, u4⟩ := tr_at ht hq
    have hsp := hsz p hp
    have hsq := hsz q hq
    have key := gt_pl ar hwf hp hq
    refine sCall_of (by decide) (Nat.le_of_ble_eq_true rfl) (sV1s_c trivial (sV1s_c (sV1_i (by omega) (by omega)) (sV1s_c (sV1_i (by omega) (by omega)) sV1s_n))) rfl ?_
    show sJ l G mM_greater (sRm (d + 100 + (n + 1)) 0) _ 0 (6 * 0) 0 [some (.inr (.inl 84)), some (.inl (p : Int)), some (.inl (q : Int)), none, none] [] (hSh L, hRF, I, x)
    by_cases hc : cs[p] < 0
    · refine sg_R_gr_v (k := ?_)
      exact sc_retZ ct_M_greater ⟨_, _, rfl, rfl, fun _ _ => rfl, Or.inr ⟨rfl, fun h => by have := (key.mp h).1; omega⟩⟩
    · refine sg_R_gr_0 (k := ?_)
      have zero : ∀ (m j : Nat) (I2 : sI), m = 6 - j → j ≤ 6 → (∀ w, w ≠ 118 → I2 w = I w) → (∀ v : Int, 0 ≤ v → v < j → I2 118 v = 0) →
          (∀ I3 : sI, (∀ w, w ≠ 118 → I3 w = I w) → (∀ v : Int, 0 ≤ v → v < 6 → I3 118 v = 0) → sJ l G mM_greater (sRm (d + 100 + (n + 1)) 0) (qE L x (fun r I' => (∀ w, w ≠ 118 → I' w = I w) ∧ ((r = 1 ∧ gt ar (f_s ar cs p) (f_s ar cs q)) ∨ (r = 0 ∧ ¬ gt ar (f_s ar cs p) (f_s ar cs q))))) 0 (6 * 0) 9 [some (.inr (.inl 84)), some (.inl (p : Int)), some (.inl (q : Int)), some (.inl 6), none] [] (hSh L, hRF, I3, x)) →
          sJ l G mM_greater (sRm (d + 100 + (n + 1)) 0) (qE L x (fun r I' => (∀ w, w ≠ 118 → I' w = I w) ∧ ((r = 1 ∧ gt ar (f_s ar cs p) (f_s ar cs q)) ∨ (r = 0 ∧ ¬ gt ar (f_s ar cs p) (f_s ar cs q))))) 0 (6 * 0) 9 [some (.inr (.inl 84)), some (.inl (p : Int)), some (.inl (q : Int)), some (.inl (j : Int)), none] [] (hSh L, hRF, I2, x) := by
        intro m
        induction m with
        | zero =>
          intro j I2 hm hj hw hz hgo
          have : j = 6 := by omega
          subst this
          exact hgo I2 hw (fun v g1 g2 => hz v g1 (by omega))
        | succ m ihm =>
          intro j I2 hm hj hw hz hgo
          refine sg_R_gr_z (k := ?_)
          refine ihm (j + 1) _ (by omega) (by omega) (fun w g => by rw [sU_ne g, hw w g]) (fun v g1 g2 => ?_) hgo
          by_cases hv : v = j
          · rw [hv, hU_eq]
          · rw [hU_nj hv]; exact hz v g1 (by omega)
      refine zero 6 0 I rfl (by omega) (fun _ _ => rfl) (fun v g1 g2 => by omega) (fun I3 hw3 hz3 => ?_)
      refine sg_R_gr_1 (k := ?_)
      have ht3 : tr ar I3 0 cs := tr_upd hwf ht (fun w g1 g2 j _ _ => by rw [hw3 w (by omega)])
      have lp := f_s_len ar cs p
      have lq := f_s_len ar cs q
      refine sc_vV (as := [.inl _, .inl _]) (rest := []) (cc := 6) ct_M_greater lk_M_times lm_M_130 (c_R_ti (d := d) hwf h6 hrg (Or.inl rfl) 100 p I3 hp hsp ht3 (fun j g1 g2 => by rw [hz3 j g1 g2]; omega)) rfl ?_
      refine sg_R_gr_2 (k := ?_)
      have ht4 : tr ar (tms I3 1 (f_s ar cs p)) 0 cs := tr_upd hwf ht3 (fun w g1 g2 j _ _ => by rw [tms_o _ _ _ (by omega)])
      refine sc_vV (as := [.inl _, .inl _]) (rest := []) (cc := 6) ct_M_greater lk_M_times lm_M_130 (c_R_ti (d := d) hwf h6 hrg (Or.inr rfl) 100 q _ hq hsq ht4 (fun j g1 g2 => by
        have h1 := tms_b I3 (Or.inl rfl) (f_s ar cs p) (j := j)
        rw [hz3 j g1 g2] at h1
        omega)) rfl ?_
      refine sg_R_gr_3 (k := ?_)
      generalize hI4 : tms (tms I3 1 (f_s ar cs p)) (-1) (f_s ar cs q) = I4
      have hw4 : ∀ w, w ≠ 118 → I4 w = I w := fun w g => by rw [← hI4, tms_o _ _ _ g, tms_o _ _ _ g, hw3 w g]
      have hc4 : ∀ v : Int, 0 ≤ v → v < 6 → I4 118 v = ((f_s ar cs p).count (-1 - v) : Nat) - ((f_s ar cs q).count (-1 - v) : Nat) := fun v g1 g2 => by
        rw [← hI4]
        unfold tms
        rw [if_pos ⟨rfl, g1, g2⟩, if_pos ⟨rfl, g1, g2⟩, hz3 v g1 g2]
        omega
      have ht5 : tr ar I4 0 cs := tr_upd hwf ht (fun w g1 g2 j _ _ => by rw [hw4 w (by omega)])
      obtain ⟨t1, t2, t3, t4⟩ := tr_at ht5 hp
      obtain ⟨u1, u2, u3, u4⟩ := tr_at ht5 hq
      have chk : ∀ (m j : Nat), m = 6 - j → j ≤ 6 → (∀ v : Int, 0 ≤ v → v < j → (f_s ar cs q).count (-1 - v) ≤ (f_s ar cs p).count (-1 - v)) → sJ l G mM_greater (sRm (d + 100 + (n + 1)) 0) (qE L x (fun r I' => (∀ w, w ≠ 118 → I' w = I w) ∧ ((r = 1 ∧ gt ar (f_s ar cs p) (f_s ar cs q)) ∨ (r = 0 ∧ ¬ gt ar (f_s ar cs p) (f_s ar cs q))))) 0 (6 * 0) 29 [some (.inr (.inl 84)), some (.inl (p : Int)), some (.inl (q : Int)), some (.inl (j : Int)), none] [] (hSh L, hRF, I4, x) := by
        intro m
        induction m with
        | zero =>
          intro j hm hj hv
          have : j = 6 := by omega
          subst this
          have hle : vle (f_s ar cs q) (f_s ar cs p) := fun v g1 g2 => hv v g1 (by omega)
          by_cases hw : f_tk ar 1 (cs.drop p) = f_tk ar 1 (cs.drop q)
          · by_cases he : cs[p] = cs[q]
            · refine sg_R_gr_g (k := ?_)
              rw [← he] at u3 u4
              have key2 : gt ar (f_s ar cs p) (f_s ar cs q) ↔ gtL (gt ar) (kd ar cs p (ar cs[p])) (kd ar cs q (ar cs[p])) := key.trans ⟨fun h => by
                rcases h.2.2.2 with g | g | g
                · omega
                · omega
                · exact g.2, fun h => ⟨by omega, by omega, hle, Or.inr (Or.inr ⟨he.symm, h⟩)⟩⟩
              have loop : ∀ (m i : Nat) (ka kb : Int), m = ar cs[p] - i → i ≤ ar cs[p] → ka = kc ar cs p (ar cs[p]) i → kb = kc ar cs q (ar cs[p]) i → (gtL (gt ar) (kd ar cs p (ar cs[p])) (kd ar cs q (ar cs[p])) ↔ gtL (gt ar) ((kd ar cs p (ar cs[p])).drop i) ((kd ar cs q (ar cs[p])).drop i)) →
                  sJ l G mM_greater (sRm (d + 100 + (n + 1)) 0) (qE L x (fun r I' => (∀ w, w ≠ 118 → I' w = I w) ∧ ((r = 1 ∧ gt ar (f_s ar cs p) (f_s ar cs q)) ∨ (r = 0 ∧ ¬ gt ar (f_s ar cs p) (f_s ar cs q))))) 0 (6 * 0) 95 [some (.inr (.inl 84)), some (.inl (p : Int)), some (.inl (q : Int)), some (.inl kb), some (.inl ka)] [] (hSh L, hRF, I4, x) := by
                intro m
                induction m with
                | zero =>
                  intro i ka kb hm hi hka hkb hd
                  have hi' : i = ar cs[p] := by omega
                  subst hi'
                  rw [kc_no] at hka
                  refine sg_R_gr_x (k := ?_)
                  exact sc_retZ ct_M_greater ⟨_, _, rfl, rfl, hw4, Or.inr ⟨rfl, fun h => by
                    have := hd.mp (key2.mp h)
                    rw [kd_end] at this
                    exact this⟩⟩
                | succ m ihm =>
                  intro i ka kb hm hi hka hkb hd
                  have hi' : i < ar cs[p] := by omega
                  rw [kc_in hi'] at hka hkb
                  subst hka
                  subst hkb
                  have hlt := ap_lt ar hwf hp hi'
                  have hlq := ap_lt ar hwf hq (i := i) (by rw [← he]; exact hi')
                  have hkd := ap_kid ar hwf hp hi'
                  have hsk := hsz _ hlt.2
                  refine sg_R_gr_k (k := ?_)
                  refine sc_vE (as := [.inl _, .inl _]) (rest := []) (cc := 6) ct_M_greater lk_M_same lm_M_123 (c_R_sa (d := d) hwf h6 ht5 100 (ap ar cs p i) (ap ar cs q i) hlt.2 hlq.2 hsk) rfl (fun r I5 hr => ?_)
                  rw [kd_drop ar cs p hi', kd_drop ar cs q hi'] at hd
                  simp only [gtL] at hd
                  obtain ⟨rfl, ⟨rfl, hs⟩ | ⟨rfl, hs⟩⟩ := hr
                  · refine sg_R_gr_n (k := ?_)
                    exact ihm (i + 1) _ _ (by omega) (by omega) (t4 i hi') (u4 i hi') (hd.trans ⟨fun h => by
                      rcases h with h | h
                      · exact h.2
                      · exact absurd hs h.1, fun h => Or.inl ⟨hs, h⟩⟩)
                  · refine sg_R_gr_d (k := ?_)
                    refine sc_vE (as := [.inl _, .inl _]) (rest := []) (cc := 6) ct_M_greater lk_M_greater lm_M_133 (ih (ap ar cs p i) (ap ar cs q i) I5 hlt.2 hlq.2 (by omega) ht5) rfl (fun r I6 hr => ?_)
                    obtain ⟨hw6, hr⟩ := hr
                    have hw7 : ∀ w, w ≠ 118 → I6 w = I w := fun w g => by rw [hw6 w g, hw4 w g]
                    have key3 := key2.trans (hd.trans (⟨fun h => by
                      rcases h with h | h
                      · exact absurd h.1 hs
                      · exact h.2, fun h => Or.inr ⟨hs, h⟩⟩ : _ ↔ gt ar (f_s ar cs (ap ar cs p i)) (f_s ar cs (ap ar cs q i))))
                    rcases hr with ⟨rfl, hg⟩ | ⟨rfl, hg⟩
                    · exact sc_retZ ct_M_greater ⟨_, _, rfl, rfl, hw7, Or.inl ⟨rfl, key3.mpr hg⟩⟩
                    · exact sc_retZ ct_M_greater ⟨_, _, rfl, rfl, hw7, Or.inr ⟨rfl, fun h => hg (key3.mp h)⟩⟩
              exact loop (ar cs[p]) 0 _ _ rfl (Nat.zero_le _) t3 u3 (by rw [List.drop_zero, List.drop_zero])
            · by_cases hgc : cs[q] < cs[p]
              · refine sg_R_gr_ct (k := ?_)
                exact sc_retZ ct_M_greater ⟨_, _, rfl, rfl, hw4, Or.inl ⟨rfl, key.mpr ⟨by omega, by omega, hle, Or.inr (Or.inl hgc)⟩⟩⟩
              · refine sg_R_gr_cf (k := ?_)
                exact sc_retZ ct_M_greater ⟨_, _, rfl, rfl, hw4, Or.inr ⟨rfl, fun h => by
                  rcases (key.mp h).2.2.2 with g | g | g
                  · omega
                  · omega
                  · exact he g.1.symm⟩⟩
          · by_cases hgw : f_tk ar 1 (cs.drop q) < f_tk ar 1 (cs.drop p)
            · refine sg_R_gr_wt (k := ?_)
              exact sc_retZ ct_M_greater ⟨_, _, rfl, rfl, hw4, Or.inl ⟨rfl, key.mpr ⟨by omega, by omega, hle, Or.inl hgw⟩⟩⟩
            · refine sg_R_gr_wf (k := ?_)
              exact sc_retZ ct_M_greater ⟨_, _, rfl, rfl, hw4, Or.inr ⟨rfl, fun h => by have := (key.mp h).2.1; omega⟩⟩
        | succ m ihm =>
          intro j hm hj hv
          have hcj := hc4 j (by omega) (by omega)
          by_cases hlt : I4 118 (j : Int) < 0
          · refine sg_R_gr_f (k := ?_)
            exact sc_retZ ct_M_greater ⟨_, _, rfl, rfl, hw4, Or.inr ⟨rfl, fun h => by
              have := (key.mp h).2.2.1 j (by omega) (by omega)
              omega⟩⟩
          · refine sg_R_gr_o (k := ?_)
            refine ihm (j + 1) (by omega) (by omega) (fun v g1 g2 => ?_)
            by_cases hvj : v = j
            · rw [hvj]; omega
            · exact hv v g1 (by omega)
      exact chk 6 0 rfl (by omega) (fun v g1 g2 => by omega)
end CR4
