/-! the reference: bind, unify -/
def biQ (ar : Int → Nat) (pr : Int → Bool) (cs : List Int) (bk : Nat → Int) (I : sI) (th : Int → List Int) (v : Int) (y : Nat) : Int → sI → Prop := fun r I' => (∀ w, w ≠ 119 → w ≠ 120 → I' w = I w) ∧ ((r = 1 ∧ ∃ th' ρ', uI ar pr cs bk (I' 119) th' ρ' ∧ uB I' bk ∧ uE (I 119) th (I' 119) th' ∧ th' (-1 - v) = f_sub th' (tN ar cs bk y) ∧ ∀ σ, sat ar cs bk (I 119) σ → σ (-1 - v) = f_sub σ (tN ar cs bk y) → sat ar cs bk (I' 119) σ) ∨ (r = 0 ∧ ∀ σ, gdS ar pr σ → sat ar cs bk (I 119) σ → σ (-1 - v) ≠ f_sub σ (tN ar cs bk y)))
def unQ (ar : Int → Nat) (pr : Int → Bool) (cs : List Int) (bk : Nat → Int) (I : sI) (th : Int → List Int) (a b : Nat) : Int → sI → Prop := fun r I' => (∀ w, w ≠ 119 → w ≠ 120 → I' w = I w) ∧ ((r = 1 ∧ ∃ th' ρ', uI ar pr cs bk (I' 119) th' ρ' ∧ uB I' bk ∧ uE (I 119) th (I' 119) th' ∧ f_sub th' (tN ar cs bk a) = f_sub th' (tN ar cs bk b) ∧ ∀ σ, gdS ar pr σ → sat ar cs bk (I 119) σ → f_sub σ (tN ar cs bk a) = f_sub σ (tN ar cs bk b) → sat ar cs bk (I' 119) σ) ∨ (r = 0 ∧ ∀ σ, gdS ar pr σ → sat ar cs bk (I 119) σ → f_sub σ (tN ar cs bk a) ≠ f_sub σ (tN ar cs bk b)))
section CR10
variable {l : Launch} {G : sG} {L x d : Nat} {ar : Int → Nat} {pr : Int → Bool} {cs : List Int} {bk : Nat → Int}
theorem c_R_bi {I : sI} {th : Int → List Int} {ρ : Nat → Nat} (X : uX ar pr cs bk) (h6 : cs.length ≤ 200) (hU : uI ar pr cs bk (I 119) th ρ) (hB : uB I bk) (ht : tr ar I 0 cs) (hP : rP I pr) {v : Int} (hv0 : 0 ≤ v) (hv1 : v < 12) (hvu : I 119 v = -1) {y : Nat} (hy : y < cs.length) (hd : 0 ≤ cs[y] ∨ (cs[y] < 0 ∧ I 119 (-1 - cs[y] + bk y) = -1 ∧ -1 - cs[y] + bk y ≠ v)) :
    sCall l G mM_bind (sRm (d + 202) 0) [.inr (.inl 84), .inl v, .inl (y : Int), .inl (bk y)] (hS L x I) (qE L x (biQ ar pr cs bk I th v y)) := by
  have hbn := (X.2.2.2.2 y hy).1
  have hrn := (hU.2.2.2.2 y hy).1
  have hrg : ∀ c ∈ cs, -12 ≤ c ∧ c < 40 := fun c hc => ⟨by have := X.2.2.2.1 c hc; omega, (X.2.2.2.1 c hc).2⟩
  refine sCall_of (by decide) (Nat.le_of_ble_eq_true rfl) (sV1s_c trivial (sV1s_c (sV1_i (by omega) (by omega)) (sV1s_c (sV1_i (by omega) (by omega)) (sV1s_c (sV1_i (by omega) (by omega)) sV1s_n)))) rfl ?_
  show sJ l G mM_bind (sRm (d + 202) 0) _ 0 (6 * 0) 0 [some (.inr (.inl 84)), some (.inl v), some (.inl (y : Int)), some (.inl (bk y))] [] (hSh L, hRF, I, x)
  refine sg_R_bi_0 (k := ?_)
  refine sc_vI (as := [.inl _]) (rest := []) (cc := 6) ct_M_bind lk_M_isPredicate lm_M_144 (c_R_ip (d := 0) (by omega) hrg ht hP hy) rfl ?_
  by_cases hpr : pr cs[y] = true
  · rw [if_pos hpr]
    refine sg_R_bi_p (k := ?_)
    refine sc_retZ ct_M_bind ⟨_, _, rfl, rfl, fun _ _ _ => rfl, Or.inr ⟨rfl, fun σ hg hs he => ?_⟩⟩
    have hc : ¬ cs[y] < 0 := fun h => by rw [X.2.2.1 _ h] at hpr; cases hpr
    have h1 := (hg (-1 - v) (by omega)).2
    rw [he, tN_c X hy hc, f_sub_c, if_neg hc] at h1
    change pr cs[y] = false at h1
    rw [hpr] at h1
    cases h1
  · rw [if_neg hpr]
    refine sg_R_bi_1 (k := ?_)
    refine sc_vE (as := [.inl _, .inl _, .inl _]) (rest := []) (cc := 6) ct_M_bind lk_M_occurs lm_M_147 (c_R_oc (d := d) X (by omega) hU hB ht hv0 hv1 hvu 201 y hy (by omega)) rfl (fun r I1 hr => ?_)
    obtain ⟨rfl, ⟨rfl, hm⟩ | ⟨rfl, hm⟩⟩ := hr
    · refine sg_R_bi_o (k := ?_)
      exact sc_retZ ct_M_bind ⟨_, _, rfl, rfl, fun _ _ _ => rfl, Or.inr ⟨rfl, fun σ hg hs => occ_no X hU hs hv0 hy hd hm⟩⟩
    · refine sg_R_bi_b (k := ?_)
      have hhd : pr ((f_sub th (tN ar cs bk y)).headD 0) = false := by
        rcases hd with hc | ⟨hc, hu, -⟩
        · rw [sN_c X hy (by omega)]
          show pr cs[y] = false
          cases h : pr cs[y]
          · rfl
          · exact absurd h hpr
        · rw [sN_u X hU hy hc hu]
          exact X.2.2.1 (cs[y] - bk y) (by omega)
      obtain ⟨ρ', hU'⟩ := uI_bind X hU hv0 hv1 hvu hy hm hhd
      generalize hth : (fun c => f_sub (one (-1 - v) (f_sub th (tN ar cs bk y))) (th c)) = th' at hU'
      have e119 : sU (sU I1 119 v (y : Int)) 120 v (bk y) 119 = bU (I1 119) v y := by
        rw [sU_ne (by omega)]
        funext q
        unfold bU sU
        by_cases hq : q = v
        · rw [if_pos hq, if_pos ⟨rfl, hq⟩]
        · rw [if_neg hq, if_neg (fun h => hq h.2)]
      refine sc_retZ ct_M_bind ⟨_, _, rfl, rfl, fun w g1 g2 => by rw [sU_ne g2, sU_ne g1], Or.inl ⟨rfl, th', ρ', by rw [e119]; exact hU', fun q g1 g2 g3 => ?_, ?_, ?_, fun σ hs he => ?_⟩⟩
      · rw [e119] at g3 ⊢
        unfold bU at g3 ⊢
        by_cases hq : q = v
        · subst hq
          rw [if_pos rfl, hU_eq]
          rfl
        · rw [if_neg hq] at g3 ⊢
          rw [hU_nj hq, sU_ne (by omega)]
          exact hB q g1 g2 g3
      · rw [e119]
        refine ⟨fun q g1 g2 g3 => ?_, one (-1 - v) (f_sub th (tN ar cs bk y)), fun c => by rw [← hth]⟩
        unfold bU
        by_cases hq : q = v
        · subst hq; exact absurd hvu g3
        · rw [if_neg hq]
      · have := hU'.2.2.1 v hv0 hv1 (by unfold bU; rw [if_pos rfl]; omega)
        unfold bU at this
        rw [if_pos rfl] at this
        exact this
      · rw [e119]
        intro q g1 g2 g3
        unfold bU at g3 ⊢
        by_cases hq : q = v
        · subst hq
          rw [if_pos rfl]
          exact he
        · rw [if_neg hq] at g3 ⊢
          exact hs q g1 g2 g3
theorem c_R_u (X : uX ar pr cs bk) (h6 : cs.length ≤ 200) : ∀ (N q a b : Nat) (I : sI) (th : Int → List Int) (ρ : Nat → Nat), cs.length ≤ N + q → wk ar cs bk (I 119) q a → a < cs.length → b < cs.length → uI ar pr cs bk (I 119) th ρ → uB I bk → tr ar I 0 cs → rP I pr →
    sCall l G mM_unify4 (sRm (d + 203 + N) 0) [.inr (.inl 84), .inl (a : Int), .inl (bk a), .inl (b : Int), .inl (bk b)] (hS L x I) (qE L x (unQ ar pr cs bk I th a b)) := by
  intro N
  induction N with
  | zero =>
    intro q a b I th ρ hN hw ha hb hU
    have := wk_b hU hw
    omega
  | succ N ih =>
    intro q a b I th ρ hN hw ha hb hU hB ht hP
    obtain ⟨k, hk⟩ := X.1
    have hba := (X.2.2.2.2 a ha).1
    have hbb := (X.2.2.2.2 b hb).1
    refine sCall_of (by decide) (Nat.le_of_ble_eq_true rfl) (sV1s_c trivial (sV1s_c (sV1_i (by omega) (by omega)) (sV1s_c (sV1_i (by omega) (by omega)) (sV1s_c (sV1_i (by omega) (by omega)) (sV1s_c (sV1_i (by omega) (by omega)) sV1s_n))))) rfl ?_
    show sJ l G mM_unify4 (sRm (d + 203 + (N + 1)) 0) _ 0 (6 * 0) 0 [some (.inr (.inl 84)), some (.inl (a : Int)), some (.inl (bk a)), some (.inl (b : Int)), some (.inl (bk b)), none, none, none, none, none, none] [] (hSh L, hRF, I, x)
    -- both stand for themselves
    have fin : ∀ (q' u w : Nat) (oB : Option sV), q ≤ q' → wk ar cs bk (I 119) q' u → drf cs bk (I 119) u → drf cs bk (I 119) w → f_sub th (tN ar cs bk a) = f_sub th (tN ar cs bk u) → f_sub th (tN ar cs bk b) = f_sub th (tN ar cs bk w) → (∀ σ, sat ar cs bk (I 119) σ → f_sub σ (tN ar cs bk a) = f_sub σ (tN ar cs bk u)) → (∀ σ, sat ar cs bk (I 119) σ → f_sub σ (tN ar cs bk b) = f_sub σ (tN ar cs bk w)) →
        sJ l G mM_unify4 (sRm (d + 203 + (N + 1)) 0) (qE L x (unQ ar pr cs bk I th a b)) 0 (6 * 0) 82 [some (.inr (.inl 84)), some (.inl (a : Int)), some (.inl (bk a)), some (.inl (b : Int)), some (.inl (bk b)), some (.inl (u : Int)), some (.inl (bk u)), some (.inl (w : Int)), some (.inl (bk w)), oB, none] [] (hSh L, hRF, I, x) := by
      intro q' u w oB hq' hwu hdu hdw eu ew su sw
      obtain ⟨hu, hdu⟩ := hdu
      obtain ⟨hw', hdw⟩ := hdw
      obtain ⟨t1, t2, t3, t4⟩ := tr_at ht hu
      obtain ⟨v1, v2, v3, v4⟩ := tr_at ht hw'
      have hbu := (X.2.2.2.2 u hu).1
      have hbw := (X.2.2.2.2 w hw').1
      have hcu := X.2.2.2.1 cs[u] (List.getElem_mem hu)
      have hcw := X.2.2.2.1 cs[w] (List.getElem_mem hw')
      -- a value for the variable at u
      have bindU : ∀ (hc : cs[u] < 0) (hne : 0 ≤ cs[w] ∨ (cs[w] < 0 ∧ I 119 (-1 - cs[w] + bk w) = -1 ∧ -1 - cs[w] + bk w ≠ -1 - cs[u] + bk u)), sJ l G mM_unify4 (sRm (d + 203 + (N + 1)) 0) (qE L x (unQ ar pr cs bk I th a b)) 0 (6 * 0) 122 [some (.inr (.inl 84)), some (.inl (a : Int)), some (.inl (bk a)), some (.inl (b : Int)), some (.inl (bk b)), some (.inl (u : Int)), some (.inl (bk u)), some (.inl (w : Int)), some (.inl (bk w)), oB, none] [.inl (bk w), .inl (w : Int), .inl (-1 - cs[u] + bk u), .inr (.inl 84)] (hSh L, hRF, I, x) := by
        intro hc hne
        have hj := jv_b X hu hc
        have hu0 := (hdu.resolve_left (by omega)).2
        refine sc_vE (as := [.inl _, .inl _, .inl _]) (rest := []) (cc := 6) ct_M_unify4 lk_M_bind lm_M_136 (c_R_bi (d := d) X h6 hU hB ht hP hj.1 hj.2 hu0 hw' hne) rfl (fun r I1 hr => ?_)
        obtain ⟨f1, hr⟩ := hr
        have tv : ∀ τ, f_sub τ (tN ar cs bk u) = τ (cs[u] - bk u) := fun τ => by rw [tN_v X hu hc, f_sub_1 τ (by omega)]
        rw [show -1 - (-1 - cs[u] + bk u) = cs[u] - bk u by omega] at hr
        rcases hr with ⟨rfl, th', ρ', y1, y2, y3, y4, y5⟩ | ⟨rfl, y1⟩
        · exact sc_retZ ct_M_unify4 ⟨_, _, rfl, rfl, f1, Or.inl ⟨rfl, th', ρ', y1, y2, y3, by rw [uE_sub y3 eu, uE_sub y3 ew, tv]; exact y4, fun σ _ hs he => y5 σ hs (by rw [su σ hs, sw σ hs, tv] at he; exact he)⟩⟩
        · exact sc_retZ ct_M_unify4 ⟨_, _, rfl, rfl, f1, Or.inr ⟨rfl, fun σ hg hs he => y1 σ hg hs (by rw [su σ hs, sw σ hs, tv] at he; exact he)⟩⟩
      by_cases hc : cs[u] < 0
      · have ej : -1 - I 114 (u : Int) + bk u = -1 - cs[u] + bk u := by rw [t1]
        have hu0 := (hdu.resolve_left (by omega)).2
        by_cases hd : cs[w] < 0
        · have hw0 := (hdw.resolve_left (by omega)).2
          by_cases he : cs[u] = cs[w]
          · by_cases hbe : bk u = bk w
            · refine sg_R_u_s (k := ?_)
              have e : tN ar cs bk u = tN ar cs bk w := by rw [tN_v X hu hc, tN_v X hw' hd, he, hbe]
              exact sc_retZ ct_M_unify4 ⟨_, _, rfl, rfl, fun _ _ _ => rfl, Or.inl ⟨rfl, th, ρ, hU, hB, uE_refl _ _, by rw [eu, ew, e], fun σ _ hs _ => hs⟩⟩
            · refine sg_R_u_b3 (k := ?_)
              rw [ej]
              exact bindU hc (Or.inr ⟨hd, hw0, by omega⟩)
          · refine sg_R_u_b2 (k := ?_)
            rw [ej]
            exact bindU hc (Or.inr ⟨hd, hw0, by omega⟩)
        · refine sg_R_u_b1 (k := ?_)
          rw [ej]
          exact bindU hc (Or.inl (by omega))
      · by_cases hd : cs[w] < 0
        · have hj := jv_b X hw' hd
          have hw0 := (hdw.resolve_left (by omega)).2
          have ej : -1 - I 114 (w : Int) + bk w = -1 - cs[w] + bk w := by rw [v1]
          refine sg_R_u_b4 (k := ?_)
          rw [ej]
          refine sc_vE (as := [.inl _, .inl _, .inl _]) (rest := []) (cc := 6) ct_M_unify4 lk_M_bind lm_M_136 (c_R_bi (d := d) X h6 hU hB ht hP hj.1 hj.2 hw0 hu (Or.inl (by omega))) rfl (fun r I1 hr => ?_)
          obtain ⟨f1, hr⟩ := hr
          have tv : ∀ τ, f_sub τ (tN ar cs bk w) = τ (cs[w] - bk w) := fun τ => by rw [tN_v X hw' hd, f_sub_1 τ (by omega)]
          rw [show -1 - (-1 - cs[w] + bk w) = cs[w] - bk w by omega] at hr
          rcases hr with ⟨rfl, th', ρ', y1, y2, y3, y4, y5⟩ | ⟨rfl, y1⟩
          · exact sc_retZ ct_M_unify4 ⟨_, _, rfl, rfl, f1, Or.inl ⟨rfl, th', ρ', y1, y2, y3, by rw [uE_sub y3 eu, uE_sub y3 ew, tv]; exact y4.symm, fun σ _ hs he => y5 σ hs (by rw [su σ hs, sw σ hs, tv] at he; exact he.symm)⟩⟩
          · exact sc_retZ ct_M_unify4 ⟨_, _, rfl, rfl, f1, Or.inr ⟨rfl, fun σ hg hs he => y1 σ hg hs (by rw [su σ hs, sw σ hs, tv] at he; exact he.symm)⟩⟩
        · by_cases he : cs[u] = cs[w]
          · refine sg_R_u_d (k := ?_)
            rw [← he] at v3 v4
            have loop : ∀ (m i : Nat) (ka kb : Int) (I3 : sI) (th3 : Int → List Int) (ρ3 : Nat → Nat), m = ar cs[u] - i → i ≤ ar cs[u] → ka = kc ar cs u (ar cs[u]) i → kb = kc ar cs w (ar cs[u]) i → (∀ w, w ≠ 119 → w ≠ 120 → I3 w = I w) → uI ar pr cs bk (I3 119) th3 ρ3 → uB I3 bk → uE (I 119) th (I3 119) th3 → f_sub th3 ((pre ar cs u i).map (shv (bk u))) = f_sub th3 ((pre ar cs w i).map (shv (bk w))) → (∀ σ, gdS ar pr σ → sat ar cs bk (I 119) σ → f_sub σ (tN ar cs bk a) = f_sub σ (tN ar cs bk b) → sat ar cs bk (I3 119) σ) →
                sJ l G mM_unify4 (sRm (d + 203 + (N + 1)) 0) (qE L x (unQ ar pr cs bk I th a b)) 0 (6 * 0) 163 [some (.inr (.inl 84)), some (.inl (a : Int)), some (.inl (bk a)), some (.inl (b : Int)), some (.inl (bk b)), some (.inl (u : Int)), some (.inl (bk u)), some (.inl (w : Int)), some (.inl (bk w)), some (.inl kb), some (.inl ka)] [] (hSh L, hRF, I3, x) := by
              intro m
              induction m with
              | zero =>
                intro i ka kb I3 th3 ρ3 hm hi hka hkb f3 U3 B3 E3 q3 s3
                have hi' : i = ar cs[u] := by omega
                subst hi'
                rw [kc_no] at hka
                refine sg_R_u_x (k := ?_)
                refine sc_retZ ct_M_unify4 ⟨_, _, rfl, rfl, f3, Or.inl ⟨rfl, th3, ρ3, U3, B3, E3, ?_, s3⟩⟩
                rw [uE_sub E3 eu, uE_sub E3 ew, sN_c X hu hc, sN_c X hw' hd, ← he, q3]
              | succ m ihm =>
                intro i ka kb I3 th3 ρ3 hm hi hka hkb f3 U3 B3 E3 q3 s3
                have hi' : i < ar cs[u] := by omega
                have hiw : i < ar cs[w] := by rw [← he]; exact hi'
                rw [kc_in hi'] at hka hkb
                subst hka
                subst hkb
                have hlu := ap_lt ar hk hu hi'
                have hlw := ap_lt ar hk hw' hiw
                have ht3 : tr ar I3 0 cs := tr_upd hk ht (fun w g1 g2 j _ _ => by rw [f3 w (by omega) (by omega)])
                have hP3 : rP I3 pr := ⟨hP.1, fun c g1 g2 => by rw [f3 87 (by omega) (by omega)]; exact hP.2 c g1 g2⟩
                have hwk3 : wk ar cs bk (I3 119) (q' + 1) (ap ar cs u i) := ⟨u, hu, wk_ext X E3.1 hwu, Or.inl ⟨i, hi', rfl⟩⟩
                have hih := ih (q' + 1) (ap ar cs u i) (ap ar cs w i) I3 th3 ρ3 (by omega) hwk3 hlu.2 hlw.2 U3 B3 ht3 hP3
                rw [(X.2.2.2.2 u hu).2 i hi', (X.2.2.2.2 w hw').2 i hiw] at hih
                refine sg_R_u_k (k := ?_)
                refine sc_vE (as := [.inl _, .inl _, .inl _, .inl _]) (rest := []) (cc := 6) ct_M_unify4 lk_M_unify4 lm_M_140 hih rfl (fun r I4 hr => ?_)
                obtain ⟨f4, hr⟩ := hr
                have f5 : ∀ w, w ≠ 119 → w ≠ 120 → I4 w = I w := fun w g1 g2 => by rw [f4 w g1 g2, f3 w g1 g2]
                have kq : ∀ σ, gdS ar pr σ → sat ar cs bk (I 119) σ → f_sub σ (tN ar cs bk a) = f_sub σ (tN ar cs bk b) → f_sub σ (tN ar cs bk (ap ar cs u i)) = f_sub σ (tN ar cs bk (ap ar cs w i)) := fun σ hg hs hee => by
                  rw [su σ hs, sw σ hs, sN_c X hu hc, sN_c X hw' hd, ← he] at hee
                  exact kid_eq X hg hu hw' he (List.cons.inj hee).2 hi'
                rcases hr with ⟨rfl, th4, ρ4, y1, y2, y3, y4, y5⟩ | ⟨rfl, y1⟩
                · have e4 : I4 116 (ap ar cs u i : Int) = kc ar cs u (ar cs[u]) (i + 1) := by rw [f5 116 (by omega) (by omega)]; exact t4 i hi'
                  have e5 : I4 116 (ap ar cs w i : Int) = kc ar cs w (ar cs[u]) (i + 1) := by rw [f5 116 (by omega) (by omega)]; exact v4 i hi'
                  refine sg_R_u_y (k := ?_)
                  refine ihm (i + 1) _ _ I4 th4 ρ4 (by omega) (by omega) e4 e5 f5 y1 y2 (uE_trans E3 y3) ?_ (fun σ hg hs hee => y5 σ hg (s3 σ hg hs hee) (kq σ hg hs hee))
                  rw [tN_s X hu hi', tN_s X hw' hiw, f_sub_app, f_sub_app, uE_sub y3 q3, y4]
                · refine sg_R_u_n (k := ?_)
                  exact sc_retZ ct_M_unify4 ⟨_, _, rfl, rfl, f5, Or.inr ⟨rfl, fun σ hg hs hee => y1 σ hg (s3 σ hg hs hee) (kq σ hg hs hee)⟩⟩
            exact loop (ar cs[u]) 0 _ _ I th ρ rfl (Nat.zero_le _) t3 v3 (fun _ _ _ => rfl) hU hB (uE_refl _ _) (by rw [pre_0, pre_0]; rfl) (fun σ _ hs _ => hs)
          · refine sg_R_u_c (k := ?_)
            refine sc_retZ ct_M_unify4 ⟨_, _, rfl, rfl, fun _ _ _ => rfl, Or.inr ⟨rfl, fun σ hg hs hee => ?_⟩⟩
            rw [su σ hs, sw σ hs, sN_c X hu hc, sN_c X hw' hd] at hee
            exact he (List.cons.inj hee).1
    -- the value of the second
    have loop2 : ∀ (R q' u w : Nat) (oB : Option sV), ρ w < R → w < cs.length → q ≤ q' → wk ar cs bk (I 119) q' u → drf cs bk (I 119) u → f_sub th (tN ar cs bk a) = f_sub th (tN ar cs bk u) → f_sub th (tN ar cs bk b) = f_sub th (tN ar cs bk w) → (∀ σ, sat ar cs bk (I 119) σ → f_sub σ (tN ar cs bk a) = f_sub σ (tN ar cs bk u)) → (∀ σ, sat ar cs bk (I 119) σ → f_sub σ (tN ar cs bk b) = f_sub σ (tN ar cs bk w)) →
        sJ l G mM_unify4 (sRm (d + 203 + (N + 1)) 0) (qE L x (unQ ar pr cs bk I th a b)) 0 (6 * 0) 45 [some (.inr (.inl 84)), some (.inl (a : Int)), some (.inl (bk a)), some (.inl (b : Int)), some (.inl (bk b)), some (.inl (u : Int)), some (.inl (bk u)), some (.inl (w : Int)), some (.inl (bk w)), oB, none] [] (hSh L, hRF, I, x) := by
      intro R
      induction R with
      | zero => intro q' u w oB h0; omega
      | succ R ihR =>
        intro q' u w oB hR hw' hq' hwu hdu eu ew su sw
        obtain ⟨v1, v2, v3, v4⟩ := tr_at ht hw'
        have hbw := (X.2.2.2.2 w hw').1
        have hcw := X.2.2.2.1 cs[w] (List.getElem_mem hw')
        by_cases hd : cs[w] < 0
        · have hj := jv_b X hw' hd
          have ej : -1 - I 114 (w : Int) + bk w = -1 - cs[w] + bk w := by rw [v1]
          by_cases hz : I 119 (-1 - cs[w] + bk w) = -1
          · have hz2 : I 119 (-1 - I 114 (w : Int) + bk w) = -1 := by rw [ej]; exact hz
            refine sg_R_u_h (k := ?_)
            exact fin q' u w oB hq' hwu hdu ⟨hw', Or.inr ⟨hd, hz⟩⟩ eu ew su sw
          · obtain ⟨e1, e2⟩ := sN_b X hU hw' hd hz
            have h1 := hU.1 _ hj.1 hj.2
            have a1 : I 119 (-1 - I 114 (w : Int) + bk w) = (((I 119 (-1 - cs[w] + bk w)).toNat : Nat) : Int) := by rw [ej]; omega
            have a2 : I 120 (-1 - I 114 (w : Int) + bk w) = bk (I 119 (-1 - cs[w] + bk w)).toNat := by rw [ej]; exact hB _ hj.1 hj.2 hz
            have hr := (hU.2.2.2.2 w hw').2.2 hd hz
            refine sg_R_u_m (k := ?_)
            rw [a1, a2]
            refine ihR q' u _ _ (by omega) e2 hq' hwu hdu eu (ew.trans e1) su (fun σ hs => ?_)
            rw [sw σ hs, tN_v X hw' hd, f_sub_1 σ (by omega)]
            have := hs _ hj.1 hj.2 hz
            rw [show -1 - (-1 - cs[w] + bk w) = cs[w] - bk w by omega] at this
            exact this
        · refine sg_R_u_g (k := ?_)
          exact fin q' u w oB hq' hwu hdu ⟨hw', Or.inl (by omega)⟩ eu ew su sw
    -- the value of the first
    have loop1 : ∀ (R q' u : Nat) (oA : Option sV), ρ u < R → u < cs.length → q ≤ q' → wk ar cs bk (I 119) q' u → f_sub th (tN ar cs bk a) = f_sub th (tN ar cs bk u) → (∀ σ, sat ar cs bk (I 119) σ → f_sub σ (tN ar cs bk a) = f_sub σ (tN ar cs bk u)) →
        sJ l G mM_unify4 (sRm (d + 203 + (N + 1)) 0) (qE L x (unQ ar pr cs bk I th a b)) 0 (6 * 0) 4 [some (.inr (.inl 84)), some (.inl (a : Int)), some (.inl (bk a)), some (.inl (b : Int)), some (.inl (bk b)), some (.inl (u : Int)), some (.inl (bk u)), oA, none, none, none] [] (hSh L, hRF, I, x) := by
      intro R
      induction R with
      | zero => intro q' u oA h0; omega
      | succ R ihR =>
        intro q' u oA hR hu hq' hwu eu su
        obtain ⟨t1, t2, t3, t4⟩ := tr_at ht hu
        have hbu := (X.2.2.2.2 u hu).1
        have hcu := X.2.2.2.1 cs[u] (List.getElem_mem hu)
        by_cases hc : cs[u] < 0
        · have hj := jv_b X hu hc
          have ej : -1 - I 114 (u : Int) + bk u = -1 - cs[u] + bk u := by rw [t1]
          by_cases hz : I 119 (-1 - cs[u] + bk u) = -1
          · have hz2 : I 119 (-1 - I 114 (u : Int) + bk u) = -1 := by rw [ej]; exact hz
            refine sg_R_u_f (k := ?_)
            exact loop2 _ q' u b _ (Nat.lt_succ_self _) hb hq' hwu ⟨hu, Or.inr ⟨hc, hz⟩⟩ eu rfl su (fun σ _ => rfl)
          · obtain ⟨e1, e2⟩ := sN_b X hU hu hc hz
            have h1 := hU.1 _ hj.1 hj.2
            have a1 : I 119 (-1 - I 114 (u : Int) + bk u) = (((I 119 (-1 - cs[u] + bk u)).toNat : Nat) : Int) := by rw [ej]; omega
            have a2 : I 120 (-1 - I 114 (u : Int) + bk u) = bk (I 119 (-1 - cs[u] + bk u)).toNat := by rw [ej]; exact hB _ hj.1 hj.2 hz
            have hr := (hU.2.2.2.2 u hu).2.2 hc hz
            refine sg_R_u_l (k := ?_)
            rw [a1, a2]
            refine ihR (q' + 1) _ _ (by omega) e2 (by omega) ⟨u, hu, hwu, Or.inr ⟨hc, hz, rfl⟩⟩ (eu.trans e1) (fun σ hs => ?_)
            rw [su σ hs, tN_v X hu hc, f_sub_1 σ (by omega)]
            have := hs _ hj.1 hj.2 hz
            rw [show -1 - (-1 - cs[u] + bk u) = cs[u] - bk u by omega] at this
            exact this
        · refine sg_R_u_e (k := ?_)
          exact loop2 _ q' u b _ (Nat.lt_succ_self _) hb hq' hwu ⟨hu, Or.inl (by omega)⟩ eu rfl su (fun σ _ => rfl)
    refine sg_R_u_0 (k := ?_)
    exact loop1 _ q a _ (Nat.lt_succ_self _) ha (Nat.le_refl _) hw rfl (fun σ _ => rfl)
end CR10
