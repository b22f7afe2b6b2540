/-! Unifier: hasValues -/
theorem rsum_ge (w : Nat → Nat) {a : Nat} : ∀ n, a < n → w a ≤ rsum w n := by
  intro n
  induction n with
  | zero => intro h; omega
  | succ n ih =>
    intro h
    simp only [rsum]
    by_cases hn : a = n
    · subst hn; omega
    · have := ih (by omega); omega
section CH
variable {l : Launch} {G : sG} {L x d : Nat} {I : sI}
/-- what stands when there are values -/
def uOk (I I' : sI) (V : Int → Prop) (T : Int → List Int) (s t : List Int) (P0 : List (Int × Int)) (rt : Int → Int) : Prop := ∃ (hh : Int → Nat) (q : Nat) (P : List (Int × Int)) (K : Nat), (∀ pq ∈ P0, pq ∈ P) ∧ uR I' rt hh q ∧ q ≤ 211 ∧ uInv (hArt I) (hPr I) (I 76) V T s t (I' 79) rt P P.length ∧ wOk (fun c => I' 79 (rt (199 - c))) T (I' 82) K ∧ uC (I' 82) = 0 ∧ ∀ c, -12 ≤ c → c < 0 → I' 79 (rt (199 - c)) ≠ -1 → hPr I (I 76 (I' 79 (rt (199 - c)))) = false
def hvP (I : sI) (V : Int → Prop) (T : Int → List Int) (s t : List Int) (P0 : List (Int × Int)) : Int → sI → Prop := fun r I' => (∀ z, z < 75 ∨ 82 < z ∨ z = 76 ∨ z = 77 → I' z = I z) ∧ ((r = 0 ∧ ∀ σ, ¬ gu (hArt I) (hPr I) s t σ) ∨ (r = 1 ∧ ∃ rt, uOk I I' V T s t P0 rt))
theorem c_U_hv {V : Int → Prop} {T : Int → List Int} {s t : List Int} {P0 : List (Int × Int)} (hF : uF I V T) (ha : alf I) (hR : uR I (fun n => n) (fun _ => 0) 0) (hQ : uQ I P0) (hN : uInv (hArt I) (hPr I) (I 76) V T s t (I 79) (fun n => n) P0 0) :
    sCall l G mU_hasValues (sRm (d + 3) 0) [.inr (.inl 75), .inr (.inl 2)] (hS L x I) (qE L x (hvP I V T s t P0)) := by
  refine sCall_of (by decide) (Nat.le_of_ble_eq_true rfl) (sV1s_c trivial (sV1s_c trivial sV1s_n)) rfl ?_
  show sJ l G mU_hasValues (sRm (d + 3) 0) _ 0 (6 * 0) 0 [some (.inr (.inl 75)), some (.inr (.inl 2)), none] [] (hSh L, hRF, I, x)
  have hS := uS_of hF
  -- behind the pairs
  have tail : ∀ (q : Nat) (I' : sI) (rt : Int → Int) (hh : Int → Nat) (P : List (Int × Int)), q = P.length → (∀ pq ∈ P0, pq ∈ P) → (∀ z, z ≠ 75 → z ≠ 78 → z ≠ 79 → z ≠ 80 → z ≠ 81 → I' z = I z) → uR I' rt hh q → uQ I' P → uInv (hArt I) (hPr I) (I 76) V T s t (I' 79) rt P q → sJ l G mU_hasValues (sRm (d + 3) 0) (qE L x (hvP I V T s t P0)) 0 (6 * 0) 2 [some (.inr (.inl 75)), some (.inr (.inl 2)), some (.inl q)] [] (hSh L, hRF, I', x) := by
    intro q I' rt hh P hq hP0 hI hR hQ hN
    have hF' : uF I' V T := uF_upd hF (hI 3 (by omega) (by omega) (by omega) (by omega) (by omega)) (hI 76 (by omega) (by omega) (by omega) (by omega) (by omega)) (hI 77 (by omega) (by omega) (by omega) (by omega) (by omega))
    have e76 : I' 76 = I 76 := hI 76 (by omega) (by omega) (by omega) (by omega) (by omega)
    have e4 : hPr I' = hPr I := hPr_eq (hI 4 (by omega) (by omega) (by omega) (by omega) (by omega))
    have q1 := hQ.1
    have q2 := hQ.2.1
    have hsv : ∀ c, -12 ≤ c → c < 0 → I' 79 (rt (199 - c)) = -1 ∨ (V (I' 79 (rt (199 - c))) ∧ 0 ≤ I 76 (I' 79 (rt (199 - c))) ∧ rt (I' 79 (rt (199 - c))) = rt (199 - c)) := fun c c0 c1 => (uInv_sv hS hR hN c0 c1).1
    have hval : ∀ c, -12 ≤ c → c < 0 → ∀ σ, gu (hArt I) (hPr I) s t σ → I' 79 (rt (199 - c)) ≠ -1 → σ c = f_sub σ (T (I' 79 (rt (199 - c)))) := fun c c0 c1 => (uInv_sv hS hR hN c0 c1).2
    refine sg_U_hv_x (k := ?_)
    refine sc_vE (as := [.inr (.inl _)]) (rest := []) (cc := 5) ct_U_hasValues lk_U_noValueBeginsWithPredicate lm_U_nv_66 (c_U_nv (d := d) hF' hR (by omega) (fun v v0 v1 => ?_)) rfl (fun r I1 hr => ?_)
    · have := hsv (-1 - v) (by omega) (by omega)
      rw [show 199 - (-1 - v) = 200 + v by omega] at this
      rw [e76]
      rcases this with h | h
      · exact Or.inl h
      · exact Or.inr ⟨h.1, h.2.1⟩
    · obtain ⟨rfl, hr⟩ := hr
      rw [e76, e4] at hr
      rcases hr with ⟨rfl, hr⟩ | ⟨rfl, v, v0, v1, v2, v3⟩
      · refine sg_U_hv_w (k := ?_)
        refine sc_vE (as := []) (rest := []) (cc := 5) ct_U_hasValues lk_U_weighValues lm_U_wv_70 (c_U_wv (d := d) hF' hR (by omega) (fun c c0 c1 => ?_)) rfl (fun r2 I2 hr2 => ?_)
        · rcases hsv c c0 c1 with h | h
          · exact Or.inl h
          · exact Or.inr h.1
        · obtain ⟨hI2, hr2⟩ := hr2
          have hz : ∀ z, z < 75 ∨ 82 < z ∨ z = 76 ∨ z = 77 → I2 z = I z := fun z hz => by rw [hI2 z (by omega), hI z (by omega) (by omega) (by omega) (by omega) (by omega)]
          rcases hr2 with ⟨rfl, K, k1, k2⟩ | ⟨rfl, W, K, k1, k2, k3⟩
          · refine sg_U_hv_h (k := ?_)
            have e79 : I2 79 = I1 79 := hI2 79 (by omega)
            refine sc_retZ ct_U_hasValues ⟨_, _, rfl, rfl, hz, Or.inr ⟨rfl, rt, hh, q, P, K, hP0, ?_, by omega, ?_, ?_, k2, ?_⟩⟩
            · unfold uR
              rw [hI2 78 (by omega)]
              exact hR
            · rw [e79, ← hq]
              exact hN
            · rw [e79]
              exact k1
            · intro c c0 c1
              rw [e79]
              have := hr (-1 - c) (by omega) (by omega)
              rw [show 200 + (-1 - c) = 199 - c by omega] at this
              exact this
          · refine sg_U_hv_g (k := ?_)
            obtain ⟨c, c0, c1, c2⟩ := uC_pos k3
            exact sc_retZ ct_U_hasValues ⟨_, _, rfl, rfl, hz, Or.inl ⟨rfl, stk_no hS hR hN k1 k2 c0 c1 c2 (fun p hp d hd => ((hF p hp).2.2.2.2.2 d hd).1)⟩⟩
      · refine sg_U_hv_p (k := ?_)
        refine sc_retZ ct_U_hasValues ⟨_, _, rfl, rfl, fun z hz => hI z (by omega) (by omega) (by omega) (by omega) (by omega), Or.inl ⟨rfl, fun σ hσ => ?_⟩⟩
        have hc := hval (-1 - v) (by omega) (by omega) σ hσ
        have hp := hsv (-1 - v) (by omega) (by omega)
        rw [show 199 - (-1 - v) = 200 + v by omega] at hc hp
        have hc := hc v2
        have hp := hp.resolve_left v2
        have ht := (T_cons hS hp.1).1
        have hg := (hσ.1 (-1 - v) (by omega)).2
        rw [hc, ht, f_sub_c, if_neg (by omega)] at hg
        change hPr I (I 76 (I1 79 (rt (200 + v)))) = false at hg
        rw [hg] at v3
        cases v3
  have loop : ∀ (n q : Nat) (I' : sI) (rt : Int → Int) (hh : Int → Nat) (P : List (Int × Int)), n = 201 - q → q ≤ P.length → (∀ pq ∈ P0, pq ∈ P) → (∀ z, z ≠ 75 → z ≠ 78 → z ≠ 79 → z ≠ 80 → z ≠ 81 → I' z = I z) → uR I' rt hh q → uQ I' P → uInv (hArt I) (hPr I) (I 76) V T s t (I' 79) rt P q → sJ l G mU_hasValues (sRm (d + 3) 0) (qE L x (hvP I V T s t P0)) 0 (6 * 0) 2 [some (.inr (.inl 75)), some (.inr (.inl 2)), some (.inl q)] [] (hSh L, hRF, I', x) := by
    intro n
    induction n with
    | zero =>
      intro q I' rt hh P hn hq hP0 hI hR hQ hN
      have := hQ.2.1
      exact tail q I' rt hh P (by omega) hP0 hI hR hQ hN
    | succ n ih =>
      intro q I' rt hh P hn hq hP0 hI hR hQ hN
      by_cases hql : q = P.length
      · exact tail q I' rt hh P hql hP0 hI hR hQ hN
      · have hqP : q < P.length := by omega
        have hF' : uF I' V T := uF_upd hF (hI 3 (by omega) (by omega) (by omega) (by omega) (by omega)) (hI 76 (by omega) (by omega) (by omega) (by omega) (by omega)) (hI 77 (by omega) (by omega) (by omega) (by omega) (by omega))
        have e76 : I' 76 = I 76 := hI 76 (by omega) (by omega) (by omega) (by omega) (by omega)
        have har : hArt I' = hArt I := hArt_eq (hI 3 (by omega) (by omega) (by omega) (by omega) (by omega))
        have ha' : alf I' := by
          unfold alf
          rw [hI 2 (by omega) (by omega) (by omega) (by omega) (by omega), hI 3 (by omega) (by omega) (by omega) (by omega) (by omega), hI 4 (by omega) (by omega) (by omega) (by omega) (by omega)]
          exact ha
        obtain ⟨q1, q2, q3⟩ := hQ
        have hpq := q3 q hqP
        have hm := List.getElem_mem hqP
        have hv := hN.1 _ hm
        have g1 := gn_nd hS hv.1
        have g2 := gn_nd hS hv.2
        have rg1 := gn_rng hS g1
        have rg2 := gn_rng hS g2
        have hn1 : (if I' 76 (P[q].1) < 0 then 199 - I' 76 (P[q].1) else P[q].1) = nd (I 76) P[q].1 := by rw [e76]; rfl
        have hn2 : (if I' 76 (P[q].2) < 0 then 199 - I' 76 (P[q].2) else P[q].2) = nd (I 76) P[q].2 := by rw [e76]; rfl
        refine sg_U_hv_c (k := ?_)
        rw [hpq.1]
        refine sc_vI (as := [.inl _]) (rest := [.inr (.inl _), .inr (.inl _)]) (cc := 5) ct_U_hasValues lk_U_nodeAt lm_U_na_55 (c_U_na (d := d) hF' hv.1) rfl ?_
        rw [hn1]
        refine sc_vI (as := [.inl _]) (rest := [.inr (.inl _)]) (cc := 5) ct_U_hasValues lk_U_root lm_U_rt_59 (c_U_rt (d := d) hR (by omega) rg1.1 rg1.2) rfl ?_
        refine sg_U_hv_1 (k := ?_)
        rw [hpq.2]
        refine sc_vI (as := [.inl _]) (rest := [.inr (.inl _), .inl _, .inr (.inl _)]) (cc := 5) ct_U_hasValues lk_U_nodeAt lm_U_na_55 (c_U_na (d := d) hF' hv.2) rfl ?_
        rw [hn2]
        refine sc_vI (as := [.inl _]) (rest := [.inl _, .inr (.inl _)]) (cc := 5) ct_U_hasValues lk_U_root lm_U_rt_59 (c_U_rt (d := d) hR (by omega) rg2.1 rg2.2) rfl ?_
        refine sg_U_hv_2 (k := ?_)
        have b1 := hN.2.1 _ g1
        have b2 := hN.2.1 _ g2
        have rf1 := gn_rng hS b1
        have rf2 := gn_rng hS b2
        have i1 := pR_idem hR rg1.1 rg1.2
        have i2 := pR_idem hR rg2.1 rg2.2
        have c1 := hN.2.2.1 _ b1 i1
        have c2 := hN.2.2.1 _ b2 i2
        refine sc_vE (as := [.inl _, .inl _, .inr (.inl _)]) (rest := []) (cc := 5) ct_U_hasValues lk_U_join lm_U_jn_62 (c_U_jn (d := d) hF' ha' rf1.1 rf1.2 rf2.1 rf2.2 ⟨q1, q2, q3⟩ ?_ ?_ ?_) rfl (fun r I1 hr => ?_)
        · rcases c1 with h | h
          · exact Or.inl h
          · exact Or.inr ⟨h.1, by rw [e76]; exact h.2.1⟩
        · rcases c2 with h | h
          · exact Or.inl h
          · exact Or.inr ⟨h.1, by rw [e76]; exact h.2.1⟩
        · intro hne h1 h2
          obtain ⟨w, w1, w2⟩ := hN.2.2.2.2.2.2.1
          have := w2 _ b2 i2 h2
          have := rsum_ge w 212 (a := (rt (nd (I 76) P[q].2)).toNat) (by omega)
          rw [har, e76]
          omega
        · rcases hr with ⟨h1, rfl, rfl⟩ | ⟨h1, h2, h3, h4, rfl, rfl⟩ | ⟨h1, rfl, j1, j2, j3, j4, j5⟩
          · refine sg_U_hv_t (k := ?_)
            refine ih (q + 1) I1 rt hh P (by omega) (by omega) hP0 hI (fun n n0 n1 => ?_) ⟨q1, q2, q3⟩ (uInv_same hN hqP h1)
            obtain ⟨a1, a2, a3, a4, a5⟩ := hR n n0 n1
            exact ⟨a1, a2, a3, by omega, a5⟩
          · refine sg_U_hv_f (k := ?_)
            rw [e76] at h4
            exact sc_retZ ct_U_hasValues ⟨_, _, rfl, rfl, fun z hz => hI z (by omega) (by omega) (by omega) (by omega) (by omega), Or.inl ⟨rfl, uInv_fail hS hR hN hqP h2 h3 h4⟩⟩
          · refine sg_U_hv_t (k := ?_)
            rw [har, e76] at j5
            rw [e76] at j4
            have hq' : P.length ≤ (P ++ if I' 79 (rt (nd (I 76) P[q].1)) = -1 ∨ I' 79 (rt (nd (I 76) P[q].2)) = -1 then [] else pks (hArt I) T (I' 79 (rt (nd (I 76) P[q].1))) (I' 79 (rt (nd (I 76) P[q].2))) (hArt I (I 76 (I' 79 (rt (nd (I 76) P[q].1)))))).length := by rw [List.length_append]; omega
            refine ih (q + 1) I1 (fun n => if rt n = rt (nd (I 76) P[q].2) then rt (nd (I 76) P[q].1) else rt n) (fun n => if rt n = rt (nd (I 76) P[q].2) then hh n + 1 else hh n) (P ++ if I' 79 (rt (nd (I 76) P[q].1)) = -1 ∨ I' 79 (rt (nd (I 76) P[q].2)) = -1 then [] else pks (hArt I) T (I' 79 (rt (nd (I 76) P[q].1))) (I' 79 (rt (nd (I 76) P[q].2))) (hArt I (I 76 (I' 79 (rt (nd (I 76) P[q].1)))))) (by omega) (by omega) (fun pq h => List.mem_append_left _ (hP0 pq h)) (fun z z1 z2 z3 z4 z5 => by rw [j1 z z1 z2 z3 z4 z5, hI z z1 z2 z3 z4 z5]) ?_ j5 ?_
            · show pR (I1 78) _ _ _
              rw [j2]
              exact pR_join hR rf1 i1 i2 rf2 h1
            · rw [j3]
              exact uInv_join hS hR hN hqP rfl rfl h1 j4
  refine sg_U_hv_0 (k := ?_)
  exact loop 201 0 I _ _ P0 rfl (Nat.zero_le _) (fun _ h => h) (fun _ _ _ _ _ _ => rfl) hR hQ hN
end CH
