/-! the reference: nth, replaced, found -/
section CR6
variable {l : Launch} {G : sG} {L x d : Nat} {ar : Int → Nat} {pr : Int → Bool} {cs : List Int} {kk : Nat}
theorem c_R_nt (hwf : f_wf ar kk cs) (h6 : cs.length ≤ 6000) {I : sI} (ht : tr ar I 0 cs) : ∀ (n p q : Nat), p < cs.length → f_tk ar 1 (cs.drop p) ≤ n → q < f_tk ar 1 (cs.drop p) →
    sCall l G mM_nth (sRm (d + n) 0) [.inr (.inl 84), .inl (p : Int), .inl (q : Int)] (hS L x I) (qI L x ((p + q : Nat) : Int) I) := by
  intro n
  induction n with
  | zero =>
    intro p q hp hn
    have := (f_s_pos ar hwf hp).1
    omega
  | succ n ih =>
    intro p q hp hn hq
    have hpos := f_s_pos ar hwf hp
    obtain ⟨t1, t2, t3, t4⟩ := tr_at ht hp
    refine sCall_of (by decide) (Nat.le_of_ble_eq_true rfl) (sV1s_c trivial (sV1s_c (sV1_i (by omega) (by omega)) (sV1s_c (sV1_i (by omega) (by omega)) sV1s_n))) rfl ?_
    show sJ l G mM_nth (sRm (d + (n + 1)) 0) _ 0 (6 * 0) 0 [some (.inr (.inl 84)), some (.inl (p : Int)), some (.inl (q : Int)), none, none] [] (hSh L, hRF, I, x)
    by_cases hz : q = 0
    · refine sg_R_nt_z (k := ?_)
      exact sc_ret ct_M_nth ⟨by rw [hz]; rfl, rfl⟩
    · refine sg_R_nt_0 (k := ?_)
      have hae := ap_end ar hwf hp
      have loop : ∀ (m i : Nat) (le ka : Int), m = ar cs[p] - i → i ≤ ar cs[p] → ka = kc ar cs p (ar cs[p]) i → 0 ≤ le → le = p + q - ap ar cs p i →
          sJ l G mM_nth (sRm (d + (n + 1)) 0) (qI L x ((p + q : Nat) : Int) I) 0 (6 * 0) 13 [some (.inr (.inl 84)), some (.inl (p : Int)), some (.inl (q : Int)), some (.inl le), some (.inl ka)] [] (hSh L, hRF, I, x) := by
        intro m
        induction m with
        | zero =>
          intro i le ka hm hi hka h0 hle
          have hi' : i = ar cs[p] := by omega
          subst hi'
          omega
        | succ m ihm =>
          intro i le ka hm hi hka h0 hle
          have hi' : i < ar cs[p] := by omega
          rw [kc_in hi'] at hka
          subst hka
          have hlt := ap_lt ar hwf hp hi'
          have hkd := ap_kid ar hwf hp hi'
          have has := ap_s ar hwf hp hi'
          obtain ⟨-, v2, -, -⟩ := tr_at ht hlt.2
          by_cases hlw : le < f_tk ar 1 (cs.drop (ap ar cs p i))
          · refine sg_R_nt_k (k := ?_)
            have el : le = ((le.toNat : Nat) : Int) := by omega
            rw [el]
            refine sc_vI (as := [.inl _, .inl _]) (rest := []) (cc := 6) ct_M_nth lk_M_nth lm_M_181 (ih (ap ar cs p i) le.toNat hlt.2 (by omega) (by omega)) rfl ?_
            exact sc_ret ct_M_nth ⟨by congr 3; omega, rfl⟩
          · refine sg_R_nt_n (k := ?_)
            exact ihm (i + 1) _ _ (by omega) (by omega) (t4 i hi') (by rw [v2]; omega) (by rw [v2]; omega)
      exact loop (ar cs[p]) 0 _ _ rfl (Nat.zero_le _) t3 (by omega) (by rw [ap_0]; omega)
theorem c_R_rd (hwf : f_wf ar kk cs) (hrg : ∀ c ∈ cs, -12 ≤ c ∧ c < 40) (hsz : ∀ p, p < cs.length → f_tk ar 1 (cs.drop p) ≤ 100) {q s : Nat} (hs : s < cs.length) : ∀ (n p : Nat) (I : sI), p < cs.length → f_tk ar 1 (cs.drop p) ≤ n → tr ar I 0 cs → (cs.length : Int) ≤ I 84 17 → I 84 17 + (rep ar cs q (f_s ar cs s) p (p + f_tk ar 1 (cs.drop p))).length ≤ 6000 → I 84 25 = q → I 84 26 = s →
    sCall l G mM_replaced (sRm (d + 100 + n) 0) [.inr (.inl 84), .inl (p : Int)] (hS L x I) (qE L x (mkP I ar (rep ar cs q (f_s ar cs s) p (p + f_tk ar 1 (cs.drop p))))) := by
  intro n
  induction n with
  | zero =>
    intro p I hp hn
    have := (f_s_pos ar hwf hp).1
    omega
  | succ n ih =>
    intro p I hp hn ht htop h6 hq hin
    have hpos := f_s_pos ar hwf hp
    obtain ⟨t1, t2, t3, t4⟩ := tr_at ht hp
    have hca := hrg cs[p] (List.getElem_mem hp)
    have hXw : f_wf ar 1 (f_s ar cs s) := f_s_wf ar hwf hs
    refine sCall_of (by decide) (Nat.le_of_ble_eq_true rfl) (sV1s_c trivial (sV1s_c (sV1_i (by omega) (by omega)) sV1s_n)) rfl ?_
    show sJ l G mM_replaced (sRm (d + 100 + (n + 1)) 0) _ 0 (6 * 0) 0 [some (.inr (.inl 84)), some (.inl (p : Int)), none, none, none, none] [] (hSh L, hRF, I, x)
    by_cases hpq : p = q
    · subst hpq
      have er : rep ar cs p (f_s ar cs s) p (p + f_tk ar 1 (cs.drop p)) = f_s ar cs s := by
        unfold rep
        rw [if_pos (by omega), sgm_self, sgm_self, List.nil_append, List.append_nil]
      rw [er] at h6 ⊢
      rw [f_s_len] at h6
      refine sg_R_rd_p (k := ?_)
      rw [hin]
      refine sc_vE (as := [.inl _]) (rest := []) (cc := 6) ct_M_replaced lk_M_copy lm_M_127 (c_R_cp (d := d) hwf hrg 100 s I hs (hsz s hs) ht htop h6) rfl (fun r I3 hr3 => ?_)
      exact sc_ret ct_M_replaced ⟨_, _, rfl, rfl, hr3⟩
    · have hend := rep_end ar (f_s ar cs s) hwf hp hpq
      have hle : ∀ i, i ≤ ar cs[p] → (rep ar cs q (f_s ar cs s) (p + 1) (ap ar cs p i)).length ≤ (rep ar cs q (f_s ar cs s) (p + 1) (ap ar cs p (ar cs[p]))).length := by
        have key : ∀ m i, i + m = ar cs[p] → (rep ar cs q (f_s ar cs s) (p + 1) (ap ar cs p i)).length ≤ (rep ar cs q (f_s ar cs s) (p + 1) (ap ar cs p (ar cs[p]))).length := by
          intro m
          induction m with
          | zero => intro i hi; rw [show i = ar cs[p] by omega]; exact Nat.le_refl _
          | succ m ihm =>
            intro i hi
            have h1 := ihm (i + 1) (by omega)
            rw [rep_s ar _ hwf hp (by omega), List.length_append] at h1
            omega
        exact fun i hi => key (ar cs[p] - i) i (by omega)
      have hl0 : (rep ar cs q (f_s ar cs s) p (p + f_tk ar 1 (cs.drop p))).length = 1 + (rep ar cs q (f_s ar cs s) (p + 1) (ap ar cs p (ar cs[p]))).length := by rw [hend, List.length_cons]; omega
      refine sg_R_rd_0 (k := ?_)
      refine sc_vI (as := [.inl _]) (rest := []) (cc := 6) ct_M_replaced lk_M_fresh lm_M_111 (c_R_fr (d := 0) (by unfold sR; omega) (by omega) (by omega)) rfl ?_
      rw [t1]
      have F2 : bF I (frI I cs[p]) := frI_F I cs[p]
      have T2 := frI_top I cs[p]
      have P2 := frI_pt ar I cs[p]
      refine sg_R_rd_1 (k := ?_)
      have loop : ∀ (m i : Nat) (I2 : sI) (la ka : Int) (oA : Option sV), m = ar cs[p] - i → i ≤ ar cs[p] → ka = kc ar cs p (ar cs[p]) i → bF I I2 → pt ar I2 (I 84 17) cs[p] i (rep ar cs q (f_s ar cs s) (p + 1) (ap ar cs p i)) la → I2 84 17 = I 84 17 + 1 + (rep ar cs q (f_s ar cs s) (p + 1) (ap ar cs p i)).length →
          sJ l G mM_replaced (sRm (d + 100 + (n + 1)) 0) (qE L x (mkP I ar (rep ar cs q (f_s ar cs s) p (p + f_tk ar 1 (cs.drop p))))) 0 (6 * 0) 23 [some (.inr (.inl 84)), some (.inl (p : Int)), some (.inl (I 84 17)), some (.inl la), some (.inl ka), oA] [] (hSh L, hRF, I2, x) := by
        intro m
        induction m with
        | zero =>
          intro i I2 la ka oA hm hi hka F P T
          have hi' : i = ar cs[p] := by omega
          subst hi'
          rw [kc_no] at hka
          refine sg_R_rd_x (k := ?_)
          obtain ⟨D1, D2, D3⟩ := pt_done P
          rw [← hend] at D1
          exact sc_ret ct_M_replaced ⟨_, _, rfl, rfl, rfl, F, by rw [T, hl0]; omega, D1, D3⟩
        | succ m ihm =>
          intro i I2 la ka oA hm hi hka F P T
          have hi' : i < ar cs[p] := by omega
          rw [kc_in hi'] at hka
          subst hka
          have hlt := ap_lt ar hwf hp hi'
          have hkd := ap_kid ar hwf hp hi'
          have hl1 := hle (i + 1) (by omega)
          rw [rep_s ar _ hwf hp hi', List.length_append] at hl1
          refine sg_R_rd_k (k := ?_)
          refine sc_vE (as := [.inl _]) (rest := []) (cc := 6) ct_M_replaced lk_M_replaced lm_M_178 (ih (ap ar cs p i) I2 hlt.2 (by omega) (bF_tr F hwf ht htop) (by omega) (by omega) (by rw [F.2.1 25 (by omega) (by omega)]; exact hq) (by rw [F.2.1 26 (by omega) (by omega)]; exact hin)) rfl (fun r I3 hr3 => ?_)
          obtain ⟨rfl, F3, T3, X3, R3⟩ := hr3
          have hw3 := rep_wf ar (q := q) hwf hlt.2 hXw
          obtain ⟨S1, S2, S3⟩ := mk_step rfl (by omega) F P T F3 X3 hw3 R3 T3
          refine sg_R_rd_u (k := ?_)
          have hla := pt_la (by omega) P
          have hwt : I3 117 (I 84 17) = 1 + (rep ar cs q (f_s ar cs s) (p + 1) (ap ar cs p i)).length := by rw [F3.2.2 117 _ (by omega) (by omega) (by omega)]; exact P.2.1
          have hwx := tr_root X3 hw3
          have hne := List.length_pos_iff.mpr (f_wf_ne ar hw3)
          refine sc_vV (as := [.inl _, .inl _, .inl _]) (rest := []) (cc := 6) ct_M_replaced lk_M_under lm_M_115 (c_R_un (d := 0) (by omega) (by omega) (by omega) (by omega) (by omega) (by omega) (by omega) (by omega)) rfl ?_
          have e116 : un I3 (I 84 17) la (I2 84 17) 116 (ap ar cs p i : Int) = kc ar cs p (ar cs[p]) (i + 1) := by
            rw [S1.2.2 116 _ (by omega) (by omega) (by omega)]
            exact t4 i hi'
          refine sg_R_rd_n (k := ?_)
          rw [← rep_s ar _ hwf hp hi'] at S2 S3
          exact ihm (i + 1) _ _ _ _ (by omega) (by omega) e116 S1 S2 S3
      have e115 : frI I cs[p] 115 (p : Int) = kc ar cs p (ar cs[p]) 0 := by rw [F2.2.2 115 _ (by omega) (by omega) (by omega)]; exact t3
      exact loop (ar cs[p]) 0 _ _ _ _ rfl (Nat.zero_le _) e115 F2 (by rw [rep_0]; exact P2) (by rw [T2, rep_0]; simp)
end CR6
