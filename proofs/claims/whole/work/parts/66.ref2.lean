/-! the reference: next, tree -/
/-- the cells that hold a row -/
def rw0 (I : sI) (L f : Nat) (fs : List Int) : Prop := sKd (hSh L) f = (0, 100) ∧ (84 < f ∧ (f < 114 ∨ f = 123)) ∧ fs.length ≤ 100 ∧ ∀ k : Nat, (h : k < fs.length) → I f k = fs[k]
/-- how many terms the signs have -/
def rA (I : sI) (ar : Int → Nat) : Prop := (∀ c, c < 0 → ar c = 0) ∧ ∀ c, 0 ≤ c → c < 40 → I 85 c = ar c ∧ ar c ≤ 5
def mkP (I : sI) (ar : Int → Nat) (X : List Int) : Int → sI → Prop := fun r I' => r = I 84 17 ∧ bF I I' ∧ I' 84 17 = I 84 17 + X.length ∧ tr ar I' (I 84 17) X ∧ I' 116 (I 84 17) = -1
section CR2
variable {l : Launch} {G : sG} {L x d : Nat}
theorem c_R_nx {ar : Int → Nat} {f : Nat} {fs : List Int} {kk : Nat} (hwf : f_wf ar kk fs) (hrg : ∀ c ∈ fs, -12 ≤ c ∧ c < 40) : ∀ (n a : Nat) (I : sI), a < fs.length → f_tk ar 1 (fs.drop a) ≤ n → rw0 I L f fs → rA I ar → I 84 18 = a → 0 ≤ I 84 17 → I 84 17 + f_tk ar 1 (fs.drop a) ≤ 6000 →
    sCall l G mM_next (sRm (d + n) 0) [.inr (.inl 84), .inr (.inl f)] (hS L x I) (qE L x (fun r I' => mkP I ar (f_s ar fs a) r I' ∧ I' 84 18 = a + f_tk ar 1 (fs.drop a))) := by
  intro n
  induction n with
  | zero =>
    intro a I ha hn
    have := (f_s_pos ar hwf ha).1
    omega
  | succ n ih =>
    intro a I ha hn hr hA hat h0 h6
    obtain ⟨hk, hf, hfl, hfg⟩ := hr
    have hpos := f_s_pos ar hwf ha
    have hca := hrg fs[a] (List.getElem_mem ha)
    have hga := hfg a ha
    refine sCall_of (by decide) (Nat.le_of_ble_eq_true rfl) (sV1s_c trivial (sV1s_c trivial sV1s_n)) rfl ?_
    show sJ l G mM_next (sRm (d + (n + 1)) 0) _ 0 (6 * 0) 0 [some (.inr (.inl 84)), some (.inr (.inl f)), none, none, none, none, none] [] (hSh L, hRF, I, x)
    have hsa : sArr (hSh L) 0 f (I 84 18) := by rw [hat]; exact hAr hk (by omega) (by omega)
    refine sg_R_nx_0 (v5 := fs[a]) (e5 := by rw [sU_ne (by omega), hat]; exact hga) (k := ?_)
    generalize hI1 : sU I 84 18 (I 84 18 + 1) = I1
    have e17 : I1 84 17 = I 84 17 := by rw [← hI1, hU_nj (by omega)]
    have e18 : I1 84 18 = a + 1 := by rw [← hI1, hU_eq, hat]
    have eo : ∀ w, w ≠ 84 → I1 w = I w := fun w hw => by rw [← hI1, sU_ne hw]
    have F1 : bF I I1 := ⟨fun w _ g => eo w g, fun j _ g => by rw [← hI1, hU_nj g], fun w j _ _ _ => by rw [eo w (by omega)]⟩
    refine sc_vI (as := [.inl _]) (rest := []) (cc := 6) ct_M_next lk_M_fresh lm_M_111 (c_R_fr (d := 0) (by unfold sR; omega) (by omega) (by omega)) rfl ?_
    have F2 : bF I (frI I1 fs[a]) := bF_trans F1 (frI_F I1 fs[a]) (by omega)
    have T2 := frI_top I1 fs[a]
    have P2 := frI_pt ar I1 fs[a]
    have A2 : frI I1 fs[a] 84 18 = a + 1 := by
      unfold frI
      rw [hU_nj (by omega), sU_ne (by omega), sU_ne (by omega), sU_ne (by omega), sU_ne (by omega)]
      exact e18
    rw [e17] at T2 P2 ⊢
    have hend := pre_end ar hwf ha
    by_cases hc : fs[a] < 0
    · refine sg_R_nx_v (k := ?_)
      have h0c : ar fs[a] = 0 := hA.1 _ hc
      have hP : pt ar (frI I1 fs[a]) (I 84 17) fs[a] (ar fs[a]) [] (-1) := by rw [h0c]; exact P2
      obtain ⟨D1, D2, D3⟩ := pt_done hP
      have hfs : f_s ar fs a = [fs[a]] := by rw [hend, h0c, pre_0]
      have hlen := f_s_len ar fs a
      rw [hfs] at hlen
      simp only [List.length_singleton] at hlen
      exact sc_ret ct_M_next ⟨_, _, rfl, rfl, ⟨rfl, F2, by rw [T2, hfs]; rfl, by rw [hfs]; exact D1, D3⟩, by rw [A2, ← hlen]; rfl⟩
    · obtain ⟨hA1, hA2⟩ := hA.2 fs[a] (by omega) (by omega)
      refine sg_R_nx_1 (k := ?_)
      have loop : ∀ (m i : Nat) (I2 : sI) (la : Int) (oA : Option sV), m = ar fs[a] - i → i ≤ ar fs[a] → bF I I2 → pt ar I2 (I 84 17) fs[a] i (pre ar fs a i) la → I2 84 17 = I 84 17 + 1 + (pre ar fs a i).length → I2 84 18 = ap ar fs a i →
          sJ l G mM_next (sRm (d + (n + 1)) 0) (qE L x (fun r I' => mkP I ar (f_s ar fs a) r I' ∧ I' 84 18 = a + f_tk ar 1 (fs.drop a))) 0 (6 * 0) 22 [some (.inr (.inl 84)), some (.inr (.inl f)), some (.inl fs[a]), some (.inl (I 84 17)), some (.inl la), some (.inl i), oA] [] (hSh L, hRF, I2, x) := by
        intro m
        induction m with
        | zero =>
          intro i I2 la oA hm hi F P T A
          have hi' : i = ar fs[a] := by omega
          subst hi'
          have e85 : I2 85 fs[a] = ar fs[a] := by rw [F.1 85 (by omega) (by omega)]; exact hA1
          refine sg_R_nx_x (k := ?_)
          obtain ⟨D1, D2, D3⟩ := pt_done P
          rw [← hend] at D1
          exact sc_ret ct_M_next ⟨_, _, rfl, rfl, ⟨rfl, F, by rw [T, hend, List.length_cons]; omega, D1, D3⟩, by rw [A, ap_end ar hwf ha]; omega⟩
        | succ m ihm =>
          intro i I2 la oA hm hi F P T A
          have hi' : i < ar fs[a] := by omega
          have e85 : I2 85 fs[a] = ar fs[a] := by rw [F.1 85 (by omega) (by omega)]; exact hA1
          refine sg_R_nx_k (k := ?_)
          have hlt := ap_lt ar hwf ha hi'
          have hkd := ap_kid ar hwf ha hi'
          have hpa := pre_ap ar fs a i
          have hr2 : rw0 I2 L f fs := ⟨hk, hf, hfl, fun q hq => by rw [F.1 f (by omega) (by omega)]; exact hfg q hq⟩
          have hA' : rA I2 ar := ⟨hA.1, fun c g1 g2 => by rw [F.1 85 (by omega) (by omega)]; exact hA.2 c g1 g2⟩
          have hlX : (f_s ar fs (ap ar fs a i)).length = f_tk ar 1 (fs.drop (ap ar fs a i)) := f_s_len ar fs _
          refine sc_vE (as := [.inr (.inl _)]) (rest := []) (cc := 6) ct_M_next lk_M_next lm_M_107 (ih (ap ar fs a i) I2 hlt.2 (by omega) hr2 hA' A (by omega) (by omega)) rfl (fun r I3 hr3 => ?_)
          obtain ⟨⟨rfl, F3, T3, X3, R3⟩, A3⟩ := hr3
          have hw3 : f_wf ar 1 (f_s ar fs (ap ar fs a i)) := f_s_wf ar hwf hlt.2
          obtain ⟨S1, S2, S3⟩ := mk_step rfl h0 F P T F3 X3 hw3 R3 T3
          refine sg_R_nx_u (k := ?_)
          have hla : -1 ≤ la ∧ la < I 84 17 + 1 + (pre ar fs a i).length := by
            have h8 := P.2.2.2.2.2.2.2
            have h5 := P.2.2.2.2.1
            by_cases hz : i = 0
            · rw [if_pos hz] at h8; omega
            · rw [if_neg hz] at h8
              have := f_tk_lt ar (k := i - 1) (n := 0) (l := pre ar fs a i) (by rw [show i - 1 + (0 + 1) = i by omega]; exact h5)
              omega
          have hwt : I3 117 (I 84 17) = 1 + (pre ar fs a i).length := by rw [F3.2.2 117 _ (by omega) (by omega) (by omega)]; exact P.2.1
          have hwx : I3 117 (I2 84 17) = f_tk ar 1 (fs.drop (ap ar fs a i)) := by
            have := (X3 0 (by omega)).2.1
            rw [List.drop_zero, f_wf_len ar _ _ hw3, hlX] at this
            simpa using this
          refine sc_vV (as := [.inl _, .inl _, .inl _]) (rest := []) (cc := 6) ct_M_next lk_M_under lm_M_115 (c_R_un (d := 0) (by omega) (by omega) (by omega) (by omega) (by omega) (by omega) (by omega) (by omega)) rfl ?_
          refine sg_R_nx_n (k := ?_)
          rw [← pre_s ar hwf ha hi'] at S2 S3
          exact ihm (i + 1) _ _ _ (by omega) (by omega) S1 S2 S3 (by rw [un_o _ _ _ _ (by omega), A3, ap_s ar hwf ha hi']; omega)
      exact loop (ar fs[a]) 0 _ _ _ rfl (Nat.zero_le _) F2 (by rw [pre_0]; exact P2) (by rw [T2, pre_0]; simp [f_sub]) (by rw [A2, ap_0]; rfl)
theorem c_R_tr {ar : Int → Nat} {f : Nat} {fs : List Int} {I : sI} (hwf : f_wf ar 1 fs) (hrg : ∀ c ∈ fs, -12 ≤ c ∧ c < 40) (hr : rw0 I L f fs) (hA : rA I ar) (h0 : 0 ≤ I 84 17) (h6 : I 84 17 + fs.length ≤ 6000) :
    sCall l G mM_tree (sRm (d + 101) 0) [.inr (.inl 84), .inr (.inl f)] (hS L x I) (qE L x (mkP I ar fs)) := by
  refine sCall_of (by decide) (Nat.le_of_ble_eq_true rfl) (sV1s_c trivial (sV1s_c trivial sV1s_n)) rfl ?_
  show sJ l G mM_tree (sRm (d + 101) 0) _ 0 (6 * 0) 0 [some (.inr (.inl 84)), some (.inr (.inl f))] [] (hSh L, hRF, I, x)
  have hne : 0 < fs.length := List.length_pos_iff.mpr (f_wf_ne ar hwf)
  have hfl := hr.2.2.1
  have htk : f_tk ar 1 (fs.drop 0) = fs.length := by rw [List.drop_zero, f_wf_len ar _ _ hwf]
  refine sg_R_tr (k := ?_)
  have e17 : sU I 84 18 0 84 17 = I 84 17 := hU_nj (by omega)
  have F : bF I (sU I 84 18 0) := ⟨fun w _ g => by rw [sU_ne g], fun j _ g => by rw [hU_nj g], fun w j _ _ _ => by rw [sU_ne (by omega)]⟩
  have hr2 : rw0 (sU I 84 18 0) L f fs := ⟨hr.1, hr.2.1, hr.2.2.1, fun q hq => by rw [sU_ne (by have := hr.2.1; omega)]; exact hr.2.2.2 q hq⟩
  have hA2 : rA (sU I 84 18 0) ar := ⟨hA.1, fun c g1 g2 => by rw [sU_ne (by omega)]; exact hA.2 c g1 g2⟩
  refine sc_vE (as := [.inr (.inl _)]) (rest := []) (cc := 6) ct_M_tree lk_M_next lm_M_107 (c_R_nx (d := d) hwf hrg 100 0 _ hne (by omega) hr2 hA2 (by rw [hU_eq]; rfl) (by omega) (by omega)) rfl (fun r I3 hr3 => ?_)
  obtain ⟨⟨rfl, F3, T3, X3, R3⟩, -⟩ := hr3
  rw [f_s_0 ar hwf] at T3 X3
  rw [e17] at T3 X3 R3
  exact sc_ret ct_M_tree ⟨_, _, rfl, rfl, e17, bF_trans F F3 (by omega), T3, X3, R3⟩
end CR2
