theorem nd_cnt : ∀ (n : Nat) (S : List Int), S.Nodup → (∀ x ∈ S, -(n : Int) ≤ x ∧ x < 0) → S.length = (List.range n).countP (fun k : Nat => decide ((-1 - (k : Int)) ∈ S)) := by
  intro n
  induction n with
  | zero =>
    intro S _ h
    cases S with
    | nil => rfl
    | cons a S => have := h a List.mem_cons_self; omega
  | succ n ih =>
    intro S hn h
    have h1 := ih (S.erase (-((n + 1 : Nat) : Int))) (hn.erase _) (fun x hx => by
      rw [List.Nodup.mem_erase_iff hn] at hx
      have := h x hx.2
      have h2 := hx.1
      omega)
    have h2 : (List.range n).countP (fun k : Nat => decide ((-1 - (k : Int)) ∈ S.erase (-((n + 1 : Nat) : Int)))) = (List.range n).countP (fun k : Nat => decide ((-1 - (k : Int)) ∈ S)) := by
      apply List.countP_congr
      intro k hk
      have hk' := List.mem_range.mp hk
      simp only [decide_eq_true_eq]
      rw [List.Nodup.mem_erase_iff hn]
      constructor
      · exact fun h => h.2
      · exact fun h => ⟨by omega, h⟩
    rw [List.range_succ, List.countP_append, ← h2, ← h1, List.length_erase, List.countP_singleton]
    have e : (-1 - (n : Int)) = -((n + 1 : Nat) : Int) := by omega
    rw [e]
    by_cases hm : -((n + 1 : Nat) : Int) ∈ S
    · have hp := List.length_pos_of_mem hm
      simp only [hm, decide_true, if_true]
      omega
    · simp only [hm, decide_false, if_false]
      simp
theorem nml_cnt {l : List Int} (h : ∀ c ∈ l, -6 ≤ c) : (nml [] l).length = (List.range 6).countP (fun k : Nat => decide ((-1 - (k : Int)) ∈ l)) := by
  rw [nd_cnt 6 _ (nml_nd l [] (by simp)) (fun x hx => by
    rcases (nml_mem l [] x).mp hx with h1 | h1
    · cases h1
    · exact ⟨h x h1.1, h1.2⟩)]
  apply List.countP_congr
  intro k _
  simp only [decide_eq_true_eq]
  rw [nml_mem]
  constructor
  · rintro (h1 | h1)
    · cases h1
    · exact h1.1
  · exact fun h1 => Or.inr ⟨h1, by omega⟩
def us (a : Int) (k : Int) : Int := ((Int32.ofInt a).toUInt32 >>> ((Int32.ofInt k).toUInt32 &&& Int32.toUInt32 31)).toInt32.toInt
def an (a b : Int) : Int := (Int32.ofInt a &&& Int32.ofInt b).toInt
def bc1 (a : Int) : Int := a - an (us a 1) 1431655765
def bc2 (a : Int) : Int := an a 858993459 + an (us a 2) 858993459
def bc3 (a : Int) : Int := a + us a 4
def bc4 (a : Int) : Int := an a 252645135 + us (an a 252645135) 8
def bc5 (a : Int) : Int := a + us a 16
theorem bc_all : ∀ n, n < 64 → (-1000 ≤ bc1 (n : Nat) ∧ bc1 (n : Nat) ≤ 1000) ∧ (-1000 ≤ bc2 (bc1 (n : Nat)) ∧ bc2 (bc1 (n : Nat)) ≤ 1000) ∧ (-1000 ≤ bc3 (bc2 (bc1 (n : Nat))) ∧ bc3 (bc2 (bc1 (n : Nat))) ≤ 1000) ∧ (-1000 ≤ bc4 (bc3 (bc2 (bc1 (n : Nat)))) ∧ bc4 (bc3 (bc2 (bc1 (n : Nat)))) ≤ 1000) ∧ (-1000 ≤ bc5 (bc4 (bc3 (bc2 (bc1 (n : Nat))))) ∧ bc5 (bc4 (bc3 (bc2 (bc1 (n : Nat))))) ≤ 1000) ∧ an (bc5 (bc4 (bc3 (bc2 (bc1 (n : Nat)))))) 63 = ((List.range 6).countP (fun k => Nat.testBit n k) : Nat) := by decide +kernel
/-! Integer.bitCount, told, count -/
section CI
variable {l : Launch} {G : sG} {L x d : Nat} {I : sI}
theorem c_I_bc {n : Nat} (hn : n < 64) : sCall l G mI_bitCount (sRm d 0) [.inl (n : Int)] (hS L x I) (qI L x ((List.range 6).countP (fun k => Nat.testBit n k) : Nat) I) := by
  refine sCall_of (by decide) (Nat.le_of_ble_eq_true rfl) (sV1s_c (sV1_i (by omega) (by omega)) sV1s_n) rfl ?_
  show sJ l G mI_bitCount (sRm d 0) _ 0 (6 * 0) 0 [some (.inl (n : Int))] [] (hSh L, hRF, I, x)
  obtain ⟨h1, h2, h3, h4, h5, h6⟩ := bc_all n hn
  refine sg_I_0 (k := ?_)
  refine sj_ldcw (v := 1431655765) (by unfold sR; omega) lc_265 ld_4 ?_
  refine sg_I_1 (r1 := show sR (bc1 n) by unfold sR; omega) (k := ?_)
  refine sj_ldcw (v := 858993459) (by unfold sR; omega) lc_266 ld_11 ?_
  refine sg_I_2 (k := ?_)
  refine sj_ldcw (v := 858993459) (by unfold sR; omega) lc_266 ld_18 ?_
  refine sg_I_3 (r1 := show sR (bc2 (bc1 n)) by unfold sR; omega) (r2 := show sR (bc3 (bc2 (bc1 n))) by unfold sR; omega) (k := ?_)
  refine sj_ldcw (v := 252645135) (by unfold sR; omega) lc_267 ld_29 ?_
  refine sg_I_4 (r1 := show sR (bc4 (bc3 (bc2 (bc1 n)))) by unfold sR; omega) (r2 := show sR (bc5 (bc4 (bc3 (bc2 (bc1 n))))) by unfold sR; omega) (k := ?_)
  exact sc_ret ct_I_bitCount ⟨congrArg (fun z => Sum.inl (some (Sum.inl z))) h6, rfl⟩
end CI
theorem lm_B_bc_191 : sLm "TermBench" 191 mI_bitCount = true := by decide +kernel
theorem lm_B_de_196 : sLm "TermBench" 196 mT_depth = true := by decide +kernel
theorem vb_nml {cs : List Int} (h : ∀ c ∈ cs, -6 ≤ c) : (List.range 6).countP (fun k => Nat.testBit (vb cs) k) = (nml [] cs).length := by
  rw [nml_cnt h]
  apply List.countP_congr
  intro k hk
  rw [vb_tb cs k (List.mem_range.mp hk) h]
  simp
section CB13
variable {l : Launch} {G : sG} {L x d : Nat} {I : sI}
theorem c_B_told (hl : l.stackTraces = false) (hx : x ≠ 0) {sl : Int → List Int} (hs : hSl I sl) {a w : Int} (ha : sR a) (hw : sR w) : sCall l G mB_told (sRm (d + 7) 2) [.inr (.inl 1), .inl a, .inl w] (hS L x I) (qO L x (fun r I' => I' = I ∧ ((r = .inr 0 ∧ ¬ okS a) ∨ (r = .inr 1 ∧ okS a ∧ ¬ (0 ≤ w ∧ w ≤ 2)) ∨ (okS a ∧ ((w = 0 ∧ r = .inl (sl a).length) ∨ (w = 1 ∧ r = .inl (nml [] (sl a)).length) ∨ (w = 2 ∧ r = .inl (dpt (en (hArt I) (sl a) 0) (sl a).length))))))) := by
  refine sCall_of (by decide) (Nat.le_of_ble_eq_true rfl) (sV1s_c trivial (sV1s_c ha (sV1s_c hw sV1s_n))) rfl ?_
  show sJ l G mB_told (sRm (d + 7) 2) _ 0 (6 * 0) 0 [some (.inr (.inl 1)), some (.inl a), some (.inl w)] [] (hSh L, hRF, I, x)
  refine sg_B_to_0 (k := ?_)
  refine sc_rs ct_B_told hl hx ha (fun h => ⟨_, rfl, Or.inr ⟨0, rfl, rfl, Or.inl ⟨rfl, h⟩⟩⟩) (fun hok => ?_)
  have hok' := hok
  unfold okS at hok'
  have hta := hT_slot hok'.1 hok'.2
  have hwa := (hs a hok).1
  have c6 : ∀ c ∈ sl a, -6 ≤ c := fun c hc => ((hs a hok).2 c hc).1
  have l1 := hwa.1.1
  have l2 := hwa.1.2.1
  refine sg_B_to_1 (k := ?_)
  by_cases h0 : w = 0
  · subst h0
    refine sj_tin (off := 27) 4 ct_B_told rfl (by omega) (by omega) rfl (by rfl) ?_
    refine sg_B_to_w (k := ?_)
    rw [l1]
    exact sc_ret ct_B_told ⟨_, rfl, Or.inl ⟨_, rfl, rfl, Or.inr (Or.inr ⟨hok, Or.inl ⟨rfl, rfl⟩⟩)⟩⟩
  · by_cases h1 : w = 1
    · subst h1
      refine sj_tin (off := 37) 10 ct_B_told rfl (by omega) (by omega) rfl (by rfl) ?_
      refine sg_B_to_v (k := ?_)
      refine sc_vI (as := []) (rest := []) (cc := 2) ct_B_told lk_T_variables lm_B_va_178 (c_T_vars (d := d) hta hwa.1 c6) (by rw [(hT_k L hta).1]) ?_
      refine sc_s (as := [.inl _]) (rest := []) (M2 := mI_bitCount) (d2 := 0) (k2 := 0) ct_B_told lk_I_bitCount lm_B_bc_191 (c_I_bc (vb_lt c6)) (fun w S' h => ?_) (fun n S' h => ?_)
      · obtain ⟨h1, rfl⟩ := h
        cases h1
        rw [vb_nml c6]
        exact sc_ret ct_B_told ⟨_, rfl, Or.inl ⟨_, rfl, rfl, Or.inr (Or.inr ⟨hok, Or.inr (Or.inl ⟨rfl, rfl⟩)⟩)⟩⟩
      · obtain ⟨h1, -⟩ := h
        cases h1
    · by_cases h2 : w = 2
      · subst h2
        refine sj_tin (off := 50) 17 ct_B_told rfl (by omega) (by omega) rfl (by rfl) ?_
        refine sg_B_to_d (k := ?_)
        refine sc_vI (as := []) (rest := []) (cc := 2) ct_B_told lk_T_depth lm_B_de_196 (c_T_depth (d := d) hta (by omega) (by omega)) (by rw [(hT_k L hta).1]) ?_
        refine sc_ret ct_B_told ⟨_, rfl, Or.inl ⟨_, rfl, rfl, Or.inr (Or.inr ⟨hok, Or.inr (Or.inr ⟨rfl, ?_⟩)⟩)⟩⟩
        rw [l1, show (((sl a).length : Int)).toNat = (sl a).length from rfl]
        congr 1
        apply dpt_congr
        intro k hk
        unfold en
        rw [hwa.2.1 k hk, Nat.zero_add]
        rfl
      · refine sj_tout 23 ct_B_told rfl (by omega) (by rfl) ?_
        exact sc_ta "0, 1 and 2 are told" ct_B_told hl hx ⟨_, rfl, Or.inr ⟨1, rfl, rfl, Or.inr (Or.inl ⟨rfl, hok, by omega⟩)⟩⟩
/-- what is counted -/
def cnV (u v w y a : Int) : Int := if a = 0 then u else if a = 1 then v else if a = 2 then w else if a = 3 then y else -1
theorem c_B_count {a : Int} (ha : sR a) : sCall l G mB_count (sRm d 0) [.inr (.inl 1), .inl a] (hS L x I) (qI L x (cnV (I 2 2) (I 54 2) (I 1 3) (I 1 12) a) I) := by
  refine sCall_of (by decide) (Nat.le_of_ble_eq_true rfl) (sV1s_c trivial (sV1s_c ha sV1s_n)) rfl ?_
  show sJ l G mB_count (sRm d 0) _ 0 (6 * 0) 0 [some (.inr (.inl 1)), some (.inl a)] [] (hSh L, hRF, I, x)
  refine sg_B_ct_0 (k := ?_)
  by_cases h0 : a = 0
  · subst h0
    refine sj_tin (off := 31) 2 ct_B_count rfl (by omega) (by omega) rfl (by rfl) ?_
    refine sg_B_ct_1 (k := ?_)
    exact sc_ret ct_B_count ⟨rfl, rfl⟩
  · by_cases h1 : a = 1
    · subst h1
      refine sj_tin (off := 39) 6 ct_B_count rfl (by omega) (by omega) rfl (by rfl) ?_
      have ht := hT_54
      refine sg_B_ct_2 (k := ?_)
      exact sc_ret ct_B_count ⟨rfl, rfl⟩
    · by_cases h2 : a = 2
      · subst h2
        refine sj_tin (off := 47) 10 ct_B_count rfl (by omega) (by omega) rfl (by rfl) ?_
        refine sg_B_ct_3 (k := ?_)
        exact sc_ret ct_B_count ⟨rfl, rfl⟩
      · by_cases h3 : a = 3
        · subst h3
          refine sj_tin (off := 52) 13 ct_B_count rfl (by omega) (by omega) rfl (by rfl) ?_
          refine sg_B_ct_4 (k := ?_)
          exact sc_ret ct_B_count ⟨rfl, rfl⟩
        · refine sj_tout 16 ct_B_count rfl (by omega) (by rfl) ?_
          refine sg_B_ct_5 (k := ?_)
          exact sc_ret ct_B_count ⟨by unfold cnV; rw [if_neg h0, if_neg h1, if_neg h2, if_neg h3], rfl⟩
theorem c_R_ct {ar : Int → Nat} {pr : Int → Bool} {ns : Int} {rw : List Int} {lk nr mo : Int} {sl lv : Int → List Int} (hR : rS I ar pr ns rw lk nr mo sl lv) {a : Int} (ha : sR a) : sCall l G mM_count (sRm d 0) [.inr (.inl 84), .inl a] (hS L x I) (qE L x (fun r I' => scF I I' ∧ r = cnV ns rw.length lk nr a)) := by
  refine sCall_of (by decide) (Nat.le_of_ble_eq_true rfl) (sV1s_c trivial (sV1s_c ha sV1s_n)) rfl ?_
  show sJ l G mM_count (sRm d 0) _ 0 (6 * 0) 0 [some (.inr (.inl 84)), some (.inl a)] [] (hSh L, hRF, I, x)
  have S1 := scF_0 I 0
  obtain ⟨y1, -, -, y4, y5, y6, -⟩ := rS_upd hR S1
  have y2 := y4.1
  refine sg_R_ct_0 (k := ?_)
  generalize hI1 : sU I 84 0 0 = I1 at S1 y1 y2 y5 y6 ⊢
  by_cases h0 : a = 0
  · subst h0
    refine sj_tin (off := 30) 5 ct_M_count rfl (by omega) (by omega) rfl (by rfl) ?_
    refine sg_R_ct_1 (k := ?_)
    exact sc_ret ct_M_count ⟨_, _, rfl, rfl, S1, y1⟩
  · by_cases h1 : a = 1
    · subst h1
      refine sj_tin (off := 35) 8 ct_M_count rfl (by omega) (by omega) rfl (by rfl) ?_
      refine sg_R_ct_2 (k := ?_)
      exact sc_ret ct_M_count ⟨_, _, rfl, rfl, S1, y2⟩
    · by_cases h2 : a = 2
      · subst h2
        refine sj_tin (off := 40) 11 ct_M_count rfl (by omega) (by omega) rfl (by rfl) ?_
        refine sg_R_ct_3 (k := ?_)
        exact sc_ret ct_M_count ⟨_, _, rfl, rfl, S1, y5⟩
      · by_cases h3 : a = 3
        · subst h3
          refine sj_tin (off := 45) 14 ct_M_count rfl (by omega) (by omega) rfl (by rfl) ?_
          refine sg_R_ct_4 (k := ?_)
          exact sc_ret ct_M_count ⟨_, _, rfl, rfl, S1, y6⟩
        · refine sj_tout 17 ct_M_count rfl (by omega) (by rfl) ?_
          refine sg_R_ct_5 (k := ?_)
          exact sc_ret ct_M_count ⟨_, _, rfl, rfl, S1, by unfold cnV; rw [if_neg h0, if_neg h1, if_neg h2, if_neg h3]⟩
end CB13
