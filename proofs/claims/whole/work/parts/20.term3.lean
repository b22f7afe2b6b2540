/-! Term: firstDifference, isAt, variables, levelOf, depth -/
/-- the first of n places at which two rows differ, -1 if there is none -/
def fdP (f g : Int → Int) (n v : Int) : Prop := (v = -1 ∧ ∀ i, 0 ≤ i → i < n → f i = g i) ∨ (0 ≤ v ∧ v < n ∧ f v ≠ g v ∧ ∀ i, 0 ≤ i → i < v → f i = g i)
def vb (cs : List Int) : Nat := cs.foldl (fun (a : Nat) (c : Int) => if c < 0 then a ||| (1 <<< (-1 - c).toNat) else a) 0
theorem vb_snoc (cs : List Int) (c : Int) : vb (cs ++ [c]) = if c < 0 then vb cs ||| (1 <<< (-1 - c).toNat) else vb cs := by simp [vb]
theorem vb_or : ∀ a, a < 64 → ∀ k, k < 6 → (Int32.ofInt (a : Nat) ||| Int32.ofInt (Int32.ofInt 1 <<< (Int32.ofInt (k : Nat) &&& 31)).toInt).toInt = ((a ||| (1 <<< k) : Nat) : Int) ∧ a ||| (1 <<< k) < 64 := by decide +kernel
theorem vb_lt {cs : List Int} (h : ∀ c ∈ cs, -6 ≤ c) : vb cs < 64 := by
  have key : ∀ (l : List Int) (a : Nat), a < 64 → (∀ c ∈ l, -6 ≤ c) → l.foldl (fun (a : Nat) (c : Int) => if c < 0 then a ||| (1 <<< (-1 - c).toNat) else a) a < 64 := by
    intro l
    induction l with
    | nil => intro a ha _; exact ha
    | cons c l ih =>
      intro a ha hl
      rw [List.foldl_cons]
      refine ih _ ?_ (fun d hd => hl d (List.mem_cons_of_mem _ hd))
      by_cases hc : c < 0
      · rw [if_pos hc]
        have := hl c List.mem_cons_self
        exact (vb_or a ha (-1 - c).toNat (by omega)).2
      · rw [if_neg hc]
        exact ha
  exact key cs 0 (by omega) h
def te (I : sI) (t : Nat) (cs : List Int) : Prop := ∀ k : Nat, k < cs.length → I (t + 2) k = k + f_tk (hArt I) 1 (cs.drop k)
/-- how many terms hold place p, of the first n -/
def lvl (e : Int → Int) (p : Int) : Nat → Int
  | 0 => 0
  | n + 1 => lvl e p n + (if p < e n then 1 else 0)
def dpt (e : Int → Int) : Nat → Int
  | 0 => 0
  | n + 1 => if dpt e n < lvl e n (n + 1) then lvl e n (n + 1) else dpt e n
theorem lvl_b (e : Int → Int) (p : Int) : ∀ n, 0 ≤ lvl e p n ∧ lvl e p n ≤ n := by
  intro n
  induction n with
  | zero => simp [lvl]
  | succ n ih =>
    simp only [lvl]
    split <;> omega
theorem dpt_b (e : Int → Int) : ∀ n, 0 ≤ dpt e n ∧ dpt e n ≤ n := by
  intro n
  induction n with
  | zero => simp [dpt]
  | succ n ih =>
    have := lvl_b e n (n + 1)
    simp only [dpt]
    split <;> omega
section CT3
variable {l : Launch} {G : sG} {L x d : Nat} {I : sI}
theorem c_T_fd {t u : Nat} {p q : Int} (ht : hT t) (hu : hT u) (h0 : 0 ≤ p) (h1 : p < I (t + 2) p) (h2 : I (t + 2) p ≤ 100) (g0 : 0 ≤ q) (g1 : q < I (u + 2) q) (g2 : I (u + 2) q ≤ 100) :
    sCall l G mT_firstDifference (sRm (d + 1) 0) [.inr (.inl t), .inl p, .inr (.inl u), .inl q] (hS L x I) (qE L x (fun v I' => I' = I ∧ fdP (fun i => I (t + 1) (p + i)) (fun i => I (u + 1) (q + i)) (if I (u + 2) q - q < I (t + 2) p - p then I (u + 2) q - q else I (t + 2) p - p) v)) := by
  refine sCall_of (by decide) (Nat.le_of_ble_eq_true rfl) (sV1s_c trivial (sV1s_c (sV1_i (by omega) (by omega)) (sV1s_c trivial (sV1s_c (sV1_i (by omega) (by omega)) sV1s_n)))) rfl ?_
  show sJ l G mT_firstDifference (sRm (d + 1) 0) _ 0 (6 * 0) 0 [some (.inr (.inl t)), some (.inl p), some (.inr (.inl u)), some (.inl q), none, none] [] (hSh L, hRF, I, x)
  have hl1 := hT_lt ht
  have hl2 := hT_lt hu
  refine sg_T_fd_0 (k := ?_)
  refine sc_vI (as := [.inl _]) (rest := []) (cc := 2) ct_T_firstDifference lk_T_weightAt lm_T_weightAt_38 (c_T_weightAt (d := d) ht h0 (by omega) (by omega) (by omega)) (by rw [(hT_k L ht).1]) ?_
  refine sg_T_fd_1 (k := ?_)
  refine sc_vI (as := [.inl _]) (rest := [.inl _]) (cc := 2) ct_T_firstDifference lk_T_weightAt lm_T_weightAt_38 (c_T_weightAt (d := d) hu g0 (by omega) (by omega) (by omega)) (by rw [(hT_k L hu).1]) ?_
  refine sc_min (rest := []) ct_T_firstDifference lm_T_min_41 ?_
  have hn1 : (if I (u + 2) q - q < I (t + 2) p - p then I (u + 2) q - q else I (t + 2) p - p) ≤ 100 - p := by split <;> omega
  have hn2 : (if I (u + 2) q - q < I (t + 2) p - p then I (u + 2) q - q else I (t + 2) p - p) ≤ 100 - q := by split <;> omega
  have hn3 : 0 < (if I (u + 2) q - q < I (t + 2) p - p then I (u + 2) q - q else I (t + 2) p - p) := by split <;> omega
  generalize (if I (u + 2) q - q < I (t + 2) p - p then I (u + 2) q - q else I (t + 2) p - p) = n at hn1 hn2 hn3 ⊢
  refine sg_T_fd_2 (k := ?_)
  have loop : ∀ (r : Nat) (i : Int), r = (n - i).toNat → 0 ≤ i → i ≤ n → (∀ j, 0 ≤ j → j < i → I (t + 1) (p + j) = I (u + 1) (q + j)) → sJ l G mT_firstDifference (sRm (d + 1) 0) (qE L x (fun v I' => I' = I ∧ fdP (fun i => I (t + 1) (p + i)) (fun i => I (u + 1) (q + i)) n v)) 0 (6 * 0) 10 [some (.inr (.inl t)), some (.inl p), some (.inr (.inl u)), some (.inl q), some (.inl n), some (.inl i)] [] (hSh L, hRF, I, x) := by
    intro r
    induction r with
    | zero =>
      intro i hr hi0 hi1 hj
      have : i = n := by omega
      subst this
      refine sg_T_fd_x (k := ?_)
      exact sc_ret ct_T_firstDifference ⟨_, _, rfl, rfl, rfl, Or.inl ⟨rfl, hj⟩⟩
    | succ r ih =>
      intro i hr hi0 hi1 hj
      by_cases hc : I (t + 1) (p + i) = I (u + 1) (q + i)
      · refine sg_T_fd_e (k := ?_)
        refine ih (i + 1) (by omega) (by omega) (by omega) (fun j g0 g1 => ?_)
        by_cases hji : j = i
        · rw [hji]
          exact hc
        · exact hj j g0 (by omega)
      · refine sg_T_fd_d (k := ?_)
        exact sc_ret ct_T_firstDifference ⟨_, _, rfl, rfl, rfl, Or.inr ⟨hi0, by omega, hc, hj⟩⟩
  exact loop _ 0 rfl (Int.le_refl _) (by omega) (fun j g0 g1 => by omega)
theorem c_T_isAt {t u : Nat} {p q : Int} (ht : hT t) (hu : hT u) (h0 : 0 ≤ p) (h1 : p < I (t + 2) p) (h2 : I (t + 2) p ≤ 100) (g0 : 0 ≤ q) (g1 : q < I (u + 2) q) (g2 : I (u + 2) q ≤ 100) :
    sCall l G mT_isAt (sRm (d + 2) 0) [.inr (.inl t), .inl p, .inr (.inl u), .inl q] (hS L x I) (qE L x (fun v I' => I' = I ∧ ∃ w, v = (if w < 0 then 1 else 0) ∧ fdP (fun i => I (t + 1) (p + i)) (fun i => I (u + 1) (q + i)) (if I (u + 2) q - q < I (t + 2) p - p then I (u + 2) q - q else I (t + 2) p - p) w)) := by
  refine sCall_of (by decide) (Nat.le_of_ble_eq_true rfl) (sV1s_c trivial (sV1s_c (sV1_i (by omega) (by omega)) (sV1s_c trivial (sV1s_c (sV1_i (by omega) (by omega)) sV1s_n)))) rfl ?_
  show sJ l G mT_isAt (sRm (d + 2) 0) _ 0 (6 * 0) 0 [some (.inr (.inl t)), some (.inl p), some (.inr (.inl u)), some (.inl q)] [] (hSh L, hRF, I, x)
  refine sg_T_isAt_0 (k := ?_)
  refine sc_vE (as := [.inl _, .inr (.inl _), .inl _]) (rest := []) (cc := 2) ct_T_isAt lk_T_firstDifference lm_T_fd_47 (c_T_fd (d := d) ht hu h0 h1 h2 g0 g1 g2) (by rw [(hT_k L ht).1]) (fun v I' hv => ?_)
  obtain ⟨rfl, hv⟩ := hv
  by_cases hc : v < 0
  · refine sg_T_isAt_t (k := ?_)
    exact sc_retZ ct_T_isAt ⟨_, _, rfl, rfl, rfl, v, by rw [if_pos hc], hv⟩
  · refine sg_T_isAt_f (k := ?_)
    exact sc_retZ ct_T_isAt ⟨_, _, rfl, rfl, rfl, v, by rw [if_neg hc], hv⟩
theorem c_T_vars {t : Nat} {cs : List Int} (ht : hT t) (hm : tm I t cs) (h6 : ∀ c ∈ cs, -6 ≤ c) : sCall l G mT_variables (sRm d 0) [.inr (.inl t)] (hS L x I) (qI L x (vb cs) I) := by
  refine sCall_of (by decide) (Nat.le_of_ble_eq_true rfl) (sV1s_c trivial sV1s_n) rfl ?_
  show sJ l G mT_variables (sRm d 0) _ 0 (6 * 0) 0 [some (.inr (.inl t)), none, none] [] (hSh L, hRF, I, x)
  obtain ⟨hm1, hm2, hm3, hm4⟩ := hm
  have hlt := hT_lt ht
  have loop : ∀ (r k : Nat), r = cs.length - k → k ≤ cs.length → sJ l G mT_variables (sRm d 0) (qI L x (vb cs) I) 0 (6 * 0) 4 [some (.inr (.inl t)), some (.inl (vb (cs.take k) : Nat)), some (.inl k)] [] (hSh L, hRF, I, x) := by
    intro r
    induction r with
    | zero =>
      intro k hr hk
      have : k = cs.length := by omega
      subst this
      refine sg_T_vars_x (k := ?_)
      rw [List.take_length]
      exact sc_ret ct_T_variables ⟨rfl, rfl⟩
    | succ r ih =>
      intro k hr hk
      have hk1 : k < cs.length := by omega
      have hc := hm3 k hk1
      have hb := h6 _ (List.getElem_mem hk1)
      have e1 : cs.take (k + 1) = cs.take k ++ [cs[k]] := by rw [List.take_succ, List.getElem?_eq_getElem hk1]; rfl
      have hlt64 : vb (cs.take k) < 64 := vb_lt (fun c hc => h6 c (List.mem_of_mem_take hc))
      have := ih (k + 1) (by omega) (by omega)
      rw [e1, vb_snoc] at this
      by_cases hn : cs[k] < 0
      · refine sg_T_vars_n (k := ?_)
        rw [if_pos hn] at this
        have h9 := vb_or (vb (cs.take k)) hlt64 (-1 - cs[k]).toNat (by omega)
        rw [show (((-1 - cs[k]).toNat : Nat) : Int) = -1 - cs[k] by omega] at h9
        rw [hc, h9.1]
        exact this
      · refine sg_T_vars_p (k := ?_)
        rw [if_neg hn] at this
        exact this
  refine sg_T_vars_0 (k := ?_)
  exact loop cs.length 0 rfl (Nat.zero_le _)
theorem c_T_level {t : Nat} {p : Int} (ht : hT t) (h0 : 0 ≤ p) (h1 : p < 100) : sCall l G mT_levelOf (sRm d 0) [.inr (.inl t), .inl p] (hS L x I) (qI L x (lvl (I (t + 2)) p (p.toNat + 1)) I) := by
  refine sCall_of (by decide) (Nat.le_of_ble_eq_true rfl) (sV1s_c trivial (sV1s_c (sV1_i (by omega) (by omega)) sV1s_n)) rfl ?_
  show sJ l G mT_levelOf (sRm d 0) _ 0 (6 * 0) 0 [some (.inr (.inl t)), some (.inl p), none, none] [] (hSh L, hRF, I, x)
  have hlt := hT_lt ht
  have loop : ∀ (r k : Nat), r = p.toNat + 1 - k → k ≤ p.toNat + 1 → sJ l G mT_levelOf (sRm d 0) (qI L x (lvl (I (t + 2)) p (p.toNat + 1)) I) 0 (6 * 0) 4 [some (.inr (.inl t)), some (.inl p), some (.inl (lvl (I (t + 2)) p k)), some (.inl k)] [] (hSh L, hRF, I, x) := by
    intro r
    induction r with
    | zero =>
      intro k hr hk
      have : k = p.toNat + 1 := by omega
      subst this
      refine sg_T_level_x (k := ?_)
      exact sc_ret ct_T_levelOf ⟨rfl, rfl⟩
    | succ r ih =>
      intro k hr hk
      have hb := lvl_b (I (t + 2)) p k
      have := ih (k + 1) (by omega) (by omega)
      by_cases hc : p < I (t + 2) k
      · refine sg_T_level_y (k := ?_)
        simp only [lvl, if_pos hc] at this
        exact this
      · refine sg_T_level_n (k := ?_)
        simp only [lvl, if_neg hc, Int.add_zero] at this
        exact this
  refine sg_T_level_0 (k := ?_)
  exact loop _ 0 rfl (Nat.zero_le _)
theorem c_T_depth {t : Nat} (ht : hT t) (h0 : 0 ≤ I t 2) (h1 : I t 2 ≤ 100) : sCall l G mT_depth (sRm (d + 1) 0) [.inr (.inl t)] (hS L x I) (qI L x (dpt (I (t + 2)) (I t 2).toNat) I) := by
  refine sCall_of (by decide) (Nat.le_of_ble_eq_true rfl) (sV1s_c trivial sV1s_n) rfl ?_
  show sJ l G mT_depth (sRm (d + 1) 0) _ 0 (6 * 0) 0 [some (.inr (.inl t)), none, none] [] (hSh L, hRF, I, x)
  have hlt := hT_lt ht
  have loop : ∀ (r k : Nat), r = (I t 2).toNat - k → k ≤ (I t 2).toNat → sJ l G mT_depth (sRm (d + 1) 0) (qI L x (dpt (I (t + 2)) (I t 2).toNat) I) 0 (6 * 0) 4 [some (.inr (.inl t)), some (.inl (dpt (I (t + 2)) k)), some (.inl k)] [] (hSh L, hRF, I, x) := by
    intro r
    induction r with
    | zero =>
      intro k hr hk
      have : k = (I t 2).toNat := by omega
      subst this
      refine sg_T_depth_x (k := ?_)
      exact sc_ret ct_T_depth ⟨rfl, rfl⟩
    | succ r ih =>
      intro k hr hk
      refine sg_T_depth_c (k := ?_)
      refine sc_vI (as := [.inl _]) (rest := [.inl _]) (cc := 2) ct_T_depth lk_T_levelOf lm_T_level_51 (c_T_level (d := d) ht (by omega) (by omega)) (by rw [(hT_k L ht).1]) ?_
      refine sc_max (rest := []) ct_T_depth lm_T_max_54 ?_
      refine sg_T_depth_n (k := ?_)
      exact ih (k + 1) (by omega) (by omega)
  refine sg_T_depth_0 (k := ?_)
  exact loop _ 0 rfl (Nat.zero_le _)
end CT3
