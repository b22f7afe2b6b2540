/-! rows of codes behind a term -/
def sSeg (I : sI) (a : Nat) (b : Int) (n : Nat) : List Int := (List.range n).map (fun k : Nat => I a (b + (k : Int)))
def sAp (I : sI) (t : Nat) (w : List Int) : sI := fun b k => if b = t ∧ k = 2 then I t 2 + w.length else if b = t + 1 ∧ I t 2 ≤ k ∧ k < I t 2 + w.length then w.getD (k - I t 2).toNat 0 else I b k
theorem sSeg_0 (I : sI) (a : Nat) (b : Int) : sSeg I a b 0 = [] := rfl
theorem sSeg_s (I : sI) (a : Nat) (b : Int) (n : Nat) : sSeg I a b (n + 1) = sSeg I a b n ++ [I a (b + n)] := by
  unfold sSeg
  rw [List.range_succ, List.map_append]
  rfl
theorem sSeg_len (I : sI) (a : Nat) (b : Int) (n : Nat) : (sSeg I a b n).length = n := by simp [sSeg]
theorem sSeg_get (I : sI) (a : Nat) (b : Int) (n k : Nat) (h : k < n) : (sSeg I a b n)[k]? = some (I a (b + k)) := by
  unfold sSeg
  rw [List.getElem?_map, List.getElem?_range h]
  rfl
theorem sAp_nil (I : sI) (t : Nat) : sAp I t [] = I := by
  funext b k
  unfold sAp
  by_cases h1 : b = t ∧ k = 2
  · rw [if_pos h1, h1.1, h1.2]
    simp
  · rw [if_neg h1, if_neg (fun h => by have h3 := h.2.2; simp at h3; omega)]
theorem sAp_w (I : sI) (t : Nat) (w : List Int) : sAp I t w t 2 = I t 2 + w.length := by simp [sAp]
theorem sAp_ne {I : sI} {t : Nat} {w : List Int} {b : Nat} (h1 : b ≠ t) (h2 : b ≠ t + 1) : sAp I t w b = I b := by
  funext k
  unfold sAp
  rw [if_neg (fun h => h1 h.1), if_neg (fun h => h2 h.1)]
theorem sAp_snoc (I : sI) (t : Nat) (w : List Int) (c : Int) : sU (sU (sAp I t w) (t + 1) (sAp I t w t 2) c) t 2 (sAp I t w t 2 + 1) = sAp I t (w ++ [c]) := by
  rw [sAp_w]
  funext b k
  have hlen : ((w ++ [c]).length : Int) = w.length + 1 := by simp
  by_cases hb : b = t ∧ k = 2
  · unfold sU
    rw [if_pos hb, hb.1, hb.2, sAp_w, hlen]
    omega
  · unfold sU
    rw [if_neg hb]
    by_cases hb1 : b = t + 1 ∧ k = I t 2 + w.length
    · rw [if_pos hb1]
      unfold sAp
      rw [if_neg hb, if_pos ⟨hb1.1, by omega, by omega⟩]
      have e : (k - I t 2).toNat = w.length := by omega
      rw [e]
      simp
    · rw [if_neg hb1]
      unfold sAp
      rw [if_neg hb, if_neg hb]
      by_cases h2 : b = t + 1 ∧ I t 2 ≤ k ∧ k < I t 2 + w.length
      · rw [if_pos h2, if_pos ⟨h2.1, h2.2.1, by omega⟩]
        rw [List.getD_eq_getElem?_getD, List.getD_eq_getElem?_getD, List.getElem?_append_left (by omega)]
      · rw [if_neg h2, if_neg (fun h => h2 ⟨h.1, h.2.1, by
          rcases h with ⟨g1, g2, g3⟩
          have : ¬ k = I t 2 + w.length := fun e => hb1 ⟨g1, e⟩
          omega⟩)]
section CT
variable {l : Launch} {G : sG} {L x d : Nat} {I : sI}
theorem lm_T_add_22 : sLm "TermBench$Term" 22 mT_add = true := by decide +kernel
theorem c_T_addPart {t f : Nat} {b e : Int} (ht : hT t) (hf : hT f) (hne : t ≠ f) (h0 : 0 ≤ b) (h1 : b ≤ e) (h2 : e ≤ 100) (hw0 : 0 ≤ I t 2) (hw : I t 2 + (e - b) ≤ 100) (hc : ∀ k, b ≤ k → k < e → -100 ≤ I (f + 1) k ∧ I (f + 1) k < 40) :
    sCall l G mT_addPart (sRm (d + 1) 0) [.inr (.inl t), .inr (.inl f), .inl b, .inl e] (hS L x I) (qV L x (sAp I t (sSeg I (f + 1) b (e - b).toNat))) := by
  refine sCall_of (by decide) (Nat.le_of_ble_eq_true rfl) (sV1s_c trivial (sV1s_c trivial (sV1s_c (sV1_i (by omega) (by omega)) (sV1s_c (sV1_i (by omega) (by omega)) sV1s_n)))) rfl ?_
  show sJ l G mT_addPart _ _ 0 0 0 [some (.inr (.inl t)), some (.inr (.inl f)), some (.inl b), some (.inl e), none] [] (hSh L, hRF, I, x)
  have hap := hT_ne ht hf hne
  have hl1 := hT_lt ht
  have hl2 := hT_lt hf
  have loop : ∀ (n : Nat) (j : Int), n = (e - j).toNat → b ≤ j → j ≤ e → sJ l G mT_addPart (sRm (d + 1) 0) (qV L x (sAp I t (sSeg I (f + 1) b (e - b).toNat))) 0 0 2 [some (.inr (.inl t)), some (.inr (.inl f)), some (.inl b), some (.inl e), some (.inl j)] [] (hSh L, hRF, sAp I t (sSeg I (f + 1) b (j - b).toNat), x) := by
    intro n
    induction n with
    | zero =>
      intro j hn hb he
      have : j = e := by omega
      subst this
      refine sg_T_addPart_x (k := ?_)
      exact sj_retV ct_T_addPart rfl rfl (Nat.le_refl _) (Nat.le_refl _) ⟨rfl, rfl⟩
    | succ n ih =>
      intro j hn hb he
      have hr : sAp I t (sSeg I (f + 1) b (j - b).toNat) (f + 1) j = I (f + 1) j := by rw [sAp_ne (by omega) (by omega)]
      have hcj := hc j hb (by omega)
      have hwj : sAp I t (sSeg I (f + 1) b (j - b).toNat) t 2 = I t 2 + (j - b) := by rw [sAp_w, sSeg_len]; omega
      refine sg_T_addPart_c (k := ?_)
      refine sj_vV (as := [.inl _]) (rest := []) (cc := 2) ct_T_addPart rfl lk_T_add lm_T_add_22 ⟨_, rfl, rfl⟩ (by rw [(hT_k L ht).1]) (c_T_add (d := d) ht (by rw [hr]; omega) (by rw [hr]; omega) (by rw [hwj]; omega) (by rw [hwj]; omega)) (Nat.le_of_ble_eq_true rfl) (Nat.le_refl _) (by show 8 + (2 + 11) + (40 * d + 100) ≤ 40 * (d + 1) + 100; omega) (Nat.le_refl _) (Nat.le_refl _) ?_
      refine sg_T_addPart_n (k := ?_)
      have e1 : (j + 1 - b).toNat = (j - b).toNat + 1 := by omega
      have e2 : b + ((j - b).toNat : Int) = j := by omega
      have := ih (j + 1) (by omega) (by omega) (by omega)
      rw [e1, sSeg_s, e2, ← sAp_snoc] at this
      rw [hr]
      exact this
  refine sg_T_addPart_0 (k := ?_)
  have := loop (e - b).toNat b rfl (Int.le_refl _) h1
  rw [Int.sub_self, show (0 : Int).toNat = 0 from rfl, sSeg_0, sAp_nil] at this
  exact this
end CT
