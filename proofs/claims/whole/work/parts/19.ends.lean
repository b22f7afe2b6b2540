/-! a term's codes in its cells; the ends of its places -/
def hArt (I : sI) : Int → Nat := fun c => if c < 0 then 0 else (I 3 c).toNat
/-- the codes of the term at t -/
def tm (I : sI) (t : Nat) (cs : List Int) : Prop := I t 2 = cs.length ∧ cs.length ≤ 100 ∧ (∀ k : Nat, (h : k < cs.length) → I (t + 1) k = cs[k]) ∧ ∀ c ∈ cs, -12 ≤ c ∧ c < 40
/-- the alphabet's numbers -/
def alf (I : sI) : Prop := (0 ≤ I 2 2 ∧ I 2 2 ≤ 40) ∧ (∀ c : Int, 0 ≤ c → c < 40 → 0 ≤ I 3 c ∧ I 3 c ≤ 5) ∧ ∀ c : Int, I 4 c = 0 ∨ I 4 c = 1
/-- ends are written down to place p -/
def sFp (I : sI) (t : Nat) (cs : List Int) (p : Int) : sI := fun b k => if b = t + 2 ∧ p < k ∧ k < cs.length then k + f_tk (hArt I) 1 (cs.drop k.toNat) else I b k
theorem sFp_ne {I : sI} {t : Nat} {cs : List Int} {p : Int} {b : Nat} (h : b ≠ t + 2) : sFp I t cs p b = I b := by
  funext k
  unfold sFp
  rw [if_neg (fun h2 => h h2.1)]
theorem sFp_top (I : sI) (t : Nat) (cs : List Int) : sFp I t cs (cs.length - 1) = I := by
  funext b k
  unfold sFp
  rw [if_neg (by omega)]
theorem sFp_at {I : sI} {t : Nat} {cs : List Int} {p k : Int} (h1 : p < k) (h2 : k < cs.length) : sFp I t cs p (t + 2) k = k + f_tk (hArt I) 1 (cs.drop k.toNat) := by
  unfold sFp
  rw [if_pos ⟨rfl, h1, h2⟩]
theorem sFp_dn {I : sI} {t : Nat} {cs : List Int} {p : Int} (h0 : 0 ≤ p) (h1 : p < cs.length) : sU (sFp I t cs p) (t + 2) p (p + f_tk (hArt I) 1 (cs.drop p.toNat)) = sFp I t cs (p - 1) := by
  funext b k
  unfold sU
  by_cases h : b = t + 2 ∧ k = p
  · rw [if_pos h, h.1, h.2, sFp_at (by omega) h1]
  · rw [if_neg h]
    unfold sFp
    by_cases h2 : b = t + 2 ∧ p < k ∧ k < cs.length
    · rw [if_pos h2, if_pos ⟨h2.1, by omega, h2.2.2⟩]
    · rw [if_neg h2, if_neg (fun h3 => h2 ⟨h3.1, by
        have : ¬ k = p := fun e => h ⟨h3.1, e⟩
        omega, h3.2.2⟩)]
section CE
variable {l : Launch} {G : sG} {L x d : Nat} {I : sI}
theorem c_T_findEnds {t : Nat} {cs : List Int} (ht : hT t) (hm : tm I t cs) (ha : alf I) (hw : f_wf (hArt I) 1 cs) :
    sCall l G mT_findEnds (sRm (d + 1) 0) [.inr (.inl t), .inr (.inl 2)] (hS L x I) (qV L x (sFp I t cs (-1))) := by
  refine sCall_of (by decide) (Nat.le_of_ble_eq_true rfl) (sV1s_c trivial (sV1s_c trivial sV1s_n)) rfl ?_
  show sJ l G mT_findEnds (sRm (d + 1) 0) _ 0 (6 * 0) 0 [some (.inr (.inl t)), some (.inr (.inl 2)), none, none, none, none] [] (hSh L, hRF, I, x)
  obtain ⟨hm1, hm2, hm3, hm4⟩ := hm
  have hlt := hT_lt ht
  have hne : 0 < cs.length := List.length_pos_iff.mpr (f_wf_ne _ hw)
  have hwt : ∀ p, sFp I t cs p t 2 = cs.length := fun p => by rw [sFp_ne (by omega)]; exact hm1
  have hcd : ∀ (p q : Int) (h0 : 0 ≤ p) (h1 : p < cs.length), sFp I t cs q (t + 1) p = cs[p.toNat]'(by omega) := fun p q h0 h1 => by
    rw [sFp_ne (by omega)]
    have := hm3 p.toNat (by omega)
    rwa [show ((p.toNat : Nat) : Int) = p by omega] at this
  have har : ∀ (p q : Int) (h0 : 0 ≤ p) (h1 : p < cs.length), (if sFp I t cs q (t + 1) p < 0 then 0 else sFp I t cs q 3 (sFp I t cs q (t + 1) p)) = (hArt I (cs[p.toNat]'(by omega)) : Int) := fun p q h0 h1 => by
    have hb := hm4 _ (List.getElem_mem (show p.toNat < cs.length by omega))
    rw [hcd p q h0 h1, sFp_ne (b := 3) (by omega)]
    unfold hArt
    by_cases hc : cs[p.toNat]'(by omega) < 0
    · rw [if_pos hc, if_pos hc]; rfl
    · rw [if_neg hc, if_neg hc]
      have := ha.2.1 (cs[p.toNat]'(by omega)) (by omega) (by omega)
      omega
  -- the inner loop
  have hIn : ∀ (r : Nat) (p e n i : Int), 0 ≤ p → (hp : p < cs.length) → n = hArt I (cs[p.toNat]'(by omega)) → 0 ≤ i → i ≤ n → r = (n - i).toNat → e = p + 1 + f_tk (hArt I) i.toNat (cs.drop (p.toNat + 1)) →
      (∀ e', sJ l G mT_findEnds (sRm (d + 1) 0) (qV L x (sFp I t cs (-1))) 0 (6 * 0) 5 [some (.inr (.inl t)), some (.inr (.inl 2)), some (.inl (p + (-1))), some (.inl e'), some (.inl n), some (.inl n)] [] (hSh L, hRF, sFp I t cs (p - 1), x)) →
      sJ l G mT_findEnds (sRm (d + 1) 0) (qV L x (sFp I t cs (-1))) 0 (6 * 0) 20 [some (.inr (.inl t)), some (.inr (.inl 2)), some (.inl p), some (.inl e), some (.inl n), some (.inl i)] [] (hSh L, hRF, sFp I t cs p, x) := by
    intro r
    induction r with
    | zero =>
      intro p e n i h0 hp hn hi0 hi1 hr he k
      have hin : i = n := by omega
      subst hin
      have hle := f_tk_le (hArt I) (cs.drop (p.toNat + 1)) i.toNat
      rw [List.length_drop] at hle
      refine sg_T_findEnds_d1 (k := ?_)
      have e1 : e = p + f_tk (hArt I) 1 (cs.drop p.toNat) := by
        have h3 := f_tk_1 (hArt I) hw (show p.toNat < cs.length by omega)
        have e0 : i.toNat = hArt I (cs[p.toNat]'(by omega)) := by omega
        have h4 := congrArg (fun z => f_tk (hArt I) z (cs.drop (p.toNat + 1))) e0
        omega
      rw [e1, sFp_dn h0 hp]
      exact k _
    | succ r ih =>
      intro p e n i h0 hp hn hi0 hi1 hr he k
      obtain ⟨m, g1, g2, g3⟩ := f_at (hArt I) hw (show p.toNat < cs.length by omega)
      have hle := f_tk_lt (hArt I) (k := i.toNat) (n := m + hArt I (cs[p.toNat]'(by omega)) - i.toNat - 1) (l := cs.drop (p.toNat + 1)) (by
        rw [show i.toNat + (m + hArt I (cs[p.toNat]'(by omega)) - i.toNat - 1 + 1) = m + hArt I (cs[p.toNat]'(by omega)) by omega]
        exact g3)
      rw [List.length_drop] at hle
      have hw' := hwt p
      have hend : sFp I t cs p (t + 2) e = e + f_tk (hArt I) 1 (cs.drop e.toNat) := sFp_at (by omega) (by omega)
      have hadd := f_tk_add (hArt I) (k := i.toNat) (j := 1) (l := cs.drop (p.toNat + 1)) ⟨m + hArt I (cs[p.toNat]'(by omega)) - i.toNat - 1, by
        rw [show i.toNat + 1 + (m + hArt I (cs[p.toNat]'(by omega)) - i.toNat - 1) = m + hArt I (cs[p.toNat]'(by omega)) by omega]
        exact g3⟩
      rw [List.drop_drop, show p.toNat + 1 + f_tk (hArt I) i.toNat (cs.drop (p.toNat + 1)) = e.toNat by omega] at hadd
      have hn5 : n ≤ 40 := by
        rw [hn]
        unfold hArt
        split
        · omega
        · have hb := hm4 _ (List.getElem_mem (show p.toNat < cs.length by omega))
          have := ha.2.1 (cs[p.toNat]'(by omega)) (by omega) (by omega)
          omega
      refine sg_T_findEnds_s (k := ?_)
      rw [hend]
      refine ih p _ n (i + 1) h0 hp hn (by omega) (by omega) (by omega) ?_ k
      rw [show (i + 1).toNat = i.toNat + 1 by omega, hadd]
      omega
  have hOut : ∀ (m : Nat) (p e n i : Int), p = m - 1 → p < cs.length → sJ l G mT_findEnds (sRm (d + 1) 0) (qV L x (sFp I t cs (-1))) 0 (6 * 0) 5 [some (.inr (.inl t)), some (.inr (.inl 2)), some (.inl p), some (.inl e), some (.inl n), some (.inl i)] [] (hSh L, hRF, sFp I t cs p, x) := by
    intro m
    induction m with
    | zero =>
      intro p e n i hp hlt
      have : p = -1 := by omega
      subst this
      refine sg_T_findEnds_xb (k := ?_)
      exact sc_retV ct_T_findEnds ⟨rfl, rfl⟩
    | succ m ih =>
      intro p e n i hp hlt
      have hb := hm4 _ (List.getElem_mem (show p.toNat < cs.length by omega))
      have hc := hcd p p (by omega) hlt
      refine sg_T_findEnds_cb (k := ?_)
      refine sc_vI (as := [.inl _]) (rest := []) (cc := 1) ct_T_findEnds lk_A_termsOf lm_T_termsOf_32 (c_A_termsOf (d := d) (by rw [hc]; omega) (by rw [hc]; omega)) rfl ?_
      refine sg_T_findEnds_ib (k := ?_)
      rw [har p p (by omega) hlt]
      refine hIn _ p _ _ 0 (by omega) hlt rfl (Int.le_refl _) (by omega) rfl (by simp [f_tk_0]) (fun e' => ?_)
      have := ih (p - 1) e' (hArt I (cs[p.toNat]'(by omega))) (hArt I (cs[p.toNat]'(by omega))) (by omega) (by omega)
      exact this
  refine sg_T_findEnds_0 (k := ?_)
  rw [hm1]
  have hb := hm4 _ (List.getElem_mem (show ((cs.length : Int) - 1).toNat < cs.length by omega))
  have hc := hcd ((cs.length : Int) - 1) ((cs.length : Int) - 1) (by omega) (by omega)
  have hc' := har ((cs.length : Int) - 1) ((cs.length : Int) - 1) (by omega) (by omega)
  rw [sFp_top] at hc hc'
  refine sg_T_findEnds_ca (k := ?_)
  refine sc_vI (as := [.inl _]) (rest := []) (cc := 1) ct_T_findEnds lk_A_termsOf lm_T_termsOf_32 (c_A_termsOf (d := d) (by rw [hc]; omega) (by rw [hc]; omega)) rfl ?_
  refine sg_T_findEnds_ia (k := ?_)
  rw [hc']
  have h9 := hIn _ ((cs.length : Int) - 1) ((cs.length : Int) - 1 + 1) _ 0 (by omega) (by omega) rfl (Int.le_refl _) (by omega) rfl (by simp [f_tk_0]) (fun e' => hOut (cs.length - 1) ((cs.length : Int) - 1 + -1) e' _ _ (by omega) (by omega))
  rw [sFp_top] at h9
  exact h9
end CE
