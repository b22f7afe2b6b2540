/-! Unifier: noValueBeginsWithPredicate, weightWithValues -/
section CW
variable {l : Launch} {G : sG} {L x d : Nat} {I : sI}
theorem c_U_nv {rt : Int → Int} {hh : Int → Nat} {q : Nat} {V : Int → Prop} {T : Int → List Int} (hF : uF I V T) (hR : uR I rt hh q) (hq : q ≤ 211) (hs : ∀ v, 0 ≤ v → v < 12 → I 79 (rt (200 + v)) = -1 ∨ (V (I 79 (rt (200 + v))) ∧ 0 ≤ I 76 (I 79 (rt (200 + v))))) :
    sCall l G mU_noValueBeginsWithPredicate (sRm (d + 2) 0) [.inr (.inl 75), .inr (.inl 2)] (hS L x I) (qE L x (fun r I' => I' = I ∧ ((r = 1 ∧ ∀ v, 0 ≤ v → v < 12 → I 79 (rt (200 + v)) ≠ -1 → hPr I (I 76 (I 79 (rt (200 + v)))) = false) ∨ (r = 0 ∧ ∃ v, 0 ≤ v ∧ v < 12 ∧ I 79 (rt (200 + v)) ≠ -1 ∧ hPr I (I 76 (I 79 (rt (200 + v)))) = true)))) := by
  refine sCall_of (by decide) (Nat.le_of_ble_eq_true rfl) (sV1s_c trivial (sV1s_c trivial sV1s_n)) rfl ?_
  show sJ l G mU_noValueBeginsWithPredicate (sRm (d + 2) 0) _ 0 (6 * 0) 0 [some (.inr (.inl 75)), some (.inr (.inl 2)), none, none] [] (hSh L, hRF, I, x)
  have loop : ∀ (n : Nat) (v : Int) (oA : Option sV), n = (12 - v).toNat → 0 ≤ v → v ≤ 12 → (∀ u, 0 ≤ u → u < v → I 79 (rt (200 + u)) ≠ -1 → hPr I (I 76 (I 79 (rt (200 + u)))) = false) →
      sJ l G mU_noValueBeginsWithPredicate (sRm (d + 2) 0) (qE L x (fun r I' => I' = I ∧ ((r = 1 ∧ ∀ v, 0 ≤ v → v < 12 → I 79 (rt (200 + v)) ≠ -1 → hPr I (I 76 (I 79 (rt (200 + v)))) = false) ∨ (r = 0 ∧ ∃ v, 0 ≤ v ∧ v < 12 ∧ I 79 (rt (200 + v)) ≠ -1 ∧ hPr I (I 76 (I 79 (rt (200 + v)))) = true)))) 0 (6 * 0) 2 [some (.inr (.inl 75)), some (.inr (.inl 2)), some (.inl v), oA] [] (hSh L, hRF, I, x) := by
    intro n
    induction n with
    | zero =>
      intro v oA hn v0 v1 hv
      have : v = 12 := by omega
      subst this
      refine sg_U_nv_x (k := ?_)
      exact sc_retZ ct_U_noValueBeginsWithPredicate ⟨_, _, rfl, rfl, rfl, Or.inl ⟨rfl, hv⟩⟩
    | succ n ih =>
      intro v oA hn v0 v1 hv
      refine sg_U_nv_c (k := ?_)
      refine sc_vI (as := [.inl _]) (rest := []) (cc := 5) ct_U_noValueBeginsWithPredicate lk_U_schemaOf lm_U_so_83 (c_U_so (d := d) hR hq v0 (by omega)) rfl ?_
      have hsv := hs v v0 (by omega)
      by_cases h1 : I 79 (rt (200 + v)) = -1
      · refine sg_U_nv_n (k := ?_)
        refine ih (v + 1) _ (by omega) (by omega) (by omega) (fun u u0 u1 hne => ?_)
        by_cases hu : u = v
        · subst hu; exact absurd h1 hne
        · exact hv u u0 (by omega) hne
      · have hsv := hsv.resolve_left h1
        have hb := hF _ hsv.1
        have hd := uF_hd hF hsv.1
        refine sg_U_nv_q (k := ?_)
        refine sc_vI (as := [.inl _]) (rest := []) (cc := 1) ct_U_noValueBeginsWithPredicate lk_A_isPredicate lm_U_ip_86 (c_A_isPred (d := d) (by omega) (by omega)) rfl ?_
        rw [hPr_v]
        by_cases hp : hPr I (I 76 (I 79 (rt (200 + v)))) = true
        · rw [if_pos hp]
          refine sg_U_nv_f (k := ?_)
          exact sc_retZ ct_U_noValueBeginsWithPredicate ⟨_, _, rfl, rfl, rfl, Or.inr ⟨rfl, v, v0, by omega, h1, hp⟩⟩
        · rw [if_neg hp]
          refine sg_U_nv_g (k := ?_)
          refine ih (v + 1) _ (by omega) (by omega) (by omega) (fun u u0 u1 hne => ?_)
          by_cases hu : u = v
          · subst hu
            exact Bool.eq_false_iff.mpr hp
          · exact hv u u0 (by omega) hne
  refine sg_U_nv_0 (k := ?_)
  exact loop 12 0 none rfl (by omega) (by omega) (fun u u0 u1 => by omega)
theorem c_U_ww {bg : Int} {V : Int → Prop} {T : Int → List Int} (hF : uF I V T) (hb : V bg) (hW : ∀ v, 0 ≤ v → v < 12 → 0 ≤ I 82 v ∧ I 82 v ≤ 101) :
    sCall l G mU_weightWithValues (sRm (d + 1) 0) [.inr (.inl 75), .inl bg] (hS L x I) (qE L x (fun r I' => I' = I ∧ ((r = 0 ∧ uk (I 82) (T bg)) ∨ (¬ uk (I 82) (T bg) ∧ r.toNat = min 101 (wN (I 82) (T bg)) ∧ 0 < r)))) := by
  obtain ⟨h1, h2, h3, h4, h5, h6⟩ := hF bg hb
  have hl0 : 0 < (T bg).length := List.length_pos_iff.mpr (f_wf_ne _ h4)
  refine sCall_of (by decide) (Nat.le_of_ble_eq_true rfl) (sV1s_c trivial (sV1s_c (sV1_i (by omega) (by omega)) sV1s_n)) rfl ?_
  show sJ l G mU_weightWithValues (sRm (d + 1) 0) _ 0 (6 * 0) 0 [some (.inr (.inl 75)), some (.inl bg), none, none, none] [] (hSh L, hRF, I, x)
  have loop : ∀ (n i : Nat) (w : Int) (oA : Option sV), n = (T bg).length - i → i ≤ (T bg).length → 0 ≤ w → w.toNat = min 101 (wN (I 82) ((T bg).take i)) → ¬ uk (I 82) ((T bg).take i) → (0 < i → 0 < w) →
      sJ l G mU_weightWithValues (sRm (d + 1) 0) (qE L x (fun r I' => I' = I ∧ ((r = 0 ∧ uk (I 82) (T bg)) ∨ (¬ uk (I 82) (T bg) ∧ r.toNat = min 101 (wN (I 82) (T bg)) ∧ 0 < r)))) 0 (6 * 0) 4 [some (.inr (.inl 75)), some (.inl bg), some (.inl w), some (.inl (bg + i)), oA] [] (hSh L, hRF, I, x) := by
    intro n
    induction n with
    | zero =>
      intro i w oA hn hi w0 hw hu hp
      have : i = (T bg).length := by omega
      subst this
      rw [List.take_length] at hw hu
      refine sg_U_ww_x (k := ?_)
      exact sc_ret ct_U_weightWithValues ⟨_, _, rfl, rfl, rfl, Or.inr ⟨hu, hw, hp hl0⟩⟩
    | succ n ih =>
      intro i w oA hn hi w0 hw hu hp
      have hil : i < (T bg).length := by omega
      obtain ⟨-, g2, -⟩ := h5 i hil
      have hc := h6 _ (List.getElem_mem hil)
      have hih := ih (i + 1)
      rw [take_s hil, wN_app, wN_one] at hih
      have hukn : ∀ e : Int, e = (if (T bg)[i] < 0 then I 82 (-1 - (T bg)[i]) else 1) → e ≠ 0 → ¬ uk (I 82) ((T bg).take i ++ [(T bg)[i]]) := by
        rintro e he hne ⟨c, hc, c1, c2⟩
        rcases List.mem_append.mp hc with h | h
        · exact hu ⟨c, h, c1, c2⟩
        · rw [List.mem_singleton] at h
          rw [← h, if_pos c1, c2] at he
          exact hne he
      by_cases hcn : (T bg)[i] < 0
      · have hWv := hW (-1 - (T bg)[i]) (by omega) (by omega)
        rw [if_pos hcn] at hih hukn
        by_cases hz : I 82 (-1 - (T bg)[i]) = 0
        · have hz' : I 82 (-1 - I 76 (bg + i)) = 0 := by rw [g2]; exact hz
          refine sg_U_ww_u (k := ?_)
          exact sc_ret ct_U_weightWithValues ⟨_, _, rfl, rfl, rfl, Or.inl ⟨rfl, (T bg)[i], List.getElem_mem hil, hcn, hz⟩⟩
        · have hz' : ¬ I 82 (-1 - I 76 (bg + i)) = 0 := by rw [g2]; exact hz
          have hWv' := hWv
          rw [← g2] at hWv'
          refine sg_U_ww_v (k := ?_)
          rw [g2]
          refine sc_min (rest := []) ct_U_weightWithValues lm_U_min_93 ?_
          refine sg_U_ww_n (k := ?_)
          have := hih (if 101 < w + I 82 (-1 - (T bg)[i]) then 101 else w + I 82 (-1 - (T bg)[i])) (some (.inl (I 82 (-1 - (T bg)[i])))) (by omega) (by omega) (by split <;> omega) (by split <;> omega) (hukn _ rfl hz) (fun _ => by split <;> omega)
          rw [show bg + ((i + 1 : Nat) : Int) = bg + i + 1 by omega] at this
          exact this
      · rw [if_neg hcn] at hih hukn
        refine sg_U_ww_p (k := ?_)
        refine sc_min (rest := []) ct_U_weightWithValues lm_U_min_93 ?_
        refine sg_U_ww_n (k := ?_)
        have := hih (if 101 < w + 1 then 101 else w + 1) (some (.inl 1)) (by omega) (by omega) (by split <;> omega) (by split <;> omega) (hukn _ rfl (by omega)) (fun _ => by split <;> omega)
        rw [show bg + ((i + 1 : Nat) : Int) = bg + i + 1 by omega] at this
        exact this
  refine sg_U_ww_0 (k := ?_)
  have := loop (T bg).length 0 0 none rfl (Nat.zero_le _) (by omega) (by simp [wN]) (by rintro ⟨c, hc, -⟩; simp at hc) (fun h => by omega)
  rw [show bg + ((0 : Nat) : Int) = bg by omega] at this
  exact this
end CW
