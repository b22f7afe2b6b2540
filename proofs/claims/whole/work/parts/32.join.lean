/-! Unifier: join -/
/-- what a join leaves -/
def jnd (I I' : sI) (T : Int → List Int) (P : List (Int × Int)) (f g : Int) : Prop :=
  (∀ z, z ≠ 75 → z ≠ 78 → z ≠ 79 → z ≠ 80 → z ≠ 81 → I' z = I z) ∧ I' 78 = bU (I 78) g f ∧ I' 79 = bU (I 79) f (if I 79 f = -1 then I 79 g else I 79 f) ∧
  (I 79 f ≠ -1 → I 79 g ≠ -1 → I 76 (I 79 f) = I 76 (I 79 g)) ∧
  uQ I' (P ++ if I 79 f = -1 ∨ I 79 g = -1 then [] else pks (hArt I) T (I 79 f) (I 79 g) (hArt I (I 76 (I 79 f))))
section CJ
variable {l : Launch} {G : sG} {L x d : Nat} {I : sI}
theorem sU_b (I : sI) (a : Nat) (j v : Int) : sU I a j v a = bU (I a) j v := by
  funext k
  simp [sU, bU]
theorem c_U_jn {f g : Int} {P : List (Int × Int)} {V : Int → Prop} {T : Int → List Int} (hF : uF I V T) (ha : alf I) (hf0 : 0 ≤ f) (hf1 : f < 212) (hg0 : 0 ≤ g) (hg1 : g < 212) (hP : uQ I P)
    (hsf : I 79 f = -1 ∨ (V (I 79 f) ∧ 0 ≤ I 76 (I 79 f))) (hsg : I 79 g = -1 ∨ (V (I 79 g) ∧ 0 ≤ I 76 (I 79 g)))
    (hl : f ≠ g → I 79 f ≠ -1 → I 79 g ≠ -1 → P.length + hArt I (I 76 (I 79 g)) ≤ 201) :
    sCall l G mU_join (sRm (d + 2) 0) [.inr (.inl 75), .inl f, .inl g, .inr (.inl 2)] (hS L x I) (qE L x (fun r I' => (f = g ∧ r = 1 ∧ I' = I) ∨ (f ≠ g ∧ I 79 f ≠ -1 ∧ I 79 g ≠ -1 ∧ I 76 (I 79 f) ≠ I 76 (I 79 g) ∧ r = 0 ∧ I' = I) ∨ (f ≠ g ∧ r = 1 ∧ jnd I I' T P f g))) := by
  refine sCall_of (by decide) (Nat.le_of_ble_eq_true rfl) (sV1s_c trivial (sV1s_c (sV1_i (by omega) (by omega)) (sV1s_c (sV1_i (by omega) (by omega)) (sV1s_c trivial sV1s_n)))) rfl ?_
  show sJ l G mU_join (sRm (d + 2) 0) _ 0 (6 * 0) 0 [some (.inr (.inl 75)), some (.inl f), some (.inl g), some (.inr (.inl 2)), none, none] [] (hSh L, hRF, I, x)
  by_cases hfg : f = g
  · refine sg_U_j_s (k := ?_)
    exact sc_retZ ct_U_join ⟨_, _, rfl, rfl, Or.inl ⟨hfg, rfl, rfl⟩⟩
  · by_cases h1 : I 79 f = -1
    · refine sg_U_j_a (k := ?_)
      refine sg_U_j_n (k := ?_)
      refine sc_retZ ct_U_join ⟨_, _, rfl, rfl, Or.inr (Or.inr ⟨hfg, rfl, fun z z1 z2 z3 z4 z5 => by rw [sU_ne z3, sU_ne z2], ?_, ?_, fun h => absurd h1 h, ?_⟩)⟩
      · rw [sU_ne (by omega), sU_b]
      · rw [sU_b, sU_ne (by omega), if_pos h1]
      · rw [if_pos (Or.inl h1), List.append_nil]
        obtain ⟨q1, q2, q3⟩ := hP
        exact ⟨by rw [sU_ne (by omega), sU_ne (by omega)]; exact q1, q2, fun k hk => by rw [sU_ne (by omega), sU_ne (by omega), sU_ne (by omega), sU_ne (by omega)]; exact q3 k hk⟩
    · have hsf := hsf.resolve_left h1
      by_cases h2 : I 79 g = -1
      · refine sg_U_j_b (k := ?_)
        refine sg_U_j_y (k := ?_)
        refine sc_retZ ct_U_join ⟨_, _, rfl, rfl, Or.inr (Or.inr ⟨hfg, rfl, fun z z1 z2 z3 z4 z5 => by rw [sU_ne z3, sU_ne z2], ?_, ?_, fun _ h => absurd h2 h, ?_⟩)⟩
        · rw [sU_ne (by omega), sU_b]
        · rw [sU_b, sU_ne (by omega), if_neg h1]
        · rw [if_pos (Or.inr h2), List.append_nil]
          obtain ⟨q1, q2, q3⟩ := hP
          exact ⟨by rw [sU_ne (by omega), sU_ne (by omega)]; exact q1, q2, fun k hk => by rw [sU_ne (by omega), sU_ne (by omega), sU_ne (by omega), sU_ne (by omega)]; exact q3 k hk⟩
      · have hsg := hsg.resolve_left h2
        have wf := hF _ hsf.1
        have wg := hF _ hsg.1
        have lf := uF_hd hF hsf.1
        have lg := uF_hd hF hsg.1
        by_cases h3 : I 76 (I 79 f) = I 76 (I 79 g)
        · refine sg_U_j_c (k := ?_)
          have hte : (if I 76 (I 79 f) < 0 then 0 else I 3 (I 76 (I 79 f))) = ((hArt I (I 76 (I 79 f)) : Nat) : Int) := by
            unfold hArt
            have := ha.2.1 (I 76 (I 79 f)) (by omega) (by omega)
            rw [if_neg (by omega), if_neg (by omega)]
            omega
          refine sc_vI (as := [.inl _]) (rest := [.inl _, .inl _, .inr (.inl _)]) (cc := 1) ct_U_join lk_A_termsOf lm_U_to_74 (c_A_termsOf (d := d) (by omega) (by omega)) rfl ?_
          rw [hte]
          refine sc_vF (as := [.inl _, .inl _, .inl _]) (rest := []) (cc := 5) ct_U_join lk_U_addPairsOfTerms lm_U_at_79 (c_U_at (d := d) hF hsf.1 hsg.1 (Nat.le_refl _) (by rw [h3]; exact Nat.le_refl _) hP (by rw [h3]; exact hl hfg h1 h2)) rfl (fun I1 hI1 => ?_)
          obtain ⟨hI1, hQ1⟩ := hI1
          refine sg_U_j_y (k := ?_)
          refine sc_retZ ct_U_join ⟨_, _, rfl, rfl, Or.inr (Or.inr ⟨hfg, rfl, fun z z1 z2 z3 z4 z5 => by rw [sU_ne z3, sU_ne z2]; exact hI1 z z1 z4 z5, ?_, ?_, fun _ _ => h3, ?_⟩)⟩
          · rw [sU_ne (by omega), sU_b, hI1 78 (by omega) (by omega) (by omega)]
          · rw [sU_b, sU_ne (by omega), if_neg h1, hI1 79 (by omega) (by omega) (by omega)]
          · rw [if_neg (fun h => h.elim h1 h2)]
            obtain ⟨q1, q2, q3⟩ := hQ1
            exact ⟨by rw [sU_ne (by omega), sU_ne (by omega)]; exact q1, q2, fun k hk => by rw [sU_ne (by omega), sU_ne (by omega), sU_ne (by omega), sU_ne (by omega)]; exact q3 k hk⟩
        · refine sg_U_j_f (k := ?_)
          exact sc_retZ ct_U_join ⟨_, _, rfl, rfl, Or.inr (Or.inl ⟨hfg, h1, h2, h3, rfl, rfl⟩)⟩
end CJ
