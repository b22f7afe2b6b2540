/-! numbering the variables of a row by their first places -/
def nml : List Int → List Int → List Int
  | S, [] => S
  | S, c :: l => if c < 0 ∧ c ∉ S then nml (S ++ [c]) l else nml S l
def cv (S : List Int) (c : Int) : Int := if c < 0 then -1 - (S.idxOf c : Int) else c
def canon (X : List Int) : List Int := X.map (cv (nml [] X))
theorem nml_snoc : ∀ (l S : List Int) (c : Int), nml S (l ++ [c]) = if c < 0 ∧ c ∉ nml S l then nml S l ++ [c] else nml S l := by
  intro l
  induction l with
  | nil => intro S c; rfl
  | cons e l ih =>
    intro S c
    rw [List.cons_append]
    by_cases h : e < 0 ∧ e ∉ S
    · have h1 : ∀ r, nml S (e :: r) = nml (S ++ [e]) r := fun r => by simp only [nml]; rw [if_pos h]
      rw [h1, h1, ih]
    · have h1 : ∀ r, nml S (e :: r) = nml S r := fun r => by simp only [nml]; rw [if_neg h]
      rw [h1, h1, ih]
theorem nml_len : ∀ (l S : List Int), (nml S l).length ≤ S.length + l.length := by
  intro l
  induction l with
  | nil => intro S; exact Nat.le_refl _
  | cons e l ih =>
    intro S
    simp only [nml]
    split
    · have := ih (S ++ [e])
      rw [List.length_append, List.length_singleton] at this
      rw [List.length_cons]
      omega
    · have := ih S
      rw [List.length_cons]
      omega
theorem nml_pre : ∀ (l S : List Int), ∃ R, nml S l = S ++ R := by
  intro l
  induction l with
  | nil => intro S; exact ⟨[], (List.append_nil S).symm⟩
  | cons e l ih =>
    intro S
    simp only [nml]
    split
    · obtain ⟨R, hR⟩ := ih (S ++ [e])
      exact ⟨e :: R, by rw [hR, List.append_assoc]; rfl⟩
    · exact ih S
theorem nml_mem : ∀ (l S : List Int) (c : Int), c ∈ nml S l ↔ c ∈ S ∨ (c ∈ l ∧ c < 0) := by
  intro l
  induction l with
  | nil => intro S c; simp [nml]
  | cons e l ih =>
    intro S c
    simp only [nml]
    split
    · rename_i h
      rw [ih, List.mem_append, List.mem_singleton, List.mem_cons]
      constructor
      · rintro ((h1 | h1) | h1)
        · exact Or.inl h1
        · exact Or.inr ⟨Or.inl h1, by rw [h1]; exact h.1⟩
        · exact Or.inr ⟨Or.inr h1.1, h1.2⟩
      · rintro (h1 | ⟨h1 | h1, h2⟩)
        · exact Or.inl (Or.inl h1)
        · exact Or.inl (Or.inr h1)
        · exact Or.inr ⟨h1, h2⟩
    · rename_i h
      rw [ih, List.mem_cons]
      constructor
      · rintro (h1 | h1)
        · exact Or.inl h1
        · exact Or.inr ⟨Or.inr h1.1, h1.2⟩
      · rintro (h1 | ⟨h1 | h1, h2⟩)
        · exact Or.inl h1
        · left
          rw [h1]
          rw [h1] at h2
          exact Decidable.byContradiction (fun h3 => h ⟨h2, h3⟩)
        · exact Or.inr ⟨h1, h2⟩
theorem idx_app {S R : List Int} {c : Int} (h : c ∈ S) : (S ++ R).idxOf c = S.idxOf c := by
  induction S with
  | nil => cases h
  | cons e S ih =>
    rw [List.cons_append, List.idxOf_cons, List.idxOf_cons]
    by_cases he : e = c
    · simp [he]
    · have : c ∈ S := (List.mem_cons.mp h).resolve_left (fun h => he h.symm)
      rw [ih this]
theorem idx_new {S : List Int} {c : Int} (h : c ∉ S) : (S ++ [c]).idxOf c = S.length := by
  induction S with
  | nil => simp
  | cons e S ih =>
    have h1 : e ≠ c := fun he => h (by rw [he]; exact List.mem_cons_self)
    have h2 : c ∉ S := fun hc => h (List.mem_cons_of_mem _ hc)
    rw [List.cons_append, List.idxOf_cons, ih h2]
    have : (e == c) = false := by simpa using h1
    rw [this]
    rfl
section CNM
variable {l : Launch} {G : sG} {L x d : Nat} {I : sI}
/-- the variable that stands for its kind -/
def ren (rt : Int → Int) (c : Int) : Int := if c < 0 ∧ 200 ≤ rt (199 - c) then 199 - rt (199 - c) else c
theorem c_U_nm {t : Nat} {cs : List Int} {rt : Int → Int} {hh : Int → Nat} {q : Nat} (hR : uR I rt hh q) (hq : q ≤ 211) (ht : hT t) (hm : tm I t cs) (hv : ∀ c ∈ cs, c < 0 → 200 ≤ rt (199 - c)) :
    sCall l G mU_nameVariables (sRm (d + 1) 0) [.inr (.inl 75), .inr (.inl t)] (hS L x I) (qE L x (fun r I' => (∀ z, z ≠ t + 1 → z ≠ 83 → I' z = I z) ∧ (∀ k : Nat, (h : k < cs.length) → I' (t + 1) k = cv (nml [] (cs.map (ren rt))) (ren rt cs[k])) ∧ r = if (nml [] (cs.map (ren rt))).length ≤ 6 then 1 else 0)) := by
  refine sCall_of (by decide) (Nat.le_of_ble_eq_true rfl) (sV1s_c trivial (sV1s_c trivial sV1s_n)) rfl ?_
  show sJ l G mU_nameVariables (sRm (d + 1) 0) _ 0 (6 * 0) 0 [some (.inr (.inl 75)), some (.inr (.inl t)), none, none, none] [] (hSh L, hRF, I, x)
  have hl1 := hT_lt ht
  obtain ⟨hm1, hm2, hm3, hm4⟩ := hm
  have loop : ∀ (n p : Nat) (oA : Option sV) (I' : sI) (S : List Int), n = cs.length - p → p ≤ cs.length → (∀ z, z ≠ t + 1 → z ≠ 83 → I' z = I z) → S = nml [] ((cs.map (ren rt)).take p) →
      (∀ v : Int, 0 ≤ v → v < 12 → I' 83 v = if -1 - v ∈ S then (S.idxOf (-1 - v) : Int) else -1) → (∀ k : Nat, (h : k < cs.length) → I' (t + 1) k = if k < p then cv S (ren rt cs[k]) else cs[k]) →
      sJ l G mU_nameVariables (sRm (d + 1) 0) (qE L x (fun r I' => (∀ z, z ≠ t + 1 → z ≠ 83 → I' z = I z) ∧ (∀ k : Nat, (h : k < cs.length) → I' (t + 1) k = cv (nml [] (cs.map (ren rt))) (ren rt cs[k])) ∧ r = if (nml [] (cs.map (ren rt))).length ≤ 6 then 1 else 0)) 0 (6 * 0) 16 [some (.inr (.inl 75)), some (.inr (.inl t)), some (.inl S.length), some (.inl p), oA] [] (hSh L, hRF, I', x) := by
    intro n
    induction n with
    | zero =>
      intro p oA I' S hn hp hI hS hN hC
      have : p = cs.length := by omega
      subst this
      rw [List.take_of_length_le (by rw [List.length_map]; exact Nat.le_refl _)] at hS
      have e0 : I' t 2 = cs.length := by rw [hI t (by omega) (by omega)]; exact hm1
      have hC' : ∀ k : Nat, (h : k < cs.length) → I' (t + 1) k = cv (nml [] (cs.map (ren rt))) (ren rt cs[k]) := fun k hk => by
        rw [hC k hk, if_pos hk, hS]
      by_cases h6 : S.length ≤ 6
      · refine sg_U_nm_y (k := ?_)
        exact sc_retZ ct_U_nameVariables ⟨_, _, rfl, rfl, hI, hC', by rw [← hS, if_pos h6]⟩
      · refine sg_U_nm_x (k := ?_)
        exact sc_retZ ct_U_nameVariables ⟨_, _, rfl, rfl, hI, hC', by rw [← hS, if_neg h6]⟩
    | succ n ih =>
      intro p oA I' S hn hp hI hS hN hC
      have hpl : p < cs.length := by omega
      have hpl' : p < (cs.map (ren rt)).length := by rw [List.length_map]; exact hpl
      have e0 : I' t 2 = cs.length := by rw [hI t (by omega) (by omega)]; exact hm1
      have ec : I' (t + 1) p = cs[p] := by rw [hC p hpl, if_neg (by omega)]
      have hc := hm4 _ (List.getElem_mem hpl)
      have hSl : S.length ≤ p := by
        rw [hS]
        have := nml_len ((cs.map (ren rt)).take p) []
        rw [List.length_take] at this
        simp at this
        omega
      have hsn : nml [] ((cs.map (ren rt)).take (p + 1)) = if ren rt cs[p] < 0 ∧ ren rt cs[p] ∉ S then S ++ [ren rt cs[p]] else S := by
        rw [take_s hpl', nml_snoc, ← hS, List.getElem_map]
      by_cases hcn : cs[p] < 0
      · have hrv := hv _ (List.getElem_mem hpl) hcn
        have hr1 := (hR (199 - cs[p]) (by omega) (by omega)).2.2.2.2
        have er : ren rt cs[p] = 199 - rt (199 - cs[p]) := by unfold ren; rw [if_pos ⟨hcn, hrv⟩]
        have hR' : uR I' rt hh q := by unfold uR; rw [hI 78 (by omega) (by omega)]; exact hR
        refine sg_U_nm_c (k := ?_)
        rw [ec]
        refine sc_vI (as := [.inl _]) (rest := []) (cc := 5) ct_U_nameVariables lk_U_root lm_U_rt_59 (c_U_rt (d := d) hR' hq (by omega) (by omega)) rfl ?_
        have hN1 := hN (rt (199 - cs[p]) - 200) (by omega) (by omega)
        have ev : -1 - (rt (199 - cs[p]) - 200) = ren rt cs[p] := by rw [er]; omega
        rw [ev] at hN1
        by_cases hin : ren rt cs[p] ∈ S
        · rw [if_pos hin] at hN1
          rw [if_neg (fun h => h.2 hin)] at hsn
          have hix : S.idxOf (ren rt cs[p]) < S.length := List.idxOf_lt_length_of_mem hin
          refine sg_U_nm_o (k := ?_)
          refine ih (p + 1) _ _ S (by omega) (by omega) (fun z z1 z2 => by rw [sU_ne z1]; exact hI z z1 z2) hsn.symm (fun v v0 v1 => by rw [hU_ne (by omega)]; exact hN v v0 v1) (fun k hk => ?_)
          by_cases hkp : k = p
          · subst hkp
            rw [hU_eq, if_pos (by omega), hN1]
            unfold cv
            rw [if_pos (by rw [er]; omega)]
          · rw [hU_nj (by omega), hC k hk]
            by_cases h2 : k < p
            · rw [if_pos h2, if_pos (by omega)]
            · rw [if_neg h2, if_neg (by omega)]
        · rw [if_neg hin] at hN1
          rw [if_pos ⟨by rw [er]; omega, hin⟩] at hsn
          refine sg_U_nm_n (k := ?_)
          have := ih (p + 1) (some (.inl (rt (199 - cs[p]) - 200))) (sU (sU I' 83 (rt (199 - cs[p]) - 200) S.length) (t + 1) p (-1 - (S.length : Int))) (S ++ [ren rt cs[p]]) (by omega) (by omega) (fun z z1 z2 => by rw [sU_ne z1, sU_ne z2]; exact hI z z1 z2) hsn.symm (fun v v0 v1 => ?_) (fun k hk => ?_)
          · rw [show ((S ++ [ren rt cs[p]]).length : Int) = S.length + 1 by simp] at this
            exact this
          · rw [hU_ne (by omega)]
            by_cases hvv : v = rt (199 - cs[p]) - 200
            · subst hvv
              rw [hU_eq, ev, if_pos (by simp), idx_new hin]
            · rw [hU_nj hvv, hN v v0 v1]
              have hne : -1 - v ≠ ren rt cs[p] := by rw [er]; omega
              by_cases h2 : -1 - v ∈ S
              · rw [if_pos h2, if_pos (List.mem_append_left _ h2), idx_app h2]
              · rw [if_neg h2, if_neg (by rw [List.mem_append, List.mem_singleton]; exact fun h => h.elim h2 hne)]
          · by_cases hkp : k = p
            · subst hkp
              rw [hU_eq, if_pos (by omega)]
              unfold cv
              rw [if_pos (by rw [er]; omega), idx_new hin]
            · rw [hU_nj (by omega), hU_ne (by omega), hC k hk]
              by_cases h2 : k < p
              · rw [if_pos h2, if_pos (by omega)]
                unfold cv
                by_cases h3 : ren rt cs[k] < 0
                · rw [if_pos h3, if_pos h3, idx_app]
                  rw [hS, nml_mem]
                  right
                  refine ⟨?_, h3⟩
                  have : (cs.map (ren rt))[k]'(by rw [List.length_map]; exact hk) ∈ (cs.map (ren rt)).take p := by
                    rw [List.mem_take_iff_getElem]
                    exact ⟨k, by rw [List.length_map]; omega, rfl⟩
                  rw [List.getElem_map] at this
                  exact this
                · rw [if_neg h3, if_neg h3]
              · rw [if_neg h2, if_neg (by omega)]
      · have er : ren rt cs[p] = cs[p] := by unfold ren; rw [if_neg (fun h => hcn h.1)]
        rw [if_neg (fun h => hcn (by rw [← er]; exact h.1))] at hsn
        refine sg_U_nm_p (k := ?_)
        refine ih (p + 1) _ I' S (by omega) (by omega) hI hsn.symm hN (fun k hk => ?_)
        rw [hC k hk]
        by_cases h2 : k < p
        · rw [if_pos h2, if_pos (by omega)]
        · rw [if_neg h2]
          by_cases hkp : k = p
          · subst hkp
            rw [if_pos (by omega), er]
            unfold cv
            rw [if_neg hcn]
          · rw [if_neg (by omega)]
  have first : ∀ (n : Nat) (v : Int) (I' : sI), n = (12 - v).toNat → 0 ≤ v → v ≤ 12 → (∀ z, z ≠ 83 → I' z = I z) → (∀ u : Int, 0 ≤ u → u < v → I' 83 u = -1) → sJ l G mU_nameVariables (sRm (d + 1) 0) (qE L x (fun r I' => (∀ z, z ≠ t + 1 → z ≠ 83 → I' z = I z) ∧ (∀ k : Nat, (h : k < cs.length) → I' (t + 1) k = cv (nml [] (cs.map (ren rt))) (ren rt cs[k])) ∧ r = if (nml [] (cs.map (ren rt))).length ≤ 6 then 1 else 0)) 0 (6 * 0) 2 [some (.inr (.inl 75)), some (.inr (.inl t)), some (.inl v), none, none] [] (hSh L, hRF, I', x) := by
    intro n
    induction n with
    | zero =>
      intro v I' hn v0 v1 hI hk
      have : v = 12 := by omega
      subst this
      refine sg_U_nm_m (k := ?_)
      refine loop cs.length 0 none I' [] rfl (Nat.zero_le _) (fun z z1 z2 => hI z z2) rfl (fun v v0 v1 => by rw [hk v v0 v1, if_neg (by simp)]) (fun k hk => ?_)
      rw [if_neg (by omega), hI (t + 1) (by omega)]
      exact hm3 k hk
    | succ n ih =>
      intro v I' hn v0 v1 hI hk
      refine sg_U_nm_l (k := ?_)
      refine ih (v + 1) _ (by omega) (by omega) (by omega) (fun z hz => by rw [sU_ne hz]; exact hI z hz) (fun u u0 u1 => ?_)
      by_cases hu : u = v
      · subst hu; rw [hU_eq]
      · rw [hU_nj hu]; exact hk u u0 (by omega)
  refine sg_U_nm_0 (k := ?_)
  exact first 12 0 I rfl (by omega) (by omega) (fun _ _ => rfl) (fun u u0 u1 => by omega)
end CNM
