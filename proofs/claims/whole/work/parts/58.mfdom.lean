/-! where a pattern fits, each of its variables has a value -/
theorem mf_dom (ar : Int → Nat) (pr : Int → Bool) (ss : List Int) : ∀ (ps : List Int) (a : Nat) (b : Int → Int) (e : Nat) (bb : Int → Int), mf ar pr ss ps a b = some (e, bb) → (∀ k, b k ≠ -1 → bb k = b k) ∧ ∀ c ∈ ps, c < 0 → bb (-1 - c) ≠ -1 := by
  intro ps
  induction ps with
  | nil =>
    intro a b e bb h
    simp only [mf, Option.some.injEq, Prod.mk.injEq] at h
    exact ⟨fun k _ => by rw [← h.2], fun c hc => by cases hc⟩
  | cons c ps ih =>
    intro a b e bb h
    simp only [mf] at h
    split at h
    · split at h
      · rename_i hal hcn
        split at h
        · rename_i hb
          split at h
          · cases h
          · obtain ⟨g1, g2⟩ := ih _ _ _ _ h
            have hv : bU b (-1 - c) a (-1 - c) = a := by unfold bU; rw [if_pos rfl]
            have hbc : bb (-1 - c) = a := by rw [g1 (-1 - c) (by rw [hv]; omega), hv]
            refine ⟨fun k hk => ?_, fun d hd hn => ?_⟩
            · have hkc : k ≠ -1 - c := fun h9 => hk (by rw [h9]; exact hb)
              have e1 : bU b (-1 - c) a k = b k := by unfold bU; rw [if_neg hkc]
              rw [g1 k (by rw [e1]; exact hk), e1]
            · rcases List.mem_cons.mp hd with rfl | hd
              · rw [hbc]; omega
              · exact g2 d hd hn
        · rename_i hb
          split at h
          · obtain ⟨g1, g2⟩ := ih _ _ _ _ h
            refine ⟨g1, fun d hd hn => ?_⟩
            rcases List.mem_cons.mp hd with rfl | hd
            · rw [g1 _ hb]; exact hb
            · exact g2 d hd hn
          · cases h
      · rename_i hal hcn
        split at h
        · obtain ⟨g1, g2⟩ := ih _ _ _ _ h
          refine ⟨g1, fun d hd hn => ?_⟩
          rcases List.mem_cons.mp hd with rfl | hd
          · exact absurd hn hcn
          · exact g2 d hd hn
        · cases h
    · cases h
