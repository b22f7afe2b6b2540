/-! Unifier: a join keeps what holds -/
section KIN2
variable {ar : Int → Nat} {pr : Int → Bool} {cd : Int → Int} {V : Int → Prop} {T : Int → List Int}
theorem uInv_join {s t : List Int} {sch par rt : Int → Int} {hh : Int → Nat} {P : List (Int × Int)} {q q' : Nat} (hS : uS ar cd V T) (hR : pR par rt hh q') (h : uInv ar pr cd V T s t sch rt P q) (hq : q < P.length) {f g : Int}
    (hf : f = rt (nd cd P[q].1)) (hg : g = rt (nd cd P[q].2)) (hne : f ≠ g) (hcd : sch f ≠ -1 → sch g ≠ -1 → cd (sch f) = cd (sch g)) :
    uInv ar pr cd V T s t (bU sch f (if sch f = -1 then sch g else sch f)) (fun n => if rt n = g then f else rt n) (P ++ if sch f = -1 ∨ sch g = -1 then [] else pks ar T (sch f) (sch g) (ar (cd (sch f)))) (q + 1) := by
  have hval := fun σ (hσ : gu ar pr s t σ) => uInv_vals hS hR h hq hσ
  obtain ⟨a, b, c, d, e, g', w, sg⟩ := h
  have hm := List.getElem_mem hq
  have g1 := gn_nd hS (a _ hm).1
  have g2 := gn_nd hS (a _ hm).2
  have r1 := gn_rng hS g1
  have r2 := gn_rng hS g2
  have gf : gn cd V f := by rw [hf]; exact b _ g1
  have gg : gn cd V g := by rw [hg]; exact b _ g2
  have rf : rt f = f := by rw [hf]; exact pR_idem hR r1.1 r1.2
  have rg : rt g = g := by rw [hg]; exact pR_idem hR r2.1 r2.2
  have cf := c f gf rf
  have cg := c g gg rg
  have idem : ∀ n, gn cd V n → rt (rt n) = rt n := fun n hn => by
    have := gn_rng hS hn
    exact pR_idem hR this.1 this.2
  have kold : ∀ (f0 : Int → List Int) (P' : List (Int × Int)), kept cd V (fun n => if rt n = g then f else rt n) P' f0 → (∀ pq ∈ P, pq ∈ P') → kept cd V rt P f0 := by
    intro f0 P' hk hPP
    refine ⟨fun n hn => ?_, fun pq hpq => hk.2 pq (hPP pq hpq)⟩
    have h1 := hk.1 n hn
    have h2 := hk.1 (rt n) (b n hn)
    dsimp only at h1 h2
    rw [idem n hn] at h2
    rw [h1, h2]
  -- the schema of the new kind
  have sch_f : sch f ≠ -1 → bU sch f (if sch f = -1 then sch g else sch f) f = sch f := fun h => by unfold bU; rw [if_pos rfl, if_neg h]
  have sch_g : sch f = -1 → bU sch f (if sch f = -1 then sch g else sch f) f = sch g := fun h => by unfold bU; rw [if_pos rfl, if_pos h]
  have sch_o : ∀ n, n ≠ f → bU sch f (if sch f = -1 then sch g else sch f) n = sch n := fun n h => by unfold bU; rw [if_neg h]
  refine ⟨?_, ?_, ?_, ?_, ?_, ?_, ?_, ?_⟩
  · intro pq hpq
    rcases List.mem_append.mp hpq with h1 | h1
    · exact a pq h1
    · by_cases hc : sch f = -1 ∨ sch g = -1
      · rw [if_pos hc] at h1; cases h1
      · rw [if_neg hc] at h1
        have hc1 : sch f ≠ -1 := fun h => hc (Or.inl h)
        have hc2 : sch g ≠ -1 := fun h => hc (Or.inr h)
        obtain ⟨k, hk, rfl⟩ := List.mem_map.mp h1
        rw [List.mem_range] at hk
        obtain ⟨-, v1, -⟩ := (hS.2 _ (cf.resolve_left hc1).1).2.2.2.2 k hk
        obtain ⟨-, v2, -⟩ := (hS.2 _ (cg.resolve_left hc2).1).2.2.2.2 k (by rw [← hcd hc1 hc2]; exact hk)
        exact ⟨v1, v2⟩
  · intro n hn
    dsimp only
    split
    · exact gf
    · exact b n hn
  · intro n hn hr
    dsimp only at hr ⊢
    have hrn : rt n ≠ g := fun h => by
      rw [if_pos h] at hr
      subst hr
      exact hne (by rw [← h, rf])
    rw [if_neg hrn] at hr
    by_cases hnf : n = f
    · subst hnf
      by_cases hs : sch n = -1
      · rw [sch_g hs]
        rcases cg with h1 | h1
        · exact Or.inl h1
        · refine Or.inr ⟨h1.1, h1.2.1, ?_⟩
          rw [if_pos h1.2.2]
      · rw [sch_f hs]
        have h1 := cf.resolve_left hs
        refine Or.inr ⟨h1.1, h1.2.1, ?_⟩
        rw [if_neg (by rw [h1.2.2]; exact hne), h1.2.2]
    · rw [sch_o n hnf]
      rcases c n hn hr with h1 | h1
      · exact Or.inl h1
      · refine Or.inr ⟨h1.1, h1.2.1, ?_⟩
        rw [if_neg (by rw [h1.2.2, ← hr]; exact hrn), h1.2.2]
  · intro n hn h0
    have hd := d n hn h0
    dsimp only
    by_cases hr : rt n = g
    · rw [if_pos hr]
      rw [hr] at hd
      by_cases hs : sch f = -1
      · rw [sch_g hs]; exact hd
      · rw [sch_f hs]
        exact ⟨hs, by rw [hcd hs hd.1]; exact hd.2⟩
    · rw [if_neg hr]
      by_cases hrf : rt n = f
      · rw [hrf] at hd ⊢
        rw [sch_f hd.1]
        exact hd
      · rw [sch_o _ hrf]; exact hd
  · intro f0 hk n hn h0 k hkk
    have hd := d n hn h0
    have hko := kold f0 _ hk (fun pq h => List.mem_append_left _ h)
    have he := e f0 hko n hn h0 k hkk
    dsimp only
    by_cases hr : rt n = g
    · rw [if_pos hr]
      rw [hr] at hd he
      by_cases hs : sch f = -1
      · rw [sch_g hs]; exact he
      · rw [sch_f hs, he]
        have hc : ¬ (sch f = -1 ∨ sch g = -1) := fun h => h.elim hs hd.1
        have := hk.2 (kp ar T (sch f) k, kp ar T (sch g) k) (by
          rw [if_neg hc]
          exact List.mem_append_right _ (List.mem_map.mpr ⟨k, List.mem_range.mpr (by rw [hcd hs hd.1, hd.2]; exact hkk), rfl⟩))
        exact this.symm
    · rw [if_neg hr]
      by_cases hrf : rt n = f
      · rw [hrf] at hd he ⊢
        rw [sch_f hd.1]
        exact he
      · rw [sch_o _ hrf]; exact he
  · intro j hj hjq
    have hjP : j < P.length := by omega
    rw [List.getElem_append_left hjP]
    dsimp only
    by_cases hjj : j = q
    · subst hjj
      rw [← hf, ← hg, if_pos rfl, if_neg hne]
    · rw [g' j hjP (by omega)]
  · obtain ⟨w, w1, w2⟩ := w
    have rngf := gn_rng hS gf
    have rngg := gn_rng hS gg
    have hroot : ∀ n, (if rt n = g then f else rt n) = n → rt n = n ∧ n ≠ g := fun n hr => by
      by_cases h : rt n = g
      · rw [if_pos h] at hr
        subst hr
        exact absurd (by rw [← h, rf]) hne
      · rw [if_neg h] at hr
        exact ⟨hr, fun h2 => h (by rw [hr]; exact h2)⟩
    by_cases hs : sch f = -1
    · -- the second one's schema goes over
      refine ⟨fun k => if k = g.toNat then 0 else (if k = f.toNat then w g.toNat else w k), ?_, ?_⟩
      · rw [if_pos (Or.inl hs), List.append_nil]
        have u1 := (rsum_upd w f.toNat (w g.toNat) 212).1 (by omega)
        have u2 := (rsum_upd (fun k => if k = f.toNat then w g.toNat else w k) g.toNat 0 212).1 (by omega)
        rw [if_neg (show ¬ g.toNat = f.toNat by omega)] at u2
        omega
      · intro n hn hr hsn
        obtain ⟨hr1, hr2⟩ := hroot n hr
        have rn := gn_rng hS hn
        dsimp only
        rw [if_neg (show ¬ n.toNat = g.toNat by omega)]
        by_cases hnf : n = f
        · subst hnf
          rw [sch_g hs] at hsn ⊢
          rw [if_pos rfl]
          exact w2 g gg rg hsn
        · rw [sch_o n hnf] at hsn ⊢
          rw [if_neg (show ¬ n.toNat = f.toNat by omega)]
          exact w2 n hn hr1 hsn
    · refine ⟨fun k => if k = g.toNat then 0 else w k, ?_, ?_⟩
      · have u2 := (rsum_upd w g.toNat 0 212).1 (by omega)
        by_cases hs2 : sch g = -1
        · rw [if_pos (Or.inr hs2), List.append_nil]
          omega
        · rw [if_neg (fun h => h.elim hs hs2), List.length_append]
          have := w2 g gg rg hs2
          have hpl : (pks ar T (sch f) (sch g) (ar (cd (sch f)))).length = ar (cd (sch f)) := by simp [pks]
          rw [hpl, hcd hs hs2]
          omega
      · intro n hn hr hsn
        obtain ⟨hr1, hr2⟩ := hroot n hr
        have rn := gn_rng hS hn
        dsimp only
        rw [if_neg (show ¬ n.toNat = g.toNat by omega)]
        by_cases hnf : n = f
        · subst hnf
          rw [sch_f hs] at hsn ⊢
          exact w2 n hn hr1 hsn
        · rw [sch_o n hnf] at hsn ⊢
          exact w2 n hn hr1 hsn
  · intro σ hσ
    obtain ⟨k1, k2⟩ := sg σ hσ
    have hv := hval σ hσ
    rw [← hf, ← hg] at hv
    refine ⟨fun n hn => ?_, fun pq hpq => ?_⟩
    · dsimp only
      by_cases hr : rt n = g
      · rw [if_pos hr, hv, ← hr]
        exact k1 n hn
      · rw [if_neg hr]
        exact k1 n hn
    · rcases List.mem_append.mp hpq with h1 | h1
      · exact k2 pq h1
      · by_cases hc : sch f = -1 ∨ sch g = -1
        · rw [if_pos hc] at h1; cases h1
        · rw [if_neg hc] at h1
          have hc1 : sch f ≠ -1 := fun h => hc (Or.inl h)
          have hc2 : sch g ≠ -1 := fun h => hc (Or.inr h)
          obtain ⟨k, hk, rfl⟩ := List.mem_map.mp h1
          rw [List.mem_range] at hk
          have c1 := cf.resolve_left hc1
          have c2 := cg.resolve_left hc2
          have v1 := k1 _ (Or.inr ⟨c1.1, c1.2.1⟩)
          have v2 := k1 _ (Or.inr ⟨c2.1, c2.2.1⟩)
          rw [c1.2.2, vv_pl hS σ c1.1] at v1
          rw [c2.2.2, vv_pl hS σ c2.1] at v2
          exact (vv_split hS (fun c hc => (hσ.1 c hc).1) c1.1 c2.1 c1.2.1 c2.2.1 (by rw [v1, v2, hv])).2 k hk
end KIN2
