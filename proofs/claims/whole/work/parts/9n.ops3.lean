/-! the calls one by one: match, unify, rewrite, count -/
theorem f_sub_memx {σ : Int → List Int} {e : Int} : ∀ {l : List Int}, e ∈ f_sub σ l → ∃ d ∈ l, (d < 0 ∧ e ∈ σ d) ∨ (¬ d < 0 ∧ e = d) := by
  intro l
  induction l with
  | nil => intro h; cases h
  | cons d l ih =>
    intro h
    rw [f_sub_c] at h
    rcases List.mem_append.mp h with h | h
    · refine ⟨d, List.mem_cons_self, ?_⟩
      by_cases hd : d < 0
      · rw [if_pos hd] at h
        exact Or.inl ⟨hd, h⟩
      · rw [if_neg hd, List.mem_singleton] at h
        exact Or.inr ⟨hd, h⟩
    · obtain ⟨d', h1, h2⟩ := ih h
      exact ⟨d', List.mem_cons_of_mem _ h1, h2⟩
theorem f_sub_memv {σ : Int → List Int} {e d : Int} (h : 0 ≤ e) : ∀ {l : List Int}, e ∈ l → e ∈ f_sub σ l := by
  intro l
  induction l with
  | nil => intro h; cases h
  | cons a l ih =>
    intro h2
    rw [f_sub_c]
    rcases List.mem_cons.mp h2 with h2 | h2
    · refine List.mem_append_left _ ?_
      rw [← h2, if_neg (by omega)]
      exact List.mem_singleton.mpr rfl
    · exact List.mem_append_right _ (ih h2)
theorem f_sub_mapg {σ : Int → List Int} {ρ : Int → Int} : ∀ {l : List Int}, (∀ c ∈ l, ¬ c < 0 → ρ c = c) → f_sub (fun c => (σ c).map ρ) l = (f_sub σ l).map ρ := by
  intro l
  induction l with
  | nil => intro _; rfl
  | cons a l ih =>
    intro h
    rw [f_sub_c, f_sub_c, List.map_append, ih (fun c hc => h c (List.mem_cons_of_mem _ hc))]
    congr 1
    by_cases ha : a < 0
    · rw [if_pos ha, if_pos ha]
    · rw [if_neg ha, if_neg ha, List.map_singleton, h a List.mem_cons_self ha]
/-- a most general value has no symbol that isn't there -/
theorem mgu_codes {ar : Int → Nat} {pr : Int → Bool} {s t : List Int} {θ : Int → List Int} (h : mgu ar pr s t θ) {g : Int} (hg : 0 ≤ g) (har : ar g = 0) (hv : ar (-1) = 0) (hp : pr (-1) = false) (hs : g ∉ s) (ht : g ∉ t) (hb : ∀ c ∈ s, -12 ≤ c) : g ∉ f_sub θ s := by
  intro hm
  obtain ⟨d, hd, ⟨hd0, he⟩ | ⟨hd0, he⟩⟩ := f_sub_memx hm
  · have hρ : ∀ c, ar ((fun c => if c = g then -1 else c) c) = ar c := fun c => by
      show ar (if c = g then -1 else c) = ar c
      by_cases hc : c = g
      · rw [if_pos hc, hc, har, hv]
      · rw [if_neg hc]
    have hgu : gu ar pr s t (fun c => (θ c).map (fun c => if c = g then -1 else c)) := by
      refine ⟨fun c hc => ⟨f_wf_map ar _ hρ _ _ (h.1.1 c hc).1, ?_⟩, ?_⟩
      · have h2 := (h.1.1 c hc).2
        have h3 := f_wf_ne ar (h.1.1 c hc).1
        show pr (((θ c).map (fun c => if c = g then -1 else c)).headD 0) = false
        generalize θ c = X at h2 h3 ⊢
        cases X with
        | nil => exact absurd rfl h3
        | cons x X =>
          show pr (if x = g then -1 else x) = false
          by_cases hx : x = g
          · rw [if_pos hx]; exact hp
          · rw [if_neg hx]; exact h2
      · have h1 : ∀ l : List Int, g ∉ l → f_sub (fun c => (θ c).map (fun c => if c = g then -1 else c)) l = (f_sub θ l).map (fun c => if c = g then -1 else c) := fun l hl => f_sub_mapg (fun c hc _ => by
          show (if c = g then -1 else c) = c
          rw [if_neg (fun h9 => hl (by rw [← h9]; exact hc))])
        rw [h1 s hs, h1 t ht, h.1.2]
    have h4 := h.2 _ hgu d (hb d hd) hd0
    have h5 : g ∈ f_sub (fun c => (θ c).map (fun c => if c = g then -1 else c)) (θ d) := f_sub_memv (d := 0) hg he
    rw [h4] at h5
    obtain ⟨x, -, hx⟩ := List.mem_map.mp h5
    by_cases hxg : x = g
    · rw [if_pos hxg] at hx
      omega
    · rw [if_neg hxg] at hx
      exact hxg hx
  · exact hs (by rw [he]; exact hd)
theorem uAns_codes {I : sI} {ns : Int} {s t out : List Int} {r : Int} (hz : ∀ e, ns ≤ e → I 3 e = 0) (hs : ∀ e ∈ s, -12 ≤ e ∧ e < ns) (ht : ∀ e ∈ t, e < ns) (h : uAns (hArt I) (hPr I) s t r out) (hr : r = 1) (hns : 0 ≤ ns) : ∀ e ∈ out, -6 ≤ e ∧ e < ns := by
  rcases h with ⟨h, -⟩ | ⟨θ, h1, ⟨h, -⟩ | ⟨-, -, h6, ho⟩⟩
  · omega
  · omega
  · intro e he
    rw [ho] at he
    unfold canon at he
    obtain ⟨x, hx, rfl⟩ := List.mem_map.mp he
    unfold cv
    by_cases hx0 : x < 0
    · rw [if_pos hx0]
      have hm : x ∈ nml [] (f_sub θ s) := (nml_mem _ _ _).mpr (Or.inr ⟨hx, hx0⟩)
      have := List.idxOf_lt_length_of_mem hm
      omega
    · rw [if_neg hx0]
      refine ⟨by omega, Decidable.byContradiction (fun h9 => ?_)⟩
      have hA : hArt I x = 0 := by
        unfold hArt
        rw [if_neg hx0, hz x (by omega)]
        rfl
      exact mgu_codes h1 (by omega) hA (by unfold hArt; rw [if_pos (by omega)]) (by unfold hPr; rfl) (fun h => by have := hs x h; omega) (fun h => by have := ht x h; omega) (fun c hc => (hs c hc).1) hx
theorem rwR_codes {ar : Int → Nat} {pr : Int → Bool} {ls ts : List Int} {P : Int → Prop} (ht : ∀ e ∈ ts, 0 ≤ e → P e) : ∀ {f : Nat} {ss : List Int} {n : Nat} {w : List Int}, rwR ar pr ls ts f ss n w → (∀ e ∈ ss, P e) → (∀ e ∈ w, P e) ∧ n ≤ f := by
  intro f
  induction f with
  | zero =>
    intro ss n w h hs
    rw [h.2]
    exact ⟨hs, by have := h.1; omega⟩
  | succ f ih =>
    intro ss n w h hs
    rcases h with ⟨a1, a2, a3⟩ | ⟨p, bb, m, a1, a2, a3, a4, a5⟩
    · rw [a2]
      exact ⟨hs, by omega⟩
    · obtain ⟨b1, b2⟩ := ih a5 (fun e he => by
        unfold spl at he
        rcases List.mem_append.mp he with he | he
        · exact hs e (List.mem_of_mem_take he)
        · rcases List.mem_append.mp he with he | he
          · obtain ⟨d, hd, ⟨hd0, he2⟩ | ⟨hd0, he2⟩⟩ := f_sub_memx he
            · exact hs e (f_s_mem he2)
            · rw [he2]
              exact ht d hd (by omega)
          · exact hs e (List.mem_of_mem_drop he))
      exact ⟨b1, by omega⟩
section COP3
variable {l : Launch} {G : sG} {L : Nat} {c : Nat} {I : sI}
def opQB (l : Launch) (G : sG) (L c : Nat) (I : sI) (M : sM) (as : List sV) (B : Int → Prop) : Int → sI → Prop := fun k I1 => I1 0 = I 0 ∧ sCall l G M (sRm 404 0) (.inr (.inl 84) :: as) (hS L 1 I1) (qE L 1 (fun q I2 => I2 84 0 = k ∧ (k = 0 → I2 124 0 = q ∧ B q) ∧ J (c + 1) I2 ∧ I2 0 = I 0))
theorem op_ofB {M ML : sM} {as as2 : List sV} {kk : Nat} {f : Nat → Int} {P : Int ⊕ Nat → sI → Prop} (hf : ∀ n, f n ≠ 0) (B : Int → Prop) (hB : ∀ v I0, P (.inl v) I0 → B v) (hcall : sCall l G ML (sRm 8 kk) as (hS L 1 I) (qE L 1 (wQ f P)))
    (hst : ∀ r I0, P r I0 → I0 0 = I 0 ∧ ∀ I1, (∀ w, w ≠ 124 → I1 w = I0 w) → sCall l G M (sRm 404 0) (.inr (.inl 84) :: as2) (hS L 1 I1) (qE L 1 (stQ f c r I0 I1))) : sCall l G ML (sRm 8 kk) as (hS L 1 I) (qE L 1 (opQB l G L c I M as2 B)) := by
  refine sCall_mono hcall (fun r S' h => ?_)
  obtain ⟨k, I1, rfl, rfl, r0, I0, hP, hk⟩ := h
  obtain ⟨h0, h1⟩ := hst r0 I0 hP
  refine ⟨k, I1, rfl, rfl, ?_⟩
  have h124 : ∀ w, w ≠ 124 → I1 w = I0 w := fun w hw => by
    rcases hk with ⟨v, -, -, e⟩ | ⟨n, -, -, e⟩
    · rw [e, sU_ne hw]
    · rw [e]
  refine ⟨by rw [h124 0 (by omega)]; exact h0, sCall_mono (h1 I1 h124) (fun r2 S2 h2 => ?_)⟩
  obtain ⟨q, I2, rfl, rfl, a1, a2, rw, sl, sub, mo, lv, b1, b2⟩ := h2
  have e2 : ∀ w, w < 84 → I2 w = I0 w := fun w hw => by rw [a2 w (by omega), h124 w (by omega)]
  refine ⟨q, I2, rfl, rfl, ?_, fun hk0 => ?_, ⟨rw, sl, sub, mo, lv, JB_84 b1 e2, ?_⟩, by rw [e2 0 (by omega)]; exact h0⟩
  · rcases hk with ⟨v, e, ek, -⟩ | ⟨n, e, ek, -⟩
    · subst e
      rw [ek]
      exact a1.1
    · subst e
      rw [ek]
      exact a1
  · rcases hk with ⟨v, e, ek, ei⟩ | ⟨n, e, ek, -⟩
    · subst e
      rw [a2 124 (by omega), ei, hU_eq]
      exact ⟨a1.2.symm, by rw [a1.2]; exact hB v I0 hP⟩
    · exact absurd (ek.symm.trans hk0) (hf n)
  · rw [hArt_eq (e2 3 (by omega)), hPr_eq (e2 4 (by omega)), e2 2 (by omega), e2 1 (by omega)]
    exact b2
theorem op_ma (hl : l.stackTraces = false) (hJ : J c I) {a b : Int} (ha : sR a) (hb : sR b) : sCall l G mL_match (sRm 8 2) [.inr (.inl 1), .inl a, .inl b, .inr (.inl 124)] (hS L 1 I) (qE L 1 (opQB l G L c I mM_match [.inl a, .inl b] (fun v => v = 0 ∨ v = 1))) := by
  obtain ⟨rw, sl, sub, mo, lv, hB, hR⟩ := hJ
  have hB' := hB
  obtain ⟨g1, g2, g3, g4, g5, g6, g7⟩ := hB'
  refine op_ofB (fN_ne 0 1 1 (by decide) (by decide)) (fun v => v = 0 ∨ v = 1) (fun v I' h => ?_) (c_L_ma (d := 7) ha hb (c_B_match (d := 0) hl (by decide) g3 ha hb) (fun n I' h => ?_) (fun v I' h => ?_)) (fun r I0 hP => ?_)
  · rcases h with ⟨h, -⟩ | ⟨-, -, v', h, ⟨h1, -⟩ | ⟨h1, -⟩⟩
    · cases h
    · cases h; exact Or.inl h1
    · cases h; exact Or.inr h1
  · rcases h with ⟨h, -⟩ | ⟨-, -, v, h, -⟩
    · cases h; rfl
    · cases h
  · rcases h with ⟨h, -⟩ | ⟨-, -, v', h, ⟨h1, -⟩ | ⟨h1, -⟩⟩
    · cases h
    · cases h; exact Or.inl h1
    · cases h; exact Or.inr h1
  · have hRc : ∀ I1, (∀ w, 84 ≤ w → w ≤ 123 → I1 w = I w) → sCall l G mM_match (sRm 404 0) [.inr (.inl 84), .inl a, .inl b] (hS L 1 I1) _ := fun I1 h1 => c_R_mt (d := 202) (rS_fr hR h1) (JB_wS hB) ha hb
    rcases hP with ⟨hr, hI, hc⟩ | ⟨ca, cb, v, hr, ⟨hv, hm, hw⟩ | ⟨hv, e, bb, hm, hbo, h69, h70, hw⟩⟩
    · rw [hr, hI]
      refine ⟨rfl, fun I1 h124 => sCall_mono (hRc I1 (fun w g1 g2 => h124 w (by omega))) (fun r S' h => ?_)⟩
      obtain ⟨q, I2, rfl, rfl, hfr, h⟩ := h
      refine ⟨q, I2, rfl, rfl, ?_⟩
      rcases h with ⟨t, -, -, hS⟩ | ⟨t, c1, c2, -⟩
      · exact ⟨t, hfr, rw, sl, sub, mo, lv, JB_mono hB, hS⟩
      · exact absurd ⟨c1, c2⟩ hc
    · rw [hr]
      refine ⟨hw 0 (by omega), fun I1 h124 => sCall_mono (hRc I1 (fun w g1 g2 => by rw [h124 w (by omega), hw w (by omega)])) (fun r S' h => ?_)⟩
      obtain ⟨q, I2, rfl, rfl, hfr, h⟩ := h
      refine ⟨q, I2, rfl, rfl, ?_⟩
      rcases h with ⟨t, -, hc, -⟩ | ⟨t, -, -, ⟨hq, -, hS⟩ | ⟨hq, e, bb, hm2, -⟩⟩
      · exact absurd ⟨ca, cb⟩ hc
      · refine ⟨⟨t, by rw [hq, hv]⟩, hfr, rw, sl, sub, mo, lv, JB_mono (JB_fr hB (hw _ (by omega)) (hw _ (by omega)) (hw _ (by omega)) (hw _ (by omega)) (fun w _ _ => hw w (by omega)) (hw _ (by omega)) (hw _ (by omega)) (hw _ (by omega)) (hw _ (by omega)) (hw _ (by omega)) (hw _ (by omega))), ?_⟩
        rw [hArt_eq (hw 3 (by omega)), hPr_eq (hw 4 (by omega)), hw 2 (by omega), hw 1 (by omega)]
        exact hS
      · rw [hm] at hm2
        cases hm2
    · rw [hr]
      have hw2 : ∀ w, (w < 67 ∨ 72 < w) → I0 w = I w := fun w h => hw w (by omega) (by omega) (by omega) (by omega) (by omega)
      have eA : hArt I0 = hArt I := hArt_eq (hw2 3 (by omega))
      have eP : hPr I0 = hPr I := hPr_eq (hw2 4 (by omega))
      refine ⟨hw2 0 (by omega), fun I1 h124 => sCall_mono (hRc I1 (fun w g1 g2 => by rw [h124 w (by omega), hw2 w (by omega)])) (fun r S' h => ?_)⟩
      obtain ⟨q, I2, rfl, rfl, hfr, h⟩ := h
      refine ⟨q, I2, rfl, rfl, ?_⟩
      rcases h with ⟨t, -, hc, -⟩ | ⟨t, -, -, ⟨hq, hm2, hS⟩ | ⟨hq, e2, bb2, hm2, -, hS⟩⟩
      · exact absurd ⟨ca, cb⟩ hc
      · rw [hm] at hm2
        cases hm2
      · rw [hm] at hm2
        cases hm2
        have hB0 : JB c I0 rw sl (sl b) 1 (lvO (hArt I) (sl b) bb) := by
          refine ⟨alf_fr g1 (hw2 _ (by omega)) (hw2 _ (by omega)) (hw2 _ (by omega)), by rw [hw2 2 (by omega), hw2 3 (by omega)]; exact g2, hSl_fr g3 (hw2 _ (by omega)) (hw2 _ (by omega)) (fun w w1 w2 => hw2 w (by omega)), ⟨tm_upd g4.1 (hw2 _ (by omega)) (hw2 _ (by omega)), by rw [eA, hw2 1 (by omega)]; exact g4.2.1, by rw [hw2 1 (by omega)]; exact g4.2.2.1, by rw [hw2 1 (by omega), hw2 54 (by omega)]; exact g4.2.2.2.1, ?_⟩, ⟨h70, ?_, ?_⟩, ⟨Or.inr rfl, fun h => by omega, fun v v0 v1 => ?_⟩, by rw [hw2 1 (by omega)]; exact g7⟩
          · intro e' h'
            rw [hw2 2 (by omega)]
            exact g4.2.2.2.2 e' h'
          · intro e' h'
            rw [hw2 2 (by omega)]
            exact (g3 b cb).2 e' h'
          · intro k k0 k1
            rw [h69 k k0 k1]
            exact hbo k k0 k1
          · rw [eA]
            unfold lvO
            rw [h69 v v0 v1]
        refine ⟨⟨t, by rw [hq, hv]⟩, hfr, rw, sl, sl b, 1, _, JB_mono hB0, ?_⟩
        rw [eA, eP, hw2 2 (by omega), hw2 1 (by omega)]
        exact hS
theorem op_un (hl : l.stackTraces = false) (hJ : J c I) {z a b e : Int} (hz : sR z) (ha : sR a) (hb : sR b) (he : e = 0 ∨ e = 1) : sCall l G mL_unify (sRm 8 3) [.inr (.inl 1), .inl z, .inl a, .inl b, .inl e, .inr (.inl 124)] (hS L 1 I) (qE L 1 (opQ l G L c I mM_unify [.inl z, .inl a, .inl b, .inl e])) := by
  obtain ⟨rw, sl, sub, mo, lv, hB, hR⟩ := hJ
  have hB' := hB
  obtain ⟨g1, g2, g3, g4, g5, g6, g7⟩ := hB'
  refine op_of (fN_ne 0 1 1 (by decide) (by decide)) (c_L_un (d := 7) hz ha hb (sR_01 he) (c_B_unify (d := 0) hl (by decide) g1 g3 hz ha hb he) (fun n I' h => ?_)) (fun r I0 hP => ?_)
  · rcases h with ⟨h, -⟩ | ⟨-, -, -, v, h, -⟩
    · cases h; rfl
    · cases h
  · have hRc : ∀ I1, (∀ w, 84 ≤ w → w ≤ 123 → I1 w = I w) → sCall l G mM_unify (sRm 404 0) [.inr (.inl 84), .inl z, .inl a, .inl b, .inl e] (hS L 1 I1) _ := fun I1 h1 => c_R_uf (d := 0) (rS_fr hR h1) (JB_wS hB) hz ha hb he
    rcases hP with ⟨hr, hI, hc⟩ | ⟨cz, ca, cb, v, hr, out, hu, hw, ht⟩
    · rw [hr, hI]
      refine ⟨rfl, fun I1 h124 => sCall_mono (hRc I1 (fun w g1 g2 => h124 w (by omega))) (fun r S' h => ?_)⟩
      obtain ⟨q, I2, rfl, rfl, hfr, h⟩ := h
      refine ⟨q, I2, rfl, rfl, ?_⟩
      rcases h with ⟨t, -, hS⟩ | ⟨t, c1, c2, c3, -⟩
      · exact ⟨t, hfr, rw, sl, sub, mo, lv, JB_mono hB, hS⟩
      · exact absurd ⟨c1, c2, c3⟩ hc
    · rw [hr]
      have cz' := cz
      unfold okS at cz'
      have hw2 : ∀ w, (w < 6 ∨ (54 ≤ w ∧ w < 57) ∨ (63 ≤ w ∧ w < 75) ∨ 83 < w) → I0 w = I w := fun w h => hw w (by omega) (by omega) (fun _ => by omega)
      have eA : hArt I0 = hArt I := hArt_eq (hw2 3 (by omega))
      have eP : hPr I0 = hPr I := hPr_eq (hw2 4 (by omega))
      refine ⟨hw2 0 (by omega), fun I1 h124 => sCall_mono (hRc I1 (fun w g1 g2 => by rw [h124 w (by omega), hw2 w (by omega)])) (fun r S' h => ?_)⟩
      obtain ⟨q, I2, rfl, rfl, hfr, h⟩ := h
      refine ⟨q, I2, rfl, rfl, ?_⟩
      rcases h with ⟨t, hc, -⟩ | ⟨t, -, -, -, out2, hu2, hS0, hS1⟩
      · exact absurd ⟨cz, ca, cb⟩ hc
      · obtain ⟨eq1, eq2⟩ := uAns_uniq (fun c hc => by have := (g3 a ca).2 c hc; omega) hu hu2
        by_cases hv1 : v = 1
        · have eo := eq2 hv1
          subst eo
          have hco : cOkc I out := uAns_codes g2 (fun e' h' => by have := (g3 a ca).2 e' h'; omega) (fun e' h' => by
            obtain ⟨x, hx, rfl⟩ := List.mem_map.mp h'
            have := (g3 b cb).2 x hx
            have := g1.1
            unfold shv
            split <;> (try split) <;> omega) hu hv1 g1.1.1
          have hB0 : JB c I0 rw (slU sl z out) sub mo lv := by
            refine ⟨alf_fr g1 (hw2 _ (by omega)) (hw2 _ (by omega)) (hw2 _ (by omega)), by rw [hw2 2 (by omega), hw2 3 (by omega)]; exact g2, hSl_set g3 (hw2 _ (by omega)) (hw2 _ (by omega)) cz (fun w w1 w2 w3 w4 w5 => hw w (by omega) (by omega) (fun _ => ⟨w3, w4, w5⟩)) (ht hv1) hco, ⟨tm_upd g4.1 (hw2 _ (by omega)) (hw2 _ (by omega)), by rw [eA, hw2 1 (by omega)]; exact g4.2.1, by rw [hw2 1 (by omega)]; exact g4.2.2.1, by rw [hw2 1 (by omega), hw2 54 (by omega)]; exact g4.2.2.2.1, ?_⟩, ⟨tw_upd g5.1 (hw2 _ (by omega)) (hw2 _ (by omega)) (hw2 _ (by omega)) (hw2 _ (by omega)), ?_, by rw [hw2 69 (by omega)]; exact g5.2.2⟩, by rw [hw2 69 (by omega), eA]; exact g6, by rw [hw2 1 (by omega)]; exact g7⟩
            · intro e' h'
              rw [hw2 2 (by omega)]
              exact g4.2.2.2.2 e' h'
            · intro e' h'
              rw [hw2 2 (by omega)]
              exact g5.2.1 e' h'
          refine ⟨⟨t, eq1.symm⟩, hfr, rw, slU sl z out, sub, mo, lv, JB_mono hB0, ?_⟩
          rw [eA, eP, hw2 2 (by omega), hw2 1 (by omega)]
          exact hS1 (by omega)
        · have hw3 : ∀ w, (w < 57 ∨ (63 ≤ w ∧ w < 75) ∨ 83 < w) → I0 w = I w := fun w h => hw w (by omega) (by omega) (fun h => absurd h hv1)
          refine ⟨⟨t, eq1.symm⟩, hfr, rw, sl, sub, mo, lv, JB_mono (JB_fr hB (hw3 _ (by omega)) (hw3 _ (by omega)) (hw3 _ (by omega)) (hw3 _ (by omega)) (fun w _ _ => hw3 w (by omega)) (hw3 _ (by omega)) (hw3 _ (by omega)) (hw3 _ (by omega)) (hw3 _ (by omega)) (hw3 _ (by omega)) (hw3 _ (by omega))), ?_⟩
          rw [eA, eP, hw2 2 (by omega), hw2 1 (by omega)]
          exact hS0 (by omega)
theorem op_rw (hl : l.stackTraces = false) (hJ : J c I) (hc10 : c ≤ 10000) {z a b u : Int} (hz : sR z) (ha : sR a) (hb : sR b) (hu : sR u) : sCall l G mL_rewrite (sRm 8 4) [.inr (.inl 1), .inl z, .inl a, .inl b, .inl u, .inr (.inl 124)] (hS L 1 I) (qE L 1 (opQ l G L c I mM_rewrite [.inl z, .inl a, .inl b, .inl u])) := by
  obtain ⟨rw, sl, sub, mo, lv, hB, hR⟩ := hJ
  have hB' := hB
  obtain ⟨g1, g2, g3, g4, g5, g6, g7⟩ := hB'
  have hnr : 0 ≤ I 1 12 ∧ I 1 12 ≤ 1000000 := ⟨g7.1, by have := g7.2; omega⟩
  refine op_of (fN_ne 0 1 1 (by decide) (by decide)) (c_L_rw (d := 7) hz ha hb hu (c_B_rewrite (d := 0) hl (by decide) g1 g3 hnr hz ha hb hu) (fun n I' h => ?_)) (fun r I0 hP => ?_)
  · rcases h with ⟨h, -⟩ | ⟨-, n', o, -, h, -⟩
    · cases h; rfl
    · cases h
  · have hRc : ∀ I1, (∀ w, 84 ≤ w → w ≤ 123 → I1 w = I w) → sCall l G mM_rewrite (sRm 404 0) [.inr (.inl 84), .inl z, .inl a, .inl b, .inl u] (hS L 1 I1) _ := fun I1 h1 => c_R_rw (d := 100) (rS_fr hR h1) (JB_wS hB) hnr hz ha hb hu
    rcases hP with ⟨hr, hI, hc⟩ | ⟨hc, n, o, hrw, hr, ht, h1k, h112, hw⟩
    · rw [hr, hI]
      refine ⟨rfl, fun I1 h124 => sCall_mono (hRc I1 (fun w g1 g2 => h124 w (by omega))) (fun r S' h => ?_)⟩
      obtain ⟨q, I2, rfl, rfl, hfr, h⟩ := h
      refine ⟨q, I2, rfl, rfl, ?_⟩
      rcases h with ⟨t, -, hS⟩ | ⟨t, c1, -⟩
      · exact ⟨t, hfr, rw, sl, sub, mo, lv, JB_mono hB, hS⟩
      · exact absurd c1 hc
    · rw [hr]
      obtain ⟨cz, ca, cb, cu⟩ := hc
      have cz' := cz
      unfold okS at cz'
      have hw2 : ∀ w, w ≠ 1 → (w < 6 ∨ (54 ≤ w ∧ w < 57) ∨ (68 ≤ w ∧ w < 74) ∨ 75 ≤ w) → I0 w = I w := fun w w1 h => hw w (by omega) (by omega) (by omega) w1 (by omega) (by omega) (by omega)
      have eA : hArt I0 = hArt I := hArt_eq (hw2 3 (by omega) (by omega))
      have eP : hPr I0 = hPr I := hPr_eq (hw2 4 (by omega) (by omega))
      have h13 : I0 1 3 = I 1 3 := h1k 3 (by omega)
      refine ⟨hw2 0 (by omega) (by omega), fun I1 h124 => sCall_mono (hRc I1 (fun w g1 g2 => by rw [h124 w (by omega), hw2 w (by omega) (by omega)])) (fun r S' h => ?_)⟩
      obtain ⟨q, I2, rfl, rfl, hfr, h⟩ := h
      refine ⟨q, I2, rfl, rfl, ?_⟩
      rcases h with ⟨t, hc, -⟩ | ⟨t, -, n2, o2, hrw2, hq, hS⟩
      · exact absurd ⟨cz, ca, cb, cu⟩ hc
      · obtain ⟨rfl, rfl⟩ := rwR_uniq hrw2 hrw
        obtain ⟨hco, hn60⟩ := rwR_codes (P := fun e => -6 ≤ e ∧ e < I 2 2) (fun e he _ => (g3 u cu).2 e he) hrw (fun e he => (g3 a ca).2 e he)
        have hB0 : JB (c + 1) I0 rw (slU sl z o2) sub mo lv := by
          refine ⟨alf_fr g1 (hw2 _ (by omega) (by omega)) (hw2 _ (by omega) (by omega)) (hw2 _ (by omega) (by omega)), by rw [hw2 2 (by omega) (by omega), hw2 3 (by omega) (by omega)]; exact g2, hSl_set g3 (hw2 _ (by omega) (by omega)) (hw2 _ (by omega) (by omega)) cz (fun w w1 w2 w3 w4 w5 => hw w (by omega) (by omega) (by omega) (by omega) w3 w4 w5) ht hco, ⟨tm_upd g4.1 (hw2 _ (by omega) (by omega)) (hw2 _ (by omega) (by omega)), by rw [eA, h13]; exact g4.2.1, by rw [h13]; exact g4.2.2.1, by rw [h13, hw2 54 (by omega) (by omega)]; exact g4.2.2.2.1, ?_⟩, ⟨tw_upd g5.1 (hw2 _ (by omega) (by omega)) (hw2 _ (by omega) (by omega)) (hw2 _ (by omega) (by omega)) (hw2 _ (by omega) (by omega)), ?_, by rw [hw2 69 (by omega) (by omega)]; exact g5.2.2⟩, by rw [hw2 69 (by omega) (by omega), eA]; exact g6, by rw [h112]; have := g7.1; have := g7.2; constructor <;> omega⟩
          · intro e' h'
            rw [hw2 2 (by omega) (by omega)]
            exact g4.2.2.2.2 e' h'
          · intro e' h'
            rw [hw2 2 (by omega) (by omega)]
            exact g5.2.1 e' h'
        refine ⟨⟨t, hq⟩, hfr, rw, slU sl z o2, sub, mo, lv, hB0, ?_⟩
        rw [eA, eP, hw2 2 (by omega) (by omega), h13, h112]
        exact hS
/-- count: the bench answers, then the reference -/
theorem op_ct (hJ : J c I) {a : Int} (ha : sR a) : ∃ v, sCall l G mB_count (sRm 8 0) [.inr (.inl 1), .inl a] (hS L 1 I) (qI L 1 v I) ∧ sCall l G mM_count (sRm 8 0) [.inr (.inl 84), .inl a] (hS L 1 I) (qE L 1 (fun q I2 => q = v ∧ J (c + 1) I2 ∧ I2 0 = I 0)) := by
  obtain ⟨rw, sl, sub, mo, lv, hB, hR⟩ := hJ
  refine ⟨_, c_B_count ha, sCall_mono (c_R_ct hR ha) (fun r S' h => ?_)⟩
  obtain ⟨q, I2, rfl, rfl, hfr, hq⟩ := h
  have hw : ∀ w, w < 84 → I2 w = I w := fun w h => scF_R hfr w (by omega)
  refine ⟨q, I2, rfl, rfl, ?_, ⟨rw, sl, sub, mo, lv, JB_mono (JB_84 hB hw), ?_⟩, hw 0 (by omega)⟩
  · rw [hq, hB.2.2.2.1.1.1]
  · rw [hArt_eq (hw 3 (by omega)), hPr_eq (hw 4 (by omega)), hw 2 (by omega), hw 1 (by omega)]
    exact rS_upd hR hfr
end COP3
