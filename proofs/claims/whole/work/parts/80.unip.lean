/-! unify by nodes: what the steps need -/
section UP
variable {ar : Int → Nat} {pr : Int → Bool} {cs : List Int} {bk : Nat → Int}
theorem f_sub_ge1 {σ : Int → List Int} {l : List Int} {e : Int} (h : e ∈ l) (he : e < 0) : (σ e).length ≤ (f_sub σ l).length := by
  induction l with
  | nil => cases h
  | cons c l ih =>
    rw [f_sub_c, List.length_append]
    rcases List.mem_cons.mp h with rfl | h
    · rw [if_pos he]; omega
    · have := ih h
      omega
theorem kid_eq (X : uX ar pr cs bk) {σ : Int → List Int} (hg : gdS ar pr σ) {u w : Nat} (hu : u < cs.length) (hw : w < cs.length) (hc : cs[u] = cs[w]) (h : f_sub σ ((pre ar cs u (ar cs[u])).map (shv (bk u))) = f_sub σ ((pre ar cs w (ar cs[u])).map (shv (bk w)))) {i : Nat} (hi : i < ar cs[u]) : f_sub σ (tN ar cs bk (ap ar cs u i)) = f_sub σ (tN ar cs bk (ap ar cs w i)) := by
  obtain ⟨k, hk⟩ := X.1
  have hv := X.2.1
  have hwi : i < ar cs[w] := by rw [← hc]; exact hi
  obtain ⟨r1, e1⟩ := pre_le ar hk hu (i := i + 1) (n := ar cs[u]) (by omega) (Nat.le_refl _)
  obtain ⟨r2, e2⟩ := pre_le ar hk hw (i := i + 1) (n := ar cs[w]) (by omega) (Nat.le_refl _)
  rw [← hc] at e2
  rw [e1, e2, List.map_append, List.map_append, f_sub_app, f_sub_app] at h
  have hsw : ∀ {l : List Int} {j : Nat}, f_wf ar j l → f_wf ar j (f_sub σ l) := fun {l j} hl => f_sub_wf ar _ hv (fun c hc => (hg c hc).1) _ _ hl
  have h1 := (f_uniq ar (hsw (tP_wf X hu (i := i + 1) (by omega))) (hsw (tP_wf X hw (i := i + 1) (by omega))) h).1
  rw [tN_s X hu hi, tN_s X hw hwi, f_sub_app, f_sub_app] at h1
  exact (f_uniq ar (hsw (tP_wf X hu (i := i) (by omega))) (hsw (tP_wf X hw (i := i) (by omega))) h1).2
/-- a node that stands for itself -/
def drf (cs : List Int) (bk : Nat → Int) (vo : Int → Int) (n : Nat) : Prop := ∃ h : n < cs.length, 0 ≤ cs[n] ∨ (cs[n] < 0 ∧ vo (-1 - cs[n] + bk n) = -1)
theorem occ_no {vo : Int → Int} {th : Int → List Int} {ρ : Nat → Nat} {σ : Int → List Int} (X : uX ar pr cs bk) (h : uI ar pr cs bk vo th ρ) (hs : sat ar cs bk vo σ) {v : Int} (hv0 : 0 ≤ v) {y : Nat} (hy : y < cs.length) (hd : 0 ≤ cs[y] ∨ (cs[y] < 0 ∧ vo (-1 - cs[y] + bk y) = -1 ∧ -1 - cs[y] + bk y ≠ v)) (hm : (-1 - v) ∈ f_sub th (tN ar cs bk y)) : σ (-1 - v) ≠ f_sub σ (tN ar cs bk y) := by
  intro he
  rcases hd with hc | ⟨hc, hu, hne⟩
  · have h1 := sat_th X h hs _ y (Nat.lt_succ_self _) hy
    rw [sN_c X hy (by omega)] at hm h1
    rw [← he, f_sub_c, if_neg (by omega), List.singleton_append] at h1
    rcases List.mem_cons.mp hm with h2 | h2
    · omega
    · have h3 := f_sub_ge1 (σ := σ) h2 (by omega)
      rw [← h1, List.length_cons] at h3
      omega
  · rw [sN_u X h hy hc hu, List.mem_singleton] at hm
    omega
theorem f_sub_1 (σ : Int → List Int) {c : Int} (hc : c < 0) : f_sub σ [c] = σ c := by rw [f_sub_c, if_pos hc, f_sub_nil, List.append_nil]
end UP
