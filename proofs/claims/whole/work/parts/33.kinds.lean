/-! Unifier: what holds of the kinds, purely -/
def nd (cd : Int → Int) (p : Int) : Int := if cd p < 0 then 199 - cd p else p
def gn (cd : Int → Int) (V : Int → Prop) (n : Int) : Prop := (200 ≤ n ∧ n < 212) ∨ (V n ∧ 0 ≤ cd n)
def vv (σ : Int → List Int) (T : Int → List Int) (n : Int) : List Int := if n < 200 then f_sub σ (T n) else σ (199 - n)
def kept (cd : Int → Int) (V : Int → Prop) (rt : Int → Int) (P : List (Int × Int)) (f : Int → List Int) : Prop := (∀ n, gn cd V n → f n = f (rt n)) ∧ ∀ pq ∈ P, f (nd cd pq.1) = f (nd cd pq.2)
/-- good values that make two rows the same -/
def gu (ar : Int → Nat) (pr : Int → Bool) (s t : List Int) (σ : Int → List Int) : Prop := (∀ c, c < 0 → f_wf ar 1 (σ c) ∧ pr ((σ c).headD 0) = false) ∧ f_sub σ s = f_sub σ t
def uS (ar : Int → Nat) (cd : Int → Int) (V : Int → Prop) (T : Int → List Int) : Prop := (∀ c, c < 0 → ar c = 0) ∧ ∀ p, V p → cd p = (T p).headD 0 ∧ f_wf ar 1 (T p) ∧ (0 ≤ p ∧ p < 200) ∧ (-12 ≤ cd p ∧ cd p < 40) ∧ (∀ k, k < ar (cd p) → ∃ h : k < (ka ar (T p)).length, V (kp ar T p k) ∧ T (kp ar T p k) = (ka ar (T p))[k])
def rsum (w : Nat → Nat) : Nat → Nat
  | 0 => 0
  | n + 1 => rsum w n + w n
theorem rsum_upd (w : Nat → Nat) (a v : Nat) : ∀ n, (a < n → rsum (fun k => if k = a then v else w k) n + w a = rsum w n + v) ∧ (n ≤ a → rsum (fun k => if k = a then v else w k) n = rsum w n) := by
  intro n
  induction n with
  | zero => exact ⟨fun h => by omega, fun _ => rfl⟩
  | succ n ih =>
    constructor
    · intro h
      simp only [rsum]
      by_cases hn : n = a
      · subst hn
        rw [ih.2 (Nat.le_refl _), if_pos rfl]
        omega
      · have := ih.1 (by omega)
        rw [if_neg hn]
        omega
    · intro h
      simp only [rsum]
      rw [ih.2 (by omega), if_neg (by omega)]
def pR (par rt : Int → Int) (hh : Int → Nat) (q : Nat) : Prop := ∀ n, 0 ≤ n → n < 212 → (0 ≤ par n ∧ par n < 212) ∧ (par n = n → rt n = n ∧ hh n = 0) ∧ (par n ≠ n → rt n = rt (par n) ∧ hh n = hh (par n) + 1) ∧ hh n ≤ q ∧ (0 ≤ rt n ∧ rt n < 212 ∧ par (rt n) = rt n)
theorem pR_idem {par rt : Int → Int} {hh : Int → Nat} {q : Nat} (h : pR par rt hh q) {n : Int} (h0 : 0 ≤ n) (h1 : n < 212) : rt (rt n) = rt n := by
  obtain ⟨a, b, c⟩ := (h n h0 h1).2.2.2.2
  exact ((h (rt n) a b).2.1 c).1
theorem pR_join {par rt : Int → Int} {hh : Int → Nat} {q : Nat} (h : pR par rt hh q) {f g : Int} (hf : 0 ≤ f ∧ f < 212) (hf' : rt f = f) (hg' : rt g = g) (hg : 0 ≤ g ∧ g < 212) (hne : f ≠ g) : pR (bU par g f) (fun n => if rt n = g then f else rt n) (fun n => if rt n = g then hh n + 1 else hh n) (q + 1) := by
  intro n n0 n1
  obtain ⟨a1, a2, a3, a4, a5, a6, a7⟩ := h n n0 n1
  have pf : par f = f := by
    have := (h f hf.1 hf.2).2.2.2.2.2.2
    rw [hf'] at this
    exact this
  have pg : par g = g := by
    have := (h g hg.1 hg.2).2.2.2.2.2.2
    rw [hg'] at this
    exact this
  have hf0 := ((h f hf.1 hf.2).2.1 pf).2
  have hg0 := ((h g hg.1 hg.2).2.1 pg).2
  dsimp only
  unfold bU
  refine ⟨?_, ?_, ?_, ?_, ?_⟩
  · split <;> omega
  · intro e
    by_cases hng : n = g
    · rw [if_pos hng] at e
      omega
    · rw [if_neg hng] at e
      have := a2 e
      rw [if_neg (by omega), if_neg (by omega)]
      exact this
  · intro e
    by_cases hng : n = g
    · subst hng
      rw [if_pos rfl, if_pos hg', if_pos hg', if_neg (by omega), if_neg (by omega)]
      omega
    · rw [if_neg hng] at e ⊢
      have := a3 e
      rw [this.1]
      refine ⟨rfl, ?_⟩
      split <;> omega
  · split <;> omega
  · by_cases hr : rt n = g
    · rw [if_pos hr, if_neg hne]
      exact ⟨hf.1, hf.2, pf⟩
    · rw [if_neg hr, if_neg hr]
      exact ⟨a5, a6, a7⟩
section KIN
variable {ar : Int → Nat} {pr : Int → Bool} {cd : Int → Int} {V : Int → Prop} {T : Int → List Int}
theorem gn_nd (hS : uS ar cd V T) {p : Int} (hp : V p) : gn cd V (nd cd p) := by
  have := hS.2 p hp
  unfold nd gn
  by_cases h : cd p < 0
  · rw [if_pos h]; left; omega
  · rw [if_neg h]; right; exact ⟨hp, by omega⟩
theorem gn_rng (hS : uS ar cd V T) {n : Int} (h : gn cd V n) : 0 ≤ n ∧ n < 212 := by
  rcases h with h | h
  · omega
  · have := hS.2 n h.1
    omega
theorem T_cons (hS : uS ar cd V T) {p : Int} (hp : V p) : T p = cd p :: (ka ar (T p)).flatten ∧ (ka ar (T p)).length = ar (cd p) ∧ ∀ a ∈ ka ar (T p), f_wf ar 1 a := by
  obtain ⟨h1, h2, -⟩ := hS.2 p hp
  have := ka_ok ar h2
  rw [← h1] at this
  exact this
theorem T_var (hS : uS ar cd V T) {p : Int} (hp : V p) (h : cd p < 0) : T p = [cd p] := by
  obtain ⟨h1, h2, h3⟩ := T_cons hS hp
  rw [hS.1 _ h] at h2
  have := List.length_eq_zero_iff.mp h2
  rw [this] at h1
  exact h1
theorem vv_nd (hS : uS ar cd V T) (σ : Int → List Int) {p : Int} (hp : V p) : vv σ T (nd cd p) = f_sub σ (T p) := by
  have hb := (hS.2 p hp).2.2.1
  unfold nd vv
  by_cases h : cd p < 0
  · rw [if_pos h, if_neg (by omega), T_var hS hp h, f_sub_c, if_pos h, f_sub_nil, List.append_nil]
    congr 1
    omega
  · rw [if_neg h, if_pos (by omega)]
theorem vv_pl (hS : uS ar cd V T) (σ : Int → List Int) {p : Int} (hp : V p) : vv σ T p = f_sub σ (T p) := by
  have hb := (hS.2 p hp).2.2.1
  unfold vv
  rw [if_pos (by omega)]
theorem f_sub_flat (σ : Int → List Int) (as : List (List Int)) : f_sub σ as.flatten = (as.map (f_sub σ)).flatten := by
  induction as with
  | nil => rfl
  | cons a as ih => rw [List.flatten_cons, f_sub_app, ih, List.map_cons, List.flatten_cons]
/-- the same values: the same codes, and terms of the same values -/
theorem vv_split (hS : uS ar cd V T) {σ : Int → List Int} (hσ : ∀ c, c < 0 → f_wf ar 1 (σ c)) {p p' : Int} (hp : V p) (hp' : V p') (h0 : 0 ≤ cd p) (h0' : 0 ≤ cd p') (h : f_sub σ (T p) = f_sub σ (T p')) : cd p = cd p' ∧ ∀ k, k < ar (cd p) → vv σ T (nd cd (kp ar T p k)) = vv σ T (nd cd (kp ar T p' k)) := by
  obtain ⟨a1, a2, a3⟩ := T_cons hS hp
  obtain ⟨b1, b2, b3⟩ := T_cons hS hp'
  rw [a1, b1, f_sub_c, f_sub_c, if_neg (by omega), if_neg (by omega)] at h
  injection h with h1 h2
  change f_sub σ _ = f_sub σ _ at h2
  rw [f_sub_flat, f_sub_flat] at h2
  have hm := f_cut_inj ar (as := (ka ar (T p)).map (f_sub σ)) (bs := (ka ar (T p')).map (f_sub σ)) (by rw [List.length_map, List.length_map, a2, b2, h1]) (fun a ha => by
    obtain ⟨b, hb, rfl⟩ := List.mem_map.mp ha
    exact f_sub_wf ar σ hS.1 hσ b 1 (a3 b hb)) (fun a ha => by
    obtain ⟨b, hb, rfl⟩ := List.mem_map.mp ha
    exact f_sub_wf ar σ hS.1 hσ b 1 (b3 b hb)) h2
  refine ⟨h1, fun k hk => ?_⟩
  obtain ⟨k1, v1, t1⟩ := (hS.2 p hp).2.2.2.2 k hk
  obtain ⟨k2, v2, t2⟩ := (hS.2 p' hp').2.2.2.2 k (by rw [← h1]; exact hk)
  rw [vv_nd hS σ v1, vv_nd hS σ v2, t1, t2]
  have := congrArg (fun l => l[k]?) hm
  simpa [List.getElem?_eq_getElem, k1, k2] using this
def uInv (ar : Int → Nat) (pr : Int → Bool) (cd : Int → Int) (V : Int → Prop) (T : Int → List Int) (s t : List Int) (sch rt : Int → Int) (P : List (Int × Int)) (q : Nat) : Prop :=
  (∀ pq ∈ P, V pq.1 ∧ V pq.2) ∧ (∀ n, gn cd V n → gn cd V (rt n)) ∧ (∀ n, gn cd V n → rt n = n → sch n = -1 ∨ (V (sch n) ∧ 0 ≤ cd (sch n) ∧ rt (sch n) = n)) ∧
  (∀ n, V n → 0 ≤ cd n → sch (rt n) ≠ -1 ∧ cd (sch (rt n)) = cd n) ∧
  (∀ f : Int → List Int, kept cd V rt P f → ∀ n, V n → 0 ≤ cd n → ∀ k, k < ar (cd n) → f (nd cd (kp ar T n k)) = f (nd cd (kp ar T (sch (rt n)) k))) ∧
  (∀ j, (hj : j < P.length) → j < q → rt (nd cd P[j].1) = rt (nd cd P[j].2)) ∧
  (∃ w : Nat → Nat, P.length + rsum w 212 ≤ 201 ∧ ∀ n, gn cd V n → rt n = n → sch n ≠ -1 → ar (cd (sch n)) ≤ w n.toNat) ∧
  (∀ σ, gu ar pr s t σ → kept cd V rt P (vv σ T))
theorem uInv_same {s t : List Int} {sch rt : Int → Int} {P : List (Int × Int)} {q : Nat} (h : uInv ar pr cd V T s t sch rt P q) (hq : q < P.length) (he : rt (nd cd P[q].1) = rt (nd cd P[q].2)) : uInv ar pr cd V T s t sch rt P (q + 1) := by
  obtain ⟨a, b, c, d, e, g, w, s⟩ := h
  refine ⟨a, b, c, d, e, fun j hj h => ?_, w, s⟩
  by_cases hjq : j = q
  · subst hjq; exact he
  · exact g j hj (by omega)
theorem uInv_vals {s t : List Int} {sch par rt : Int → Int} {hh : Int → Nat} {P : List (Int × Int)} {q q' : Nat} (hS : uS ar cd V T) (hR : pR par rt hh q') (h : uInv ar pr cd V T s t sch rt P q) (hq : q < P.length) {σ : Int → List Int} (hσ : gu ar pr s t σ) : vv σ T (rt (nd cd P[q].1)) = vv σ T (rt (nd cd P[q].2)) := by
  obtain ⟨a, b, c, d, e, g, w, s⟩ := h
  obtain ⟨k1, k2⟩ := s σ hσ
  have hm := List.getElem_mem hq
  rw [← k1 _ (gn_nd hS (a _ hm).1), ← k1 _ (gn_nd hS (a _ hm).2)]
  exact k2 _ hm
/-- the codes of two joined kinds differ: no values -/
theorem uInv_fail {s t : List Int} {sch par rt : Int → Int} {hh : Int → Nat} {P : List (Int × Int)} {q q' : Nat} (hS : uS ar cd V T) (hR : pR par rt hh q') (h : uInv ar pr cd V T s t sch rt P q) (hq : q < P.length)
    (h1 : sch (rt (nd cd P[q].1)) ≠ -1) (h2 : sch (rt (nd cd P[q].2)) ≠ -1) (h3 : cd (sch (rt (nd cd P[q].1))) ≠ cd (sch (rt (nd cd P[q].2)))) : ∀ σ, ¬ gu ar pr s t σ := by
  intro σ hσ
  have hv := uInv_vals hS hR h hq hσ
  obtain ⟨a, b, c, d, e, g, w, s⟩ := h
  obtain ⟨k1, k2⟩ := s σ hσ
  have hm := List.getElem_mem hq
  have g1 := gn_nd hS (a _ hm).1
  have g2 := gn_nd hS (a _ hm).2
  have r1 := gn_rng hS g1
  have r2 := gn_rng hS g2
  have c1 := (c _ (b _ g1) (pR_idem hR r1.1 r1.2)).resolve_left h1
  have c2 := (c _ (b _ g2) (pR_idem hR r2.1 r2.2)).resolve_left h2
  have v1 := k1 _ (Or.inr ⟨c1.1, c1.2.1⟩)
  have v2 := k1 _ (Or.inr ⟨c2.1, c2.2.1⟩)
  rw [c1.2.2, vv_pl hS σ c1.1] at v1
  rw [c2.2.2, vv_pl hS σ c2.1] at v2
  exact h3 (vv_split hS (fun c hc => (hσ.1 c hc).1) c1.1 c2.1 c1.2.1 c2.2.1 (by rw [v1, v2, hv])).1
end KIN
