/-! Unifier: weights of values, purely -/
/-- the expansion of variables, k levels deep -/
def xp (sv : Int → Int) (T : Int → List Int) : Nat → Int → List Int
  | 0, c => [c]
  | k + 1, c => if sv c = -1 then [c] else f_sub (xp sv T k) (T (sv c))
def wN (W : Int → Int) (l : List Int) : Nat := (l.map (fun c => if c < 0 then (W (-1 - c)).toNat else 1)).sum
def uk (W : Int → Int) (l : List Int) : Prop := ∃ c ∈ l, c < 0 ∧ W (-1 - c) = 0
def uC (W : Int → Int) : Nat := rsum (fun v => if W (v : Nat) = 0 then 1 else 0) 12
/-- what the weights say: a known one is that of the whole value, found K steps deep at most -/
def wOk (sv : Int → Int) (T : Int → List Int) (W : Int → Int) (K : Nat) : Prop := K + uC W ≤ 12 ∧ ∀ c, -12 ≤ c → c < 0 → (0 ≤ W (-1 - c) ∧ W (-1 - c) ≤ 101) ∧ (W (-1 - c) = 0 → sv c ≠ -1) ∧ (W (-1 - c) ≠ 0 → ∃ r, r ≤ K ∧ (∀ k, r ≤ k → xp sv T k c = xp sv T r c) ∧ (∀ c' ∈ xp sv T r c, c' < 0 → sv c' = -1) ∧ (W (-1 - c)).toNat = min 101 (xp sv T r c).length)
def stk (sv : Int → Int) (T : Int → List Int) (W : Int → Int) : Prop := ∀ c, -12 ≤ c → c < 0 → W (-1 - c) = 0 → uk W (T (sv c))
theorem wN_app (W : Int → Int) (l r : List Int) : wN W (l ++ r) = wN W l + wN W r := by simp [wN]
theorem wN_one (W : Int → Int) (c : Int) : wN W [c] = if c < 0 then (W (-1 - c)).toNat else 1 := by simp [wN]
theorem wN_le (W : Int → Int) (hW : ∀ v, 0 ≤ v → v < 12 → W v ≤ 101) : ∀ (l : List Int), (∀ c ∈ l, -12 ≤ c) → wN W l ≤ 101 * l.length := by
  intro l
  induction l with
  | nil => intro _; exact Nat.zero_le _
  | cons c l ih =>
    intro h
    have h1 := ih (fun d hd => h d (List.mem_cons_of_mem _ hd))
    have h2 := h c List.mem_cons_self
    rw [show c :: l = [c] ++ l from rfl, wN_app, wN_one, List.length_append]
    by_cases hc : c < 0
    · rw [if_pos hc]
      have := hW (-1 - c) (by omega) (by omega)
      simp only [List.length_singleton]
      omega
    · rw [if_neg hc]
      simp only [List.length_singleton]
      omega
theorem f_sub_mem {σ : Int → List Int} {l : List Int} {d : Int} (h : d ∈ f_sub σ l) : (0 ≤ d ∧ d ∈ l) ∨ ∃ c ∈ l, c < 0 ∧ d ∈ σ c := by
  obtain ⟨c, hc, hd⟩ := List.mem_flatMap.mp h
  by_cases hn : c < 0
  · rw [if_pos hn] at hd
    exact Or.inr ⟨c, hc, hn, hd⟩
  · rw [if_neg hn, List.mem_singleton] at hd
    subst hd
    exact Or.inl ⟨by omega, hc⟩
theorem f_sub_ge {σ : Int → List Int} {l : List Int} {c : Int} (h : c ∈ l) (hc : c < 0) : (σ c).length ≤ (f_sub σ l).length := by
  induction l with
  | nil => cases h
  | cons e l ih =>
    rw [f_sub_c, List.length_append]
    rcases List.mem_cons.mp h with rfl | h
    · rw [if_pos hc]; omega
    · have := ih h; omega
/-- the weight of a row whose variables are all known -/
theorem wN_sub {sv : Int → Int} {T : Int → List Int} {W : Int → Int} {K : Nat} (hw : wOk sv T W K) : ∀ (l : List Int), (∀ c ∈ l, -12 ≤ c) → ¬ uk W l → min 101 (wN W l) = min 101 (f_sub (xp sv T K) l).length ∧ (∀ k, K ≤ k → f_sub (xp sv T k) l = f_sub (xp sv T K) l) ∧ ∀ c' ∈ f_sub (xp sv T K) l, c' < 0 → sv c' = -1 := by
  intro l hl hu
  have key : ∀ c ∈ l, c < 0 → ∃ r, r ≤ K ∧ (∀ k, r ≤ k → xp sv T k c = xp sv T r c) ∧ (∀ c' ∈ xp sv T r c, c' < 0 → sv c' = -1) ∧ (W (-1 - c)).toNat = min 101 (xp sv T r c).length := fun c hc hn => (hw.2 c (hl c hc) hn).2.2 (fun h => hu ⟨c, hc, hn, h⟩)
  refine ⟨?_, fun k hk => f_sub_congr (fun c hc hn => ?_), fun c' hc' hn' => ?_⟩
  · clear hu
    induction l with
    | nil => simp [wN, f_sub_nil]
    | cons c l ih =>
      have h1 := ih (fun d hd => hl d (List.mem_cons_of_mem _ hd)) (fun d hd => key d (List.mem_cons_of_mem _ hd))
      rw [show c :: l = [c] ++ l from rfl, wN_app, wN_one, f_sub_app, List.length_append, f_sub_c, f_sub_nil, List.append_nil]
      by_cases hc : c < 0
      · rw [if_pos hc, if_pos hc]
        obtain ⟨r, r1, r2, r3, r4⟩ := key c List.mem_cons_self hc
        rw [r2 K r1]
        omega
      · rw [if_neg hc, if_neg hc, List.length_singleton]
        omega
  · obtain ⟨r, r1, r2, r3, r4⟩ := key c hc hn
    rw [r2 k (by omega), r2 K r1]
  · rcases f_sub_mem hc' with h | ⟨c, hc, hn, h⟩
    · omega
    · obtain ⟨r, r1, r2, r3, r4⟩ := key c hc hn
      rw [r2 K r1] at h
      exact r3 c' h hn'
theorem uC_upd {W : Int → Int} {v : Int} {z : Int} (h0 : 0 ≤ v) (h1 : v < 12) (hv : W v = 0) (hz : z ≠ 0) : uC (bU W v z) + 1 = uC W := by
  unfold uC
  have u := (rsum_upd (fun k : Nat => if W k = 0 then 1 else 0) v.toNat 0 12).1 (by omega)
  have e : rsum (fun k : Nat => if bU W v z k = 0 then 1 else 0) 12 = rsum (fun k => if k = v.toNat then 0 else (fun k : Nat => if W k = 0 then 1 else 0) k) 12 := by
    refine rsum_congr 12 (fun k hk => ?_)
    unfold bU
    by_cases h : (k : Int) = v
    · rw [if_pos h, if_neg hz, if_pos (by omega)]
    · rw [if_neg h, if_neg (show ¬ k = v.toNat by omega)]
  have ev : (if W ((v.toNat : Nat) : Int) = 0 then 1 else 0) = 1 := by
    rw [show ((v.toNat : Nat) : Int) = v by omega, if_pos hv]
  rw [ev] at u
  rw [e]
  omega
/-- one more is weighed -/
theorem wOk_upd {sv : Int → Int} {T : Int → List Int} {W : Int → Int} {K : Nat} (hw : wOk sv T W K) {c z : Int} (h0 : -12 ≤ c) (h1 : c < 0) (hz : W (-1 - c) = 0) (hT : ∀ d ∈ T (sv c), -12 ≤ d) (hu : ¬ uk W (T (sv c))) (hne : 0 < (T (sv c)).length) (hzz : z.toNat = min 101 (wN W (T (sv c)))) (hz0 : z ≠ 0) (hz1 : 0 ≤ z) : wOk sv T (bU W (-1 - c) z) (K + 1) := by
  obtain ⟨s1, s2, s3⟩ := wN_sub hw _ hT hu
  have hsv := ((hw.2 c h0 h1).2.1 hz)
  have hx : ∀ k, K ≤ k → xp sv T (k + 1) c = f_sub (xp sv T K) (T (sv c)) := fun k hk => by
    show (if sv c = -1 then [c] else f_sub (xp sv T k) (T (sv c))) = _
    rw [if_neg hsv, s2 k hk]
  refine ⟨?_, fun d d0 d1 => ?_⟩
  · have := uC_upd (W := W) (v := -1 - c) (z := z) (by omega) (by omega) hz hz0
    have := hw.1
    omega
  · by_cases hd : d = c
    · subst hd
      have e : bU W (-1 - d) z (-1 - d) = z := by unfold bU; rw [if_pos rfl]
      rw [e]
      refine ⟨by omega, fun h => absurd h hz0, fun _ => ⟨K + 1, Nat.le_refl _, fun k hk => ?_, ?_, ?_⟩⟩
      · obtain ⟨m, rfl⟩ : ∃ m, k = m + 1 := ⟨k - 1, by omega⟩
        rw [hx m (by omega), hx K (Nat.le_refl _)]
      · rw [hx K (Nat.le_refl _)]
        exact s3
      · rw [hx K (Nat.le_refl _), hzz, s1]
    · have e : bU W (-1 - c) z (-1 - d) = W (-1 - d) := by unfold bU; rw [if_neg (by omega)]
      rw [e]
      obtain ⟨a1, a2, a3⟩ := hw.2 d d0 d1
      refine ⟨a1, a2, fun h => ?_⟩
      obtain ⟨r, r1, r2⟩ := a3 h
      exact ⟨r, by omega, r2⟩
section STK
variable {ar : Int → Nat} {pr : Int → Bool} {cd : Int → Int} {V : Int → Prop} {T : Int → List Int}
/-- the value of a variable's schema -/
theorem uInv_sv {s t : List Int} {sch par rt : Int → Int} {hh : Int → Nat} {P : List (Int × Int)} {q q' : Nat} (hS : uS ar cd V T) (hR : pR par rt hh q') (h : uInv ar pr cd V T s t sch rt P q) {c : Int} (h0 : -12 ≤ c) (h1 : c < 0) :
    (sch (rt (199 - c)) = -1 ∨ (V (sch (rt (199 - c))) ∧ 0 ≤ cd (sch (rt (199 - c))) ∧ rt (sch (rt (199 - c))) = rt (199 - c))) ∧ ∀ σ, gu ar pr s t σ → sch (rt (199 - c)) ≠ -1 → σ c = f_sub σ (T (sch (rt (199 - c)))) := by
  obtain ⟨a, b, c', d, e, g, w, sg⟩ := h
  have gc : gn cd V (199 - c) := Or.inl ⟨by omega, by omega⟩
  have hc := c' _ (b _ gc) (pR_idem hR (by omega) (by omega))
  refine ⟨hc, fun σ hσ hne => ?_⟩
  have hc := hc.resolve_left hne
  obtain ⟨k1, k2⟩ := sg σ hσ
  have v1 := k1 _ gc
  have v2 := k1 _ (Or.inr ⟨hc.1, hc.2.1⟩)
  rw [hc.2.2, ← v1, vv_pl hS σ hc.1] at v2
  rw [v2]
  unfold vv
  rw [if_neg (by omega)]
  congr 1
  omega
theorem stk_no {s t : List Int} {sch par rt : Int → Int} {hh : Int → Nat} {P : List (Int × Int)} {q q' : Nat} (hS : uS ar cd V T) (hR : pR par rt hh q') (h : uInv ar pr cd V T s t sch rt P q) {W : Int → Int} {K : Nat} (hw : wOk (fun c => sch (rt (199 - c))) T W K) (hst : stk (fun c => sch (rt (199 - c))) T W) {c : Int} (h0 : -12 ≤ c) (h1 : c < 0) (hc : W (-1 - c) = 0) (hb : ∀ p, V p → ∀ d ∈ T p, -12 ≤ d) : ∀ σ, ¬ gu ar pr s t σ := by
  intro σ hσ
  have key : ∀ (n : Nat) (c : Int), (σ c).length ≤ n → -12 ≤ c → c < 0 → W (-1 - c) = 0 → False := by
    intro n
    induction n with
    | zero =>
      intro c hl h0 h1 hc
      have := (hσ.1 c h1).1
      exact f_wf_ne ar this (List.length_eq_zero_iff.mp (by omega))
    | succ n ih =>
      intro c hl h0 h1 hc
      have hne := (hw.2 c h0 h1).2.1 hc
      obtain ⟨g1, g2⟩ := uInv_sv hS hR h h0 h1
      have g1 := g1.resolve_left hne
      have g2 := g2 σ hσ hne
      obtain ⟨d, hd, d1, d2⟩ := hst c h0 h1 hc
      have ht := T_cons hS g1.1
      have hb := hb _ g1.1 d hd
      dsimp only at hd
      rw [ht.1] at hd
      rcases List.mem_cons.mp hd with h2 | h2
      · omega
      · have h3 := f_sub_ge (σ := σ) h2 d1
        rw [g2, ht.1, f_sub_c, if_neg (by omega), List.length_append, List.length_singleton] at hl
        exact ih d (by omega) hb d1 d2
  exact key _ c (Nat.le_refl _) h0 h1 hc
end STK
