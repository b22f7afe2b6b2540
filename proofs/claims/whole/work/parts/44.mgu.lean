/-! most general values -/
def mgu (ar : Int → Nat) (pr : Int → Bool) (s t : List Int) (θ : Int → List Int) : Prop := gu ar pr s t θ ∧ ∀ σ, gu ar pr s t σ → ∀ c, -12 ≤ c → c < 0 → f_sub σ (θ c) = σ c
theorem f_sub_wf_m (ar : Int → Nat) (hv : ∀ c, c < 0 → ar c = 0) {σ : Int → List Int} {l : List Int} {k : Nat} (hσ : ∀ c ∈ l, c < 0 → f_wf ar 1 (σ c)) (h : f_wf ar k l) : f_wf ar k (f_sub σ l) := by
  have e : f_sub σ l = f_sub (fun c => if c ∈ l then σ c else [c]) l := f_sub_congr (fun c hc _ => by rw [if_pos hc])
  rw [e]
  refine f_sub_wf ar _ hv (fun c hc => ?_) l k h
  by_cases hm : c ∈ l
  · rw [if_pos hm]; exact hσ c hm hc
  · rw [if_neg hm]
    show f_wf ar 1 [c]
    rw [f_wf_c, hv c hc]
    rfl
theorem ren_neg {rt : Int → Int} {c : Int} (h : c < 0) : ren rt c < 0 := by
  unfold ren
  by_cases h1 : c < 0 ∧ 200 ≤ rt (199 - c)
  · rw [if_pos h1]; omega
  · rw [if_neg h1]; exact h
theorem ren_pos {rt : Int → Int} {c : Int} (h : ¬ c < 0) : ren rt c = c := by
  unfold ren
  rw [if_neg (fun h1 => h h1.1)]
section MGU
variable {ar : Int → Nat} {pr : Int → Bool} {cd : Int → Int} {V : Int → Prop} {T : Int → List Int}
/-- the values that the kinds give -/
def th (sch rt : Int → Int) (T : Int → List Int) (c : Int) : List Int := if -12 ≤ c then (xp (fun c => sch (rt (199 - c))) T 12 c).map (ren rt) else [c]
theorem f_sub_ren {sch rt : Int → Int} {l : List Int} (hb : ∀ c ∈ l, -12 ≤ c) : f_sub (th sch rt T) l = (f_sub (xp (fun c => sch (rt (199 - c))) T 12) l).map (ren rt) := by
  induction l with
  | nil => rfl
  | cons e l ih =>
    rw [f_sub_c, f_sub_c, List.map_append, ih (fun c hc => hb c (List.mem_cons_of_mem _ hc))]
    congr 1
    by_cases he : e < 0
    · rw [if_pos he, if_pos he]
      unfold th
      rw [if_pos (hb e List.mem_cons_self)]
    · rw [if_neg he, if_neg he, List.map_cons, ren_pos he]
      rfl
theorem f_sub_map_ren {σ : Int → List Int} {g : Int → Int} {l : List Int} (hn : ∀ c ∈ l, c < 0 → g c < 0 ∧ σ (g c) = σ c) (hp : ∀ c ∈ l, ¬ c < 0 → g c = c) : f_sub σ (l.map g) = f_sub σ l := by
  induction l with
  | nil => rfl
  | cons e l ih =>
    rw [List.map_cons, f_sub_c, f_sub_c, ih (fun c hc => hn c (List.mem_cons_of_mem _ hc)) (fun c hc => hp c (List.mem_cons_of_mem _ hc))]
    congr 1
    by_cases he : e < 0
    · have := hn e List.mem_cons_self he
      rw [if_pos he, if_pos this.1, this.2]
    · rw [hp e List.mem_cons_self he]
theorem th_mgu {s t : List Int} {sch par rt : Int → Int} {hh : Int → Nat} {P : List (Int × Int)} {q' K : Nat} {W : Int → Int} (hS : uS ar cd V T) (hpr : ∀ c, c < 0 → pr c = false) (hR : pR par rt hh q') (h : uInv ar pr cd V T s t sch rt P P.length)
    (hb : ∀ p, V p → ∀ d ∈ T p, -12 ≤ d) (hw : wOk (fun c => sch (rt (199 - c))) T W K) (hu : uC W = 0) (hp : ∀ c, -12 ≤ c → c < 0 → sch (rt (199 - c)) ≠ -1 → pr (cd (sch (rt (199 - c)))) = false)
    {p0 p1 : Int} (hP : (p0, p1) ∈ P) (e0 : T p0 = s) (e1 : T p1 = t) : mgu ar pr s t (th sch rt T) := by
  have hsv := fun c (c0 : -12 ≤ c) (c1 : c < 0) => uInv_sv hS hR h c0 c1
  obtain ⟨a, b, c', d, e, g, w, sg⟩ := h
  have hK : K ≤ 12 := by have := hw.1; omega
  have idem : ∀ n, gn cd V n → rt (rt n) = rt n := fun n hn => by
    have := gn_rng hS hn
    exact pR_idem hR this.1 this.2
  have gv : ∀ c, -12 ≤ c → c < 0 → gn cd V (199 - c) := fun c c0 c1 => Or.inl ⟨by omega, by omega⟩
  -- a kind without a schema has variables alone
  have hroot : ∀ n, gn cd V n → sch (rt n) = -1 → 200 ≤ n ∧ 200 ≤ rt n := fun n hn hs => by
    have h1 : ∀ m, gn cd V m → sch (rt m) = -1 → 200 ≤ m := fun m hm hs => by
      rcases hm with h | h
      · omega
      · exact absurd hs (d m h.1 h.2).1
    exact ⟨h1 n hn hs, h1 _ (b n hn) (by rw [idem n hn]; exact hs)⟩
  have hstab : ∀ c, -12 ≤ c → c < 0 → xp (fun c => sch (rt (199 - c))) T 13 c = xp (fun c => sch (rt (199 - c))) T 12 c := fun c c0 c1 => by
    obtain ⟨r, r1, r2, -⟩ := (hw.2 c c0 c1).2.2 (uC_none hu c c0 c1)
    rw [r2 13 (by omega), r2 12 (by omega)]
  -- a variable with a schema has its value
  have hvar : ∀ c, -12 ≤ c → c < 0 → sch (rt (199 - c)) ≠ -1 → th sch rt T c = f_sub (th sch rt T) (T (sch (rt (199 - c)))) := fun c c0 c1 hne => by
    have hV := ((hsv c c0 c1).1.resolve_left hne).1
    rw [f_sub_ren (hb _ hV)]
    unfold th
    rw [if_pos c0, ← hstab c c0 c1]
    show List.map _ (if sch (rt (199 - c)) = -1 then [c] else _) = _
    rw [if_neg hne]
  have hfree : ∀ c, -12 ≤ c → c < 0 → sch (rt (199 - c)) = -1 → th sch rt T c = [199 - rt (199 - c)] := fun c c0 c1 he => by
    have := hroot _ (gv c c0 c1) he
    unfold th
    rw [if_pos c0, xp_none (sv := fun c => sch (rt (199 - c))) he, List.map_cons, List.map_nil]
    unfold ren
    rw [if_pos ⟨c1, this.2⟩]
  have xwf : ∀ (k : Nat) (c : Int), -12 ≤ c → c < 0 → f_wf ar 1 (xp (fun c => sch (rt (199 - c))) T k c) := by
    intro k
    induction k with
    | zero =>
      intro c c0 c1
      show f_wf ar 1 [c]
      rw [f_wf_c, hS.1 c c1]
      rfl
    | succ k ih =>
      intro c c0 c1
      show f_wf ar 1 (if sch (rt (199 - c)) = -1 then [c] else f_sub _ (T (sch (rt (199 - c)))))
      by_cases hne : sch (rt (199 - c)) = -1
      · rw [if_pos hne, f_wf_c, hS.1 c c1]
        rfl
      · rw [if_neg hne]
        have hV := ((hsv c c0 c1).1.resolve_left hne).1
        exact f_sub_wf_m ar hS.1 (fun x hx hn => ih x (hb _ hV x hx) hn) (hS.2 _ hV).2.1
  have twf : ∀ c, c < 0 → f_wf ar 1 (th sch rt T c) := fun c c1 => by
    unfold th
    by_cases c0 : -12 ≤ c
    · rw [if_pos c0]
      refine f_wf_map ar _ (fun x => ?_) _ _ (xwf 12 c c0 c1)
      by_cases hx : x < 0
      · rw [hS.1 _ (ren_neg hx), hS.1 _ hx]
      · rw [ren_pos hx]
    · rw [if_neg c0, f_wf_c, hS.1 c c1]
      rfl
  -- the kinds' values
  have key : ∀ (N : Nat) (n : Int), gn cd V n → (vv (th sch rt T) T n).length ≤ N → ∀ m, gn cd V m → rt m = rt n → vv (th sch rt T) T m = vv (th sch rt T) T n := by
    intro N
    induction N with
    | zero =>
      intro n hn hl
      exfalso
      have hpos : 0 < (vv (th sch rt T) T n).length := by
        rcases hn with h1 | h1
        · unfold vv
          rw [if_neg (by omega)]
          exact List.length_pos_iff.mpr (f_wf_ne ar (twf _ (by omega)))
        · rw [vv_pl hS _ h1.1]
          exact List.length_pos_iff.mpr (f_wf_ne ar (f_sub_wf ar _ hS.1 twf _ 1 (hS.2 _ h1.1).2.1))
      omega
    | succ N ih =>
      intro n hn hl m hm hrm
      by_cases hs : sch (rt n) = -1
      · have h1 := hroot n hn hs
        have h2 := hroot m hm (by rw [hrm]; exact hs)
        have r1 := gn_rng hS hn
        have r2 := gn_rng hS hm
        unfold vv
        rw [if_neg (by omega), if_neg (by omega), hfree (199 - n) (by omega) (by omega) (by rw [show 199 - (199 - n) = n by omega]; exact hs), hfree (199 - m) (by omega) (by omega) (by rw [show 199 - (199 - m) = m by omega, hrm]; exact hs), show 199 - (199 - n) = n by omega, show 199 - (199 - m) = m by omega, hrm]
      · -- a place of the same value
        have place : ∀ n, gn cd V n → sch (rt n) ≠ -1 → ∃ n', V n' ∧ 0 ≤ cd n' ∧ rt n' = rt n ∧ vv (th sch rt T) T n' = vv (th sch rt T) T n := fun n hn hs => by
          rcases hn with h1 | h1
          · have hh := hsv (199 - n) (by omega) (by omega)
            rw [show 199 - (199 - n) = n by omega] at hh
            have hh := hh.1.resolve_left hs
            refine ⟨sch (rt n), hh.1, hh.2.1, hh.2.2, ?_⟩
            rw [vv_pl hS _ hh.1]
            unfold vv
            rw [if_neg (by omega), hvar (199 - n) (by omega) (by omega) (by rw [show 199 - (199 - n) = n by omega]; exact hs), show 199 - (199 - n) = n by omega]
          · exact ⟨n, h1.1, h1.2, rfl, rfl⟩
        obtain ⟨n', n1, n2, n3, n4⟩ := place n hn hs
        obtain ⟨m', m1, m2, m3, m4⟩ := place m hm (by rw [hrm]; exact hs)
        rw [← n4, ← m4]
        rw [← n4] at hl
        have hrr : rt m' = rt n' := by rw [m3, n3, hrm]
        have hcd : cd m' = cd n' := by rw [← (d m' m1 m2).2, ← (d n' n1 n2).2, hrr]
        have kr : kept cd V rt P (fun n => [rt n]) := ⟨fun n hn => by show [rt n] = [rt (rt n)]; rw [idem n hn], fun pq hpq => by
          obtain ⟨j, hj, rfl⟩ := List.getElem_of_mem hpq
          show [rt (nd cd P[j].1)] = [rt (nd cd P[j].2)]
          rw [g j hj hj]⟩
        obtain ⟨tn1, tn2, tn3⟩ := T_cons hS n1
        obtain ⟨tm1, tm2, tm3⟩ := T_cons hS m1
        rw [vv_pl hS _ n1, vv_pl hS _ m1]
        rw [vv_pl hS _ n1, tn1, f_sub_c, if_neg (by omega), List.length_append, List.length_singleton] at hl
        rw [tn1, tm1, f_sub_c, f_sub_c, if_neg (by omega), if_neg (by omega), hcd, f_sub_flat, f_sub_flat]
        congr 2
        refine List.ext_getElem (by rw [List.length_map, List.length_map, tn2, tm2, hcd]) (fun k k1 k2 => ?_)
        rw [List.length_map] at k1 k2
        rw [List.getElem_map, List.getElem_map]
        obtain ⟨_, v1, t1⟩ := (hS.2 n' n1).2.2.2.2 k (by rw [← tn2]; exact k2)
        obtain ⟨_, v2, t2⟩ := (hS.2 m' m1).2.2.2.2 k (by rw [← tm2]; exact k1)
        rw [← t1, ← t2, ← vv_nd hS _ v1, ← vv_nd hS _ v2]
        refine ih _ (gn_nd hS v1) ?_ _ (gn_nd hS v2) ?_
        · rw [vv_nd hS _ v1, t1]
          have : (f_sub (th sch rt T) (ka ar (T n'))[k]).length ≤ (f_sub (th sch rt T) (ka ar (T n')).flatten).length := by
            rw [f_sub_flat]
            exact f_mem_len (List.mem_map.mpr ⟨_, List.getElem_mem k2, rfl⟩)
          omega
        · have x1 := e _ kr n' n1 n2 k (by rw [← tn2]; exact k2)
          have x2 := e _ kr m' m1 m2 k (by rw [← tm2]; exact k1)
          rw [hrr] at x2
          have := x2.trans x1.symm
          injection this
  refine ⟨⟨fun c c1 => ⟨twf c c1, ?_⟩, ?_⟩, ?_⟩
  · by_cases c0 : -12 ≤ c
    · by_cases hs : sch (rt (199 - c)) = -1
      · have := hroot _ (gv c c0 c1) hs
        rw [hfree c c0 c1 hs]
        exact hpr _ (by show 199 - rt (199 - c) < 0; omega)
      · rw [hvar c c0 c1 hs]
        have hh := (hsv c c0 c1).1.resolve_left hs
        rw [(T_cons hS hh.1).1, f_sub_c, if_neg (by omega)]
        exact hp c c0 c1 hs
    · unfold th
      rw [if_neg c0]
      exact hpr c c1
  · obtain ⟨j, hj, hj2⟩ := List.getElem_of_mem hP
    have hr := g j hj hj
    rw [hj2] at hr
    have hv := a _ hP
    have := key _ (nd cd p1) (gn_nd hS hv.2) (Nat.le_refl _) (nd cd p0) (gn_nd hS hv.1) hr
    rw [vv_nd hS _ hv.1, vv_nd hS _ hv.2, e0, e1] at this
    exact this
  · intro σ hσ c c0 c1
    obtain ⟨k1, -⟩ := sg σ hσ
    have hx : ∀ (k : Nat) (c : Int), -12 ≤ c → c < 0 → f_sub σ (xp (fun c => sch (rt (199 - c))) T k c) = σ c := by
      intro k
      induction k with
      | zero =>
        intro c c0 c1
        show f_sub σ [c] = σ c
        rw [f_sub_c, if_pos c1, f_sub_nil, List.append_nil]
      | succ k ih =>
        intro c c0 c1
        show f_sub σ (if sch (rt (199 - c)) = -1 then [c] else f_sub _ (T (sch (rt (199 - c))))) = σ c
        by_cases hs : sch (rt (199 - c)) = -1
        · rw [if_pos hs, f_sub_c, if_pos c1, f_sub_nil, List.append_nil]
        · rw [if_neg hs, f_sub_sub, (hsv c c0 c1).2 σ hσ hs]
          have hV := ((hsv c c0 c1).1.resolve_left hs).1
          exact f_sub_congr (fun x hx hn => ih x (hb _ hV x hx) hn)
    have hxb : ∀ (k : Nat) (c : Int), -12 ≤ c → c < 0 → ∀ x ∈ xp (fun c => sch (rt (199 - c))) T k c, -12 ≤ x := by
      intro k
      induction k with
      | zero =>
        intro c c0 c1 x hx
        have : x = c := List.mem_singleton.mp hx
        omega
      | succ k ih =>
        intro c c0 c1 x hx
        change x ∈ (if sch (rt (199 - c)) = -1 then [c] else f_sub _ (T (sch (rt (199 - c))))) at hx
        by_cases hs : sch (rt (199 - c)) = -1
        · rw [if_pos hs, List.mem_singleton] at hx
          omega
        · rw [if_neg hs] at hx
          have hV := ((hsv c c0 c1).1.resolve_left hs).1
          rcases f_sub_mem hx with h | ⟨y, hy, hn, h⟩
          · omega
          · exact ih y (hb _ hV y hy) hn x h
    unfold th
    rw [if_pos c0, f_sub_map_ren (fun x hx hn => ⟨ren_neg hn, ?_⟩) (fun x _ hn => ren_pos hn)]
    · exact hx 12 c c0 c1
    · have x0 := hxb 12 c c0 c1 x hx
      have := k1 _ (gv x x0 hn)
      unfold ren
      by_cases h9 : x < 0 ∧ 200 ≤ rt (199 - x)
      · rw [if_pos h9]
        unfold vv at this
        rw [if_neg (by omega), if_neg (by omega), show 199 - (199 - x) = x by omega] at this
        exact this.symm
      · rw [if_neg h9]
end MGU
