/-! Unifier: load -/
def shv (v c : Int) : Int := if c < 0 then c - v else c
def ld (I : sI) (fr : Int) (cs : List Int) : Prop := ∀ p : Nat, (h : p < cs.length) → I 76 (fr + p) = cs[p] ∧ I 77 (fr + p) = fr + p + f_tk (hArt I) 1 (cs.drop p)
def uV (sa tb : List Int) (p : Int) : Prop := (0 ≤ p ∧ p < sa.length) ∨ (100 ≤ p ∧ p < 100 + tb.length)
def uT (ar : Int → Nat) (sa tb : List Int) (p : Int) : List Int := if p < 100 then f_s ar sa p.toNat else f_s ar tb (p - 100).toNat
theorem f_tk_map (ar : Int → Nat) (g : Int → Int) (hg : ∀ c, ar (g c) = ar c) : ∀ (l : List Int) (k : Nat), f_tk ar k (l.map g) = f_tk ar k l := by
  intro l
  induction l with
  | nil => intro k; rfl
  | cons c l ih =>
    intro k
    cases k with
    | zero => rw [f_tk_0, f_tk_0]
    | succ k => rw [List.map_cons, f_tk_c, f_tk_c, ih, hg]
theorem f_wf_map (ar : Int → Nat) (g : Int → Int) (hg : ∀ c, ar (g c) = ar c) : ∀ (l : List Int) (k : Nat), f_wf ar k l → f_wf ar k (l.map g) := by
  intro l
  induction l with
  | nil => intro k h; exact h
  | cons c l ih =>
    intro k h
    cases k with
    | zero => rw [f_wf_0] at h; cases h
    | succ k =>
      rw [List.map_cons, f_wf_c, hg]
      rw [f_wf_c] at h
      exact ih _ h
theorem hArt_shv (I : sI) (v : Int) (hv : 0 ≤ v) (c : Int) : hArt I (shv v c) = hArt I c := by
  unfold hArt shv
  by_cases h : c < 0
  · rw [if_pos h, if_pos h, if_pos (by omega)]
  · rw [if_neg h]
theorem ld_one {I : sI} {fr : Int} {cs : List Int} (h : ld I fr cs) (hw : f_wf (hArt I) 1 cs) (hl : cs.length ≤ 100) (hb : ∀ c ∈ cs, -12 ≤ c ∧ c < 40) {p : Nat} (hp : p < cs.length) :
    p + (f_s (hArt I) cs p).length ≤ 100 ∧ I 77 (fr + p) = fr + p + (f_s (hArt I) cs p).length ∧ f_wf (hArt I) 1 (f_s (hArt I) cs p) ∧ (∀ i : Nat, (h : i < (f_s (hArt I) cs p).length) → p + i < cs.length ∧ I 76 (fr + p + i) = (f_s (hArt I) cs p)[i] ∧ f_s (hArt I) cs (p + i) = f_s (hArt I) (f_s (hArt I) cs p) i) ∧ ∀ c ∈ f_s (hArt I) cs p, -12 ≤ c ∧ c < 40 := by
  have hpos := f_s_pos _ hw hp
  have hlen := f_s_len (hArt I) cs p
  refine ⟨by omega, by rw [hlen]; exact (h p hp).2, f_s_wf _ hw hp, fun i hi => ?_, fun c hc => hb c (f_s_mem hc)⟩
  have hpi : p + i < cs.length := by omega
  refine ⟨hpi, ?_, (f_s_s _ hw hp hi).2.symm⟩
  have := (h (p + i) hpi).1
  rw [show fr + (p : Int) + (i : Int) = fr + ((p + i : Nat) : Int) by omega, this]
  have e := f_s_get (hArt I) (l := cs) (p := p) (i := i) (by omega) hpi
  rw [List.getElem?_eq_getElem hi] at e
  exact (Option.some.inj e).symm
theorem uF_of {I : sI} {sa tb : List Int} (ha : ld I 0 sa) (hb : ld I 100 tb) (wa : f_wf (hArt I) 1 sa) (wb : f_wf (hArt I) 1 tb) (la : sa.length ≤ 100) (lb : tb.length ≤ 100) (ba : ∀ c ∈ sa, -12 ≤ c ∧ c < 40) (bb : ∀ c ∈ tb, -12 ≤ c ∧ c < 40) : uF I (uV sa tb) (uT (hArt I) sa tb) := by
  intro p hp
  rcases hp with hp | hp
  · have e : uT (hArt I) sa tb p = f_s (hArt I) sa p.toNat := by unfold uT; rw [if_pos (by omega)]
    obtain ⟨h1, h2, h3, h4, h5⟩ := ld_one ha wa la ba (p := p.toNat) (by omega)
    rw [show (0 : Int) + ((p.toNat : Nat) : Int) = p by omega] at h2 h4
    rw [e]
    refine ⟨hp.1, by omega, h2, h3, fun i hi => ?_, h5⟩
    obtain ⟨g1, g2, g3⟩ := h4 i hi
    refine ⟨Or.inl ⟨by omega, by omega⟩, g2, ?_⟩
    unfold uT
    rw [if_pos (by omega), show (p + (i : Int)).toNat = p.toNat + i by omega]
    exact g3
  · have e : uT (hArt I) sa tb p = f_s (hArt I) tb (p - 100).toNat := by unfold uT; rw [if_neg (by omega)]
    obtain ⟨h1, h2, h3, h4, h5⟩ := ld_one hb wb lb bb (p := (p - 100).toNat) (by omega)
    rw [show (100 : Int) + (((p - 100).toNat : Nat) : Int) = p by omega] at h2 h4
    rw [e]
    refine ⟨by omega, by omega, h2, h3, fun i hi => ?_, h5⟩
    obtain ⟨g1, g2, g3⟩ := h4 i hi
    refine ⟨Or.inr ⟨by omega, by omega⟩, g2, ?_⟩
    unfold uT
    rw [if_neg (by omega), show (p + (i : Int) - 100).toNat = (p - 100).toNat + i by omega]
    exact g3
theorem uS_of {I : sI} {V : Int → Prop} {T : Int → List Int} (h : uF I V T) : uS (hArt I) (I 76) V T := by
  refine ⟨fun c hc => by unfold hArt; rw [if_pos hc], fun p hp => ?_⟩
  have hd := uF_hd h hp
  obtain ⟨h1, h2, h3, h4, h5, h6⟩ := h p hp
  refine ⟨hd.1, h4, ⟨h1, by omega⟩, ⟨hd.2.2.1, hd.2.2.2⟩, fun k hk => ?_⟩
  obtain ⟨a, b, c, -⟩ := uF_kid h hp hk
  exact ⟨a, b, c⟩
theorem rsum_congr {f g : Nat → Nat} : ∀ n, (∀ k, k < n → f k = g k) → rsum f n = rsum g n := by
  intro n
  induction n with
  | zero => intro _; rfl
  | succ n ih =>
    intro h
    simp only [rsum]
    rw [ih (fun k hk => h k (by omega)), h n (by omega)]
theorem rsum_add (f : Nat → Nat) (a : Nat) : ∀ b, rsum f (a + b) = rsum f a + rsum (fun k => f (a + k)) b := by
  intro b
  induction b with
  | zero => rfl
  | succ b ih =>
    show rsum f (a + b) + f (a + b) = _
    rw [ih]
    simp only [rsum]
    omega
theorem rsum_list (ar : Int → Nat) : ∀ (l : List Int) (n : Nat), l.length ≤ n → rsum (fun k => if k < l.length then ar (l.getD k 0) else 0) n = (l.map ar).sum := by
  intro l
  induction l with
  | nil =>
    intro n _
    have : ∀ n, rsum (fun k => if k < ([] : List Int).length then ar (([] : List Int).getD k 0) else 0) n = 0 := by
      intro n
      induction n with
      | zero => rfl
      | succ n ih => simp only [rsum, ih]; simp
    rw [this]
    rfl
  | cons c l ih =>
    intro n hn
    rw [List.length_cons] at hn
    obtain ⟨m, rfl⟩ : ∃ m, n = 1 + m := ⟨n - 1, by omega⟩
    rw [rsum_add, List.map_cons, List.sum_cons, ← ih m (by omega)]
    congr 1
    · simp [rsum]
    · refine rsum_congr m (fun k _ => ?_)
      rw [Nat.add_comm 1 k, List.length_cons, List.getD_cons_succ]
      by_cases h : k < l.length
      · rw [if_pos h, if_pos (by omega)]
      · rw [if_neg h, if_neg (by omega)]
theorem f_wf_sum (ar : Int → Nat) : ∀ (l : List Int) (k : Nat), f_wf ar k l → k + (l.map ar).sum = l.length := by
  intro l
  induction l with
  | nil => intro k h; rw [f_wf_nil] at h; subst h; rfl
  | cons c l ih =>
    intro k h
    cases k with
    | zero => rw [f_wf_0] at h; cases h
    | succ k =>
      rw [f_wf_c] at h
      have := ih _ h
      rw [List.map_cons, List.sum_cons, List.length_cons]
      omega
/-- what holds before the first pair -/
theorem uInv_0 {ar : Int → Nat} {pr : Int → Bool} {cd : Int → Int} {sa tb : List Int} {sch : Int → Int} (hS : uS ar cd (uV sa tb) (uT ar sa tb)) (wa : f_wf ar 1 sa) (wb : f_wf ar 1 tb) (la : sa.length ≤ 100) (lb : tb.length ≤ 100)
    (hs : ∀ n, 0 ≤ n → n < 212 → sch n = if n < 200 then n else -1) : uInv ar pr cd (uV sa tb) (uT ar sa tb) sa tb sch (fun n => n) [(0, 100)] 0 := by
  have l1 : 0 < sa.length := List.length_pos_iff.mpr (f_wf_ne _ wa)
  have l2 : 0 < tb.length := List.length_pos_iff.mpr (f_wf_ne _ wb)
  have v0 : uV sa tb 0 := Or.inl ⟨by omega, by omega⟩
  have v1 : uV sa tb 100 := Or.inr ⟨by omega, by omega⟩
  have hsp : ∀ n, uV sa tb n → sch n = n := fun n hn => by
    have := (hS.2 n hn).2.2.1
    rw [hs n (by omega) (by omega), if_pos (by omega)]
  refine ⟨?_, fun n h => h, ?_, ?_, ?_, ?_, ?_, ?_⟩
  · intro pq hpq
    rw [List.mem_singleton] at hpq
    subst hpq
    exact ⟨v0, v1⟩
  · intro n hn _
    rcases hn with h | h
    · left
      rw [hs n (by omega) (by omega), if_neg (by omega)]
    · right
      rw [hsp n h.1]
      exact ⟨h.1, h.2, rfl⟩
  · intro n hn h0
    have := (hS.2 n hn).2.2.1
    dsimp only
    rw [hsp n hn]
    exact ⟨by omega, rfl⟩
  · intro f hk n hn h0 k hkk
    dsimp only
    rw [hsp n hn]
  · intro j hj h
    omega
  · refine ⟨fun k => if k < 100 then (if k < sa.length then ar (sa.getD k 0) else 0) else (if k - 100 < tb.length then ar (tb.getD (k - 100) 0) else 0), ?_, ?_⟩
    · have e1 := rsum_add (fun k => if k < 100 then (if k < sa.length then ar (sa.getD k 0) else 0) else (if k - 100 < tb.length then ar (tb.getD (k - 100) 0) else 0)) 100 112
      rw [show 100 + 112 = 212 from rfl] at e1
      rw [e1, rsum_congr (g := fun k => if k < sa.length then ar (sa.getD k 0) else 0) 100 (fun k hk => by rw [if_pos hk]), rsum_congr (g := fun k => if k < tb.length then ar (tb.getD k 0) else 0) 112 (fun k hk => by rw [if_neg (by omega), show 100 + k - 100 = k by omega])]
      rw [rsum_list ar sa 100 la, rsum_list ar tb 112 (by omega)]
      have a1 := f_wf_sum ar sa 1 wa
      have a2 := f_wf_sum ar tb 1 wb
      simp only [List.length_singleton]
      omega
    · intro n hn _ hsn
      have rn := gn_rng hS hn
      have hv : uV sa tb n := by
        rcases hn with h | h
        · exact absurd (by rw [hs n (by omega) (by omega), if_neg (by omega)]) hsn
        · exact h.1
      rw [hsp n hv]
      have hcd := (hS.2 n hv).1
      have hc : ∀ (l : List Int) (p : Nat), f_wf ar 1 l → p < l.length → (f_s ar l p).headD 0 = l.getD p 0 := fun l p hw hp => by
        rw [f_s_c ar hw hp, List.getD_eq_getElem?_getD, List.getElem?_eq_getElem hp]
        rfl
      dsimp only
      rcases hv with h | h
      · rw [if_pos (by omega), if_pos (by omega), hcd]
        unfold uT
        rw [if_pos (by omega), hc sa _ wa (by omega)]
        exact Nat.le_refl _
      · rw [if_neg (by omega), if_pos (by omega), hcd]
        unfold uT
        rw [if_neg (by omega), hc tb _ wb (by omega), show (n - 100).toNat = n.toNat - 100 by omega]
        exact Nat.le_refl _
  · intro σ hσ
    refine ⟨fun n _ => rfl, fun pq hpq => ?_⟩
    rw [List.mem_singleton] at hpq
    subst hpq
    have e0 : uT ar sa tb 0 = sa := by unfold uT; rw [if_pos (by omega)]; exact f_s_0 ar wa
    have e1 : uT ar sa tb 100 = tb := by unfold uT; rw [if_neg (by omega)]; exact f_s_0 ar wb
    rw [vv_nd hS σ v0, vv_nd hS σ v1, e0, e1]
    exact hσ.2
