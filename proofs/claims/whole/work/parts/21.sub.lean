/-! the term at a place -/
def f_s (ar : Int → Nat) (l : List Int) (p : Nat) : List Int := (l.drop p).take (f_tk ar 1 (l.drop p))
theorem f_s_len (ar : Int → Nat) (l : List Int) (p : Nat) : (f_s ar l p).length = f_tk ar 1 (l.drop p) := by
  have := f_tk_le ar (l.drop p) 1
  unfold f_s
  rw [List.length_take]
  omega
theorem f_s_wf (ar : Int → Nat) {l : List Int} {k p : Nat} (h : f_wf ar k l) (hp : p < l.length) : f_wf ar 1 (f_s ar l p) := by
  obtain ⟨m, -, h2, -⟩ := f_at ar h hp
  rw [Nat.add_comm] at h2
  exact (f_split ar _ 1 m h2).1
theorem f_s_pos (ar : Int → Nat) {l : List Int} {k p : Nat} (h : f_wf ar k l) (hp : p < l.length) : 0 < f_tk ar 1 (l.drop p) ∧ p + f_tk ar 1 (l.drop p) ≤ l.length := by
  have h1 := f_tk_le ar (l.drop p) 1
  rw [List.length_drop] at h1
  have h2 := f_tk_1 ar h hp
  omega
theorem f_s_get (ar : Int → Nat) {l : List Int} {p i : Nat} (h : i < f_tk ar 1 (l.drop p)) (h2 : p + i < l.length) : (f_s ar l p)[i]? = some (l[p + i]) := by
  unfold f_s
  rw [List.getElem?_take, if_pos h, List.getElem?_drop, List.getElem?_eq_getElem h2]
theorem f_s_0 (ar : Int → Nat) {l : List Int} (h : f_wf ar 1 l) : f_s ar l 0 = l := by
  unfold f_s
  rw [List.drop_zero, f_wf_len ar l 1 h, List.take_length]
/-- two terms are the same if they agree as far as the shorter goes -/
theorem f_same (ar : Int → Nat) {u v : List Int} (hu : f_wf ar 1 u) (hv : f_wf ar 1 v) (h : ∀ i, i < u.length → i < v.length → u[i]? = v[i]?) : u = v := by
  have key : ∀ {u v : List Int}, f_wf ar 1 u → f_wf ar 1 v → u.length ≤ v.length → (∀ i, i < u.length → i < v.length → u[i]? = v[i]?) → u = v := by
    intro u v hu hv hl h
    have e : u = v.take u.length := by
      apply List.ext_getElem?
      intro i
      by_cases hi : i < u.length
      · rw [List.getElem?_take, if_pos hi]
        exact h i hi (by omega)
      · rw [List.getElem?_eq_none (by omega), List.getElem?_eq_none (by rw [List.length_take]; omega)]
    have e2 : u ++ v.drop u.length = v ++ [] := by
      rw [List.append_nil]
      conv => lhs; arg 1; rw [e]
      exact List.take_append_drop _ _
    exact (f_uniq ar hu hv e2).1
  by_cases hl : u.length ≤ v.length
  · exact key hu hv hl h
  · exact (key hv hu (by omega) (fun i h1 h2 => (h i h2 h1).symm)).symm
theorem fd_s (ar : Int → Nat) {cs ds : List Int} {k j p q : Nat} {f g : Int → Int} {w n : Int} (hc : f_wf ar k cs) (hd : f_wf ar j ds) (hp : p < cs.length) (hq : q < ds.length)
    (hf : ∀ i : Nat, (h : p + i < cs.length) → f i = cs[p + i]) (hg : ∀ i : Nat, (h : q + i < ds.length) → g i = ds[q + i])
    (hn : n = if (f_tk ar 1 (ds.drop q) : Int) < f_tk ar 1 (cs.drop p) then (f_tk ar 1 (ds.drop q) : Int) else f_tk ar 1 (cs.drop p)) (h : fdP f g n w) : w < 0 ↔ f_s ar cs p = f_s ar ds q := by
  have hp1 := f_s_pos ar hc hp
  have hq1 := f_s_pos ar hd hq
  have hn1 : n ≤ f_tk ar 1 (cs.drop p) ∧ n ≤ f_tk ar 1 (ds.drop q) := by rw [hn]; split <;> omega
  have hn2 : n = f_tk ar 1 (cs.drop p) ∨ n = f_tk ar 1 (ds.drop q) := by rw [hn]; split <;> omega
  rcases h with ⟨h1, h2⟩ | ⟨h1, h2, h3, h4⟩
  · refine ⟨fun _ => ?_, fun _ => by omega⟩
    refine f_same ar (f_s_wf ar hc hp) (f_s_wf ar hd hq) (fun i hi hi2 => ?_)
    rw [f_s_len] at hi hi2
    rw [f_s_get ar hi (by omega), f_s_get ar hi2 (by omega), ← hf i (by omega), ← hg i (by omega), h2 i (by omega) (by omega)]
  · refine ⟨fun h => by omega, fun he => ?_⟩
    exfalso
    apply h3
    have e1 := f_s_get ar (l := cs) (p := p) (i := w.toNat) (by omega) (by omega)
    have e2 := f_s_get ar (l := ds) (p := q) (i := w.toNat) (by omega) (by omega)
    rw [he, e2] at e1
    have e3 := hf w.toNat (by omega)
    have e4 := hg w.toNat (by omega)
    rw [show ((w.toNat : Nat) : Int) = w by omega] at e3 e4
    rw [e3, e4]
    exact (Option.some.inj e1).symm
/-- whole terms in their cells: codes, ends -/
def tw (I : sI) (t : Nat) (cs : List Int) : Prop := tm I t cs ∧ te I t cs ∧ f_wf (hArt I) 1 cs
theorem tw_end {I : sI} {t : Nat} {cs : List Int} (h : tw I t cs) {p : Int} (h0 : 0 ≤ p) (h1 : p < cs.length) : I (t + 2) p = p + f_tk (hArt I) 1 (cs.drop p.toNat) ∧ p < I (t + 2) p ∧ I (t + 2) p ≤ cs.length ∧ I (t + 2) p ≤ 100 := by
  have h2 := h.2.1 p.toNat (by omega)
  rw [show ((p.toNat : Nat) : Int) = p by omega] at h2
  have h3 := f_s_pos (hArt I) h.2.2 (show p.toNat < cs.length by omega)
  have h4 := h.1.2.1
  omega
theorem tm_get {I : sI} {t : Nat} {cs : List Int} (h : tm I t cs) {p : Int} (h0 : 0 ≤ p) (h1 : p < cs.length) : I (t + 1) p = cs[p.toNat]'(by omega) := by
  have := h.2.2.1 p.toNat (by omega)
  rwa [show ((p.toNat : Nat) : Int) = p by omega] at this
section CS
variable {l : Launch} {G : sG} {L x d : Nat} {I : sI}
theorem c_T_isAtW {t u : Nat} {p q : Int} {cs ds : List Int} (ht : hT t) (hu : hT u) (hc : tw I t cs) (hd : tw I u ds) (h0 : 0 ≤ p) (h1 : p < cs.length) (g0 : 0 ≤ q) (g1 : q < ds.length) :
    sCall l G mT_isAt (sRm (d + 2) 0) [.inr (.inl t), .inl p, .inr (.inl u), .inl q] (hS L x I) (qE L x (fun v I' => I' = I ∧ v = if f_s (hArt I) cs p.toNat = f_s (hArt I) ds q.toNat then 1 else 0)) := by
  obtain ⟨a1, a2, a3, a4⟩ := tw_end hc h0 h1
  obtain ⟨b1, b2, b3, b4⟩ := tw_end hd g0 g1
  have := c_T_isAt (l := l) (G := G) (L := L) (x := x) (d := d) (I := I) ht hu h0 a2 a4 g0 b2 b4
  refine sCall_mono this ?_
  rintro r S ⟨v, I', rfl, rfl, rfl, w, rfl, hw⟩
  refine ⟨_, _, rfl, rfl, rfl, ?_⟩
  have := fd_s (hArt I') hc.2.2 hd.2.2 (show p.toNat < cs.length by omega) (show q.toNat < ds.length by omega) (f := fun i => I' (t + 1) (p + i)) (g := fun i => I' (u + 1) (q + i)) (w := w) (n := _) (fun i hi => by
      show I' (t + 1) (p + i) = _
      rw [tm_get hc.1 (by omega) (by omega)]
      congr 1
      omega) (fun i hi => by
      show I' (u + 1) (q + i) = _
      rw [tm_get hd.1 (by omega) (by omega)]
      congr 1
      omega) (by rw [a1, b1]; congr 1 <;> (try congr 1) <;> omega) hw
  by_cases hc : w < 0
  · rw [if_pos hc, if_pos (this.mp hc)]
  · rw [if_neg hc, if_neg (fun h => hc (this.mpr h))]
end CS
