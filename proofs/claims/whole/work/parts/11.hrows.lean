/-! rooms, ends and calls in the made world -/
abbrev sRm (d k : Nat) : Room := { frames := d, cells := k, slots := 6 * k, locals := 40 * d + 100 }
abbrev hS (L x : Nat) (I : sI) : sS := (hSh L, hRF, I, x)
def qI (L x : Nat) (v : Int) (I : sI) : sQ := fun r S => r = .inl (some (.inl v)) ∧ S = hS L x I
def qV (L x : Nat) (I : sI) : sQ := fun r S => r = .inl none ∧ S = hS L x I
section HR
variable {l : Launch} {G : sG} {M M2 : sM} {rm : Room} {Q Q2 : sQ} {κ θ i : Nat} {ls : List (Option sV)} {rest : List sV} {S : sS} {pc a b d2 k2 : Nat}
theorem sj_ret (ct : sCert M) {x : Int} (hq : (sCd M)[i]? = some (pc, .ireturn, a, b)) (hr : M.2.2.2.1 = some .int) (hκ : κ ≤ rm.cells) (hθ : θ ≤ rm.slots) (hQ : Q (.inl (some (.inl x))) S) : sJ l G M rm Q κ θ i ls [.inl x] S :=
  sj_iret hq (ct i _ hq (by simp)) hr hκ hθ hQ
theorem sj_retZ (ct : sCert M) {x : Int} (hq : (sCd M)[i]? = some (pc, .ireturn, a, b)) (hr : M.2.2.2.1 = some .boolean) (hx : x = 0 ∨ x = 1) (hκ : κ ≤ rm.cells) (hθ : θ ≤ rm.slots) (hQ : Q (.inl (some (.inl x))) S) : sJ l G M rm Q κ θ i ls [.inl x] S :=
  sj_zret hq (ct i _ hq (by simp)) hr hx hκ hθ hQ
theorem sj_retV (ct : sCert M) (hq : (sCd M)[i]? = some (pc, .return_, a, b)) (hr : M.2.2.2.1 = none) (hκ : κ ≤ rm.cells) (hθ : θ ≤ rm.slots) (hQ : Q (.inl none) S) : sJ l G M rm Q κ θ i ls [] S :=
  sj_vret hq (ct i _ hq (by simp)) hr hκ hθ hQ
/-- a call of an object's method that comes back with a number -/
theorem sj_vI {idx x cc L ex : Nat} {as : List sV} {v : Int} {I' : sI} (ct : sCert M) (hq : (sCd M)[i]? = some (pc, .invokevirtual idx, a, b)) (hlk : sLv as.length M2 = true) (hlm : sLm M.1.cls idx M2 = true) (hcl : ∃ q : vw_C, classes[cc]? = some q ∧ q.1 = M2.1.cls) (hx : (sKd S.1 x).1 = cc + 5)
    (hcall : sCall l G M2 (sRm d2 k2) (.inr (.inl x) :: as) S (qI L ex v I')) (hcat : (rest.map fun v => (sE G v).category).sum ≤ 8)
    (hfr : d2 + 1 ≤ rm.frames) (hlo : 8 + (M2.2.2.1 + 11) + (40 * d2 + 100) ≤ rm.locals) (hce : κ + k2 ≤ rm.cells) (hsl : θ + 6 * k2 ≤ rm.slots)
    (k : sJ l G M rm Q (κ + k2) (θ + 6 * k2) (i + 1) ls (.inl v :: rest) (hS L ex I')) : sJ l G M rm Q κ θ i ls (as.reverse ++ .inr (.inl x) :: rest) S :=
  sj_callV hq (ct i _ hq (by simp)) hlk hlm hcl hx hcall hcat hfr hlo hce hsl (fun w S' h => by obtain ⟨h1, rfl⟩ := h; cases h1; exact k) (fun n S' h => by cases h.1)
theorem sj_vV {idx x cc L ex : Nat} {as : List sV} {I' : sI} (ct : sCert M) (hq : (sCd M)[i]? = some (pc, .invokevirtual idx, a, b)) (hlk : sLv as.length M2 = true) (hlm : sLm M.1.cls idx M2 = true) (hcl : ∃ q : vw_C, classes[cc]? = some q ∧ q.1 = M2.1.cls) (hx : (sKd S.1 x).1 = cc + 5)
    (hcall : sCall l G M2 (sRm d2 k2) (.inr (.inl x) :: as) S (qV L ex I')) (hcat : (rest.map fun v => (sE G v).category).sum ≤ 8)
    (hfr : d2 + 1 ≤ rm.frames) (hlo : 8 + (M2.2.2.1 + 11) + (40 * d2 + 100) ≤ rm.locals) (hce : κ + k2 ≤ rm.cells) (hsl : θ + 6 * k2 ≤ rm.slots)
    (k : sJ l G M rm Q (κ + k2) (θ + 6 * k2) (i + 1) ls rest (hS L ex I')) : sJ l G M rm Q κ θ i ls (as.reverse ++ .inr (.inl x) :: rest) S :=
  sj_callV hq (ct i _ hq (by simp)) hlk hlm hcl hx hcall hcat hfr hlo hce hsl (fun w S' h => by obtain ⟨h1, rfl⟩ := h; cases h1; exact k) (fun n S' h => by cases h.1)
end HR
theorem hU_eq (I : sI) (a : Nat) (j x : Int) : sU I a j x a j = x := sU_self I a j x
theorem hU_ne {I : sI} {a b : Nat} {j x k : Int} (h : b ≠ a) : sU I a j x b k = I b k := by rw [sU_ne h]
theorem hU_nj {I : sI} {a b : Nat} {j x k : Int} (h : k ≠ j) : sU I a j x b k = I b k := by simp [sU, h]
