/-! calls with rooms as they are kept here; ends that say what holds -/
def qE (L x : Nat) (P : Int → sI → Prop) : sQ := fun r S => ∃ v I, r = .inl (some (.inl v)) ∧ S = hS L x I ∧ P v I
def qF (L x : Nat) (P : sI → Prop) : sQ := fun r S => ∃ I, r = .inl none ∧ S = hS L x I ∧ P I
theorem sCall_mono {l : Launch} {G : sG} {M : sM} {rm : Room} {as : List sV} {S : sS} {Q Q' : sQ} (h : sCall l G M rm as S Q) (hq : ∀ r S', Q r S' → Q' r S') : sCall l G M rm as S Q' :=
  MetFree.mono h (fun _ _ hp => hp) (fun _ _ _ _ _ hk => hk) (fun a s o t _ hQ => by
    obtain ⟨⟨⟨r, S', h1, h2, h3⟩, h4⟩, h5⟩ := hQ
    exact ⟨⟨⟨r, S', h1, hq r S' h2, h3⟩, h4⟩, h5⟩)
section HR2
variable {l : Launch} {G : sG} {M M2 : sM} {Q : sQ} {κ i : Nat} {ls : List (Option sV)} {rest : List sV} {pc a b d1 k1 d2 k2 : Nat} {L x : Nat} {I : sI}
theorem sc_vI {idx y cc : Nat} {as : List sV} {v : Int} {I' : sI} (ct : sCert M) (hlk : sLv as.length M2 = true) (hlm : sLm M.1.cls idx M2 = true)
    (hcall : sCall l G M2 (sRm d2 k2) (.inr (.inl y) :: as) (hS L x I) (qI L x v I')) (hx : (sKd (hSh L) y).1 = cc + 5)
    (k : sJ l G M (sRm d1 k1) Q (κ + k2) (6 * (κ + k2)) (i + 1) ls (.inl v :: rest) (hS L x I')) (hq : (sCd M)[i]? = some (pc, .invokevirtual idx, a, b) := by rfl) (hcl : ∃ q : vw_C, classes[cc]? = some q ∧ q.1 = M2.1.cls := by exact ⟨_, rfl, rfl⟩) (hcat : (rest.map fun v => (sE G v).category).sum ≤ 8 := by exact Nat.le_of_ble_eq_true rfl)
    (hd : d2 < d1 := by omega) (hml : M2.2.2.1 ≤ 21 := by decide) (hk : κ + k2 ≤ k1 := by omega) : sJ l G M (sRm d1 k1) Q κ (6 * κ) i ls (as.reverse ++ .inr (.inl y) :: rest) (hS L x I) :=
  sj_vI ct hq hlk hlm hcl hx hcall hcat hd (by show 8 + (M2.2.2.1 + 11) + (40 * d2 + 100) ≤ 40 * d1 + 100; omega) hk (by show 6 * κ + 6 * k2 ≤ 6 * k1; omega) (by rw [← Nat.mul_add]; exact k)
theorem sc_vV {idx y cc : Nat} {as : List sV} {I' : sI} (ct : sCert M) (hlk : sLv as.length M2 = true) (hlm : sLm M.1.cls idx M2 = true)
    (hcall : sCall l G M2 (sRm d2 k2) (.inr (.inl y) :: as) (hS L x I) (qV L x I')) (hx : (sKd (hSh L) y).1 = cc + 5)
    (k : sJ l G M (sRm d1 k1) Q (κ + k2) (6 * (κ + k2)) (i + 1) ls rest (hS L x I')) (hq : (sCd M)[i]? = some (pc, .invokevirtual idx, a, b) := by rfl) (hcl : ∃ q : vw_C, classes[cc]? = some q ∧ q.1 = M2.1.cls := by exact ⟨_, rfl, rfl⟩) (hcat : (rest.map fun v => (sE G v).category).sum ≤ 8 := by exact Nat.le_of_ble_eq_true rfl)
    (hd : d2 < d1 := by omega) (hml : M2.2.2.1 ≤ 21 := by decide) (hk : κ + k2 ≤ k1 := by omega) : sJ l G M (sRm d1 k1) Q κ (6 * κ) i ls (as.reverse ++ .inr (.inl y) :: rest) (hS L x I) :=
  sj_vV ct hq hlk hlm hcl hx hcall hcat hd (by show 8 + (M2.2.2.1 + 11) + (40 * d2 + 100) ≤ 40 * d1 + 100; omega) hk (by show 6 * κ + 6 * k2 ≤ 6 * k1; omega) (by rw [← Nat.mul_add]; exact k)
/-- any end -/
theorem sc_v {idx y cc : Nat} {as : List sV} {Q2 : sQ} (ct : sCert M) (hlk : sLv as.length M2 = true) (hlm : sLm M.1.cls idx M2 = true)
    (hcall : sCall l G M2 (sRm d2 k2) (.inr (.inl y) :: as) (hS L x I) Q2) (hx : (sKd (hSh L) y).1 = cc + 5)
    (kr : ∀ w S', Q2 (.inl w) S' → sJ l G M (sRm d1 k1) Q (κ + k2) (6 * (κ + k2)) (i + 1) ls (w.toList ++ rest) S')
    (kx : ∀ n S', Q2 (.inr n) S' → (M.2.2.2.2.2 = [] ∧ Q (.inr n) S')) (hq : (sCd M)[i]? = some (pc, .invokevirtual idx, a, b) := by rfl) (hcl : ∃ q : vw_C, classes[cc]? = some q ∧ q.1 = M2.1.cls := by exact ⟨_, rfl, rfl⟩) (hcat : (rest.map fun v => (sE G v).category).sum ≤ 8 := by exact Nat.le_of_ble_eq_true rfl)
    (hd : d2 < d1 := by omega) (hml : M2.2.2.1 ≤ 21 := by decide) (hk : κ + k2 ≤ k1 := by omega) : sJ l G M (sRm d1 k1) Q κ (6 * κ) i ls (as.reverse ++ .inr (.inl y) :: rest) (hS L x I) :=
  sj_callV hq (ct i _ hq (by simp)) hlk hlm hcl hx hcall hcat hd (by show 8 + (M2.2.2.1 + 11) + (40 * d2 + 100) ≤ 40 * d1 + 100; omega) hk (by show 6 * κ + 6 * k2 ≤ 6 * k1; omega) (fun w S' h => by rw [← Nat.mul_add]; exact kr w S' h) kx
theorem sc_s {idx : Nat} {as : List sV} {Q2 : sQ} (ct : sCert M) (hlk : sLs as.length M2 = true) (hlm : sLm M.1.cls idx M2 = true)
    (hcall : sCall l G M2 (sRm d2 k2) as (hS L x I) Q2)
    (kr : ∀ w S', Q2 (.inl w) S' → sJ l G M (sRm d1 k1) Q (κ + k2) (6 * (κ + k2)) (i + 1) ls (w.toList ++ rest) S')
    (kx : ∀ n S', Q2 (.inr n) S' → (M.2.2.2.2.2 = [] ∧ Q (.inr n) S')) (hq : (sCd M)[i]? = some (pc, .invokestatic idx, a, b) := by rfl) (hcat : (rest.map fun v => (sE G v).category).sum ≤ 8 := by exact Nat.le_of_ble_eq_true rfl)
    (hd : d2 < d1 := by omega) (hml : M2.2.2.1 ≤ 21 := by decide) (hk : κ + k2 ≤ k1 := by omega) : sJ l G M (sRm d1 k1) Q κ (6 * κ) i ls (as.reverse ++ rest) (hS L x I) :=
  sj_callS hq (ct i _ hq (by simp)) hlk hlm hcall hcat hd (by show 8 + (M2.2.2.1 + 11) + (40 * d2 + 100) ≤ 40 * d1 + 100; omega) hk (by show 6 * κ + 6 * k2 ≤ 6 * k1; omega) (fun w S' h => by rw [← Nat.mul_add]; exact kr w S' h) kx
theorem sc_vE {idx y cc : Nat} {as : List sV} {P : Int → sI → Prop} (ct : sCert M) (hlk : sLv as.length M2 = true) (hlm : sLm M.1.cls idx M2 = true)
    (hcall : sCall l G M2 (sRm d2 k2) (.inr (.inl y) :: as) (hS L x I) (qE L x P)) (hx : (sKd (hSh L) y).1 = cc + 5)
    (k : ∀ v I', P v I' → sJ l G M (sRm d1 k1) Q (κ + k2) (6 * (κ + k2)) (i + 1) ls (.inl v :: rest) (hS L x I')) (hq : (sCd M)[i]? = some (pc, .invokevirtual idx, a, b) := by rfl) (hcl : ∃ q : vw_C, classes[cc]? = some q ∧ q.1 = M2.1.cls := by exact ⟨_, rfl, rfl⟩) (hcat : (rest.map fun v => (sE G v).category).sum ≤ 8 := by exact Nat.le_of_ble_eq_true rfl)
    (hd : d2 < d1 := by omega) (hml : M2.2.2.1 ≤ 21 := by decide) (hk : κ + k2 ≤ k1 := by omega) : sJ l G M (sRm d1 k1) Q κ (6 * κ) i ls (as.reverse ++ .inr (.inl y) :: rest) (hS L x I) :=
  sc_v ct hlk hlm hcall hx (fun w S' h => by obtain ⟨v, I', h1, rfl, h3⟩ := h; cases h1; exact k v I' h3) (fun n S' h => by obtain ⟨v, I', h1, -⟩ := h; cases h1) hq hcl hcat hd hml hk
theorem sc_vF {idx y cc : Nat} {as : List sV} {P : sI → Prop} (ct : sCert M) (hlk : sLv as.length M2 = true) (hlm : sLm M.1.cls idx M2 = true)
    (hcall : sCall l G M2 (sRm d2 k2) (.inr (.inl y) :: as) (hS L x I) (qF L x P)) (hx : (sKd (hSh L) y).1 = cc + 5)
    (k : ∀ I', P I' → sJ l G M (sRm d1 k1) Q (κ + k2) (6 * (κ + k2)) (i + 1) ls rest (hS L x I')) (hq : (sCd M)[i]? = some (pc, .invokevirtual idx, a, b) := by rfl) (hcl : ∃ q : vw_C, classes[cc]? = some q ∧ q.1 = M2.1.cls := by exact ⟨_, rfl, rfl⟩) (hcat : (rest.map fun v => (sE G v).category).sum ≤ 8 := by exact Nat.le_of_ble_eq_true rfl)
    (hd : d2 < d1 := by omega) (hml : M2.2.2.1 ≤ 21 := by decide) (hk : κ + k2 ≤ k1 := by omega) : sJ l G M (sRm d1 k1) Q κ (6 * κ) i ls (as.reverse ++ .inr (.inl y) :: rest) (hS L x I) :=
  sc_v ct hlk hlm hcall hx (fun w S' h => by obtain ⟨I', h1, rfl, h3⟩ := h; cases h1; exact k I' h3) (fun n S' h => by obtain ⟨I', h1, -⟩ := h; cases h1) hq hcl hcat hd hml hk
theorem sc_ret {v : Int} (ct : sCert M) (hQ : Q (.inl (some (.inl v))) (hS L x I)) (hq : (sCd M)[i]? = some (pc, .ireturn, a, b) := by rfl) (hr : M.2.2.2.1 = some .int := by rfl) (hk : κ ≤ k1 := by omega) : sJ l G M (sRm d1 k1) Q κ (6 * κ) i ls [.inl v] (hS L x I) :=
  sj_ret ct hq hr hk (by show 6 * κ ≤ 6 * k1; omega) hQ
theorem sc_retZ {v : Int} (ct : sCert M) (hQ : Q (.inl (some (.inl v))) (hS L x I)) (hv : v = 0 ∨ v = 1 := by omega) (hq : (sCd M)[i]? = some (pc, .ireturn, a, b) := by rfl) (hr : M.2.2.2.1 = some .boolean := by rfl) (hk : κ ≤ k1 := by omega) : sJ l G M (sRm d1 k1) Q κ (6 * κ) i ls [.inl v] (hS L x I) :=
  sj_retZ ct hq hr hv hk (by show 6 * κ ≤ 6 * k1; omega) hQ
theorem sc_retV (ct : sCert M) (hQ : Q (.inl none) (hS L x I)) (hq : (sCd M)[i]? = some (pc, .return_, a, b) := by rfl) (hr : M.2.2.2.1 = none := by rfl) (hk : κ ≤ k1 := by omega) : sJ l G M (sRm d1 k1) Q κ (6 * κ) i ls [] (hS L x I) :=
  sj_retV ct hq hr hk (by show 6 * κ ≤ 6 * k1; omega) hQ
theorem sc_min {u v : Int} {idx : Nat} (ct : sCert M) (hl : sIn (Cond.methodLink M.1.cls idx Lib.Math.min.name) = true)
    (k : sJ l G M (sRm d1 k1) Q κ (6 * κ) (i + 1) ls (.inl (if v < u then v else u) :: rest) (hS L x I)) (hq : (sCd M)[i]? = some (pc, .invokestatic idx, a, b) := by rfl) (hcat : (rest.map fun v => (sE G v).category).sum ≤ 8 := by exact Nat.le_of_ble_eq_true rfl) (hd : 0 < d1 := by omega) (hk : κ ≤ k1 := by omega) : sJ l G M (sRm d1 k1) Q κ (6 * κ) i ls (.inl v :: .inl u :: rest) (hS L x I) :=
  sj_min ct hq hl hd (by show _ + 13 ≤ 40 * d1 + 100; omega) hk (by show 6 * κ ≤ 6 * k1; omega) k
theorem sc_max {u v : Int} {idx : Nat} (ct : sCert M) (hl : sIn (Cond.methodLink M.1.cls idx Lib.Math.max.name) = true)
    (k : sJ l G M (sRm d1 k1) Q κ (6 * κ) (i + 1) ls (.inl (if u < v then v else u) :: rest) (hS L x I)) (hq : (sCd M)[i]? = some (pc, .invokestatic idx, a, b) := by rfl) (hcat : (rest.map fun v => (sE G v).category).sum ≤ 8 := by exact Nat.le_of_ble_eq_true rfl) (hd : 0 < d1 := by omega) (hk : κ ≤ k1 := by omega) : sJ l G M (sRm d1 k1) Q κ (6 * κ) i ls (.inl v :: .inl u :: rest) (hS L x I) :=
  sj_max ct hq hl hd (by show _ + 13 ≤ 40 * d1 + 100; omega) hk (by show 6 * κ ≤ 6 * k1; omega) k
theorem sc_copy {dd ss idx nd ns : Nat} {n : Int} (ct : sCert M) (hl : sIn (Cond.methodLink M.1.cls idx arraycopyName) = true) (hex : x ≠ 0) (hkd : sKd (hSh L) dd = (0, nd)) (hks : sKd (hSh L) ss = (0, ns)) (hn0 : 0 ≤ n) (hnd : n ≤ nd) (hns : n ≤ ns)
    (k : sJ l G M (sRm d1 k1) Q κ (6 * κ) (i + 1) ls rest (hS L x (sCp I dd ss n))) (hd0 : dd ≠ 0 := by omega) (hs0 : ss ≠ 0 := by omega) (hq : (sCd M)[i]? = some (pc, .invokestatic idx, a, b) := by rfl) (hcat : (rest.map fun v => (sE G v).category).sum ≤ 8 := by exact Nat.le_of_ble_eq_true rfl) (hd : 0 < d1 := by omega) : sJ l G M (sRm d1 k1) Q κ (6 * κ) i ls (.inl n :: .inl 0 :: .inr (.inl dd) :: .inl 0 :: .inr (.inl ss) :: rest) (hS L x I) :=
  sj_copy ct hq hl hd (by show _ + (nativeFrameWords "java/lang/System" "arraycopy" 5 + 11) ≤ 40 * d1 + 100; have : nativeFrameWords "java/lang/System" "arraycopy" 5 ≤ 80 := (by decide); omega) hex hd0 hs0 (by show (sKd (hSh L) dd).1 = 0; rw [hkd]) (by show (sKd (hSh L) ss).1 = 0; rw [hks]) hn0 (by show n ≤ ((sKd (hSh L) dd).2 : Int); rw [hkd]; exact hnd) (by show n ≤ ((sKd (hSh L) ss).2 : Int); rw [hks]; exact hns) k
end HR2
