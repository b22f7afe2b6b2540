/-! an object that is being made: its cells behind all others -/
def mkR (S : sS) (t : Nat) (add : List (Nat × Nat)) (fs : List (Int × Nat)) (It : Int → Int) (os : List (Nat × Nat)) (RF' : sF) (I' : sI) : Prop := (∀ b, b < S.1.length → b ≠ t → RF' b = S.2.1 b ∧ I' b = S.2.2.1 b) ∧ I' t = It ∧ (∀ b, S.1.length ≤ b → b < S.1.length + add.length → ∀ j, I' b j = 0) ∧ (∀ p ∈ fs, RF' t p.1 = p.2) ∧ ∀ o ∈ os, (S.1.length ≤ o.1 ∧ o.1 < S.1.length + add.length) ∧ ∀ j : Nat, j < o.2 → RF' o.1 j = o.1 + 1 + j
theorem mkR_0 (S : sS) (t : Nat) : mkR S t [] [] (S.2.2.1 t) [] S.2.1 S.2.2.1 := ⟨fun _ _ _ => ⟨rfl, rfl⟩, rfl, fun b h1 h2 => (by simp at h2; omega), fun p hp => (by cases hp), fun o ho => (by cases ho)⟩
section CKM
variable {l : Launch} {G : sG} {M : sM} {Q : sQ} {κ θ i : Nat} {ls : List (Option sV)} {rest : List sV} {pc pc2 a b a2 b2 : Nat} {S : sS} {d1 c1 s1 : Nat} {t : Nat} {add : List (Nat × Nat)} {fs : List (Int × Nat)} {It : Int → Int} {os : List (Nat × Nat)} {RF : sF} {I : sI}
theorem mkR_arr {q : Nat × Nat} {f : Int} (ht : t < S.1.length) (h : mkR S t add fs It os RF I) (hf : ∀ p ∈ fs, p.1 ≠ f) : mkR S t (add ++ [q]) (fs ++ [(f, S.1.length + add.length)]) It os (sUF (sMk (S.1 ++ add, RF, I, 0) q).2.1 t f (S.1.length + add.length)) (sMk (S.1 ++ add, RF, I, 0) q).2.2.1 := by
  have hl : (S.1 ++ add).length = S.1.length + add.length := List.length_append
  obtain ⟨h1, h2, h3, h4, h5⟩ := h
  refine ⟨fun b hb hbt => ?_, ?_, fun b hb1 hb2 j => ?_, fun p hp => ?_, fun o ho => ?_⟩
  · have hne : b ≠ (S.1 ++ add).length := by omega
    have := sMk_o (S := (S.1 ++ add, RF, I, 0)) (q := q) hne
    rw [sUF_ne hbt, this.1, this.2]
    exact h1 b hb hbt
  · have := sMk_o (S := (S.1 ++ add, RF, I, 0)) (q := q) (b := t) (by show t ≠ (S.1 ++ add).length; omega)
    rw [this.2]
    exact h2
  · rw [List.length_append, List.length_singleton] at hb2
    by_cases hbl : b = (S.1 ++ add).length
    · subst hbl
      exact sMk_n (S := (S.1 ++ add, RF, I, 0)) (q := q) j
    · have := sMk_o (S := (S.1 ++ add, RF, I, 0)) (q := q) hbl
      rw [this.2]
      exact h3 b hb1 (by omega) j
  · rcases List.mem_append.mp hp with hp | hp
    · rw [sUF_nj (hf p hp)]
      have := sMk_o (S := (S.1 ++ add, RF, I, 0)) (q := q) (b := t) (by show t ≠ (S.1 ++ add).length; omega)
      rw [this.1]
      exact h4 p hp
    · rw [List.mem_singleton] at hp
      rw [hp]
      exact sUF_eq _ _ _ _
  · obtain ⟨g1, g2⟩ := h5 o ho
    refine ⟨⟨g1.1, by rw [List.length_append]; omega⟩, fun j hj => ?_⟩
    have := sMk_o (S := (S.1 ++ add, RF, I, 0)) (q := q) (b := o.1) (by show o.1 ≠ (S.1 ++ add).length; omega)
    rw [sUF_ne (by omega), this.1]
    exact g2 j hj
theorem mkR_int {f v : Int} (ht : t < S.1.length) (h : mkR S t add fs It os RF I) : mkR S t add fs (fun j => if j = f then v else It j) os RF (sU I t f v) := by
  obtain ⟨h1, h2, h3, h4, h5⟩ := h
  refine ⟨fun b hb hbt => ⟨(h1 b hb hbt).1, by rw [sU_ne hbt]; exact (h1 b hb hbt).2⟩, ?_, fun b hb1 hb2 j => by rw [sU_ne (by omega)]; exact h3 b hb1 hb2 j, h4, h5⟩
  funext j
  unfold sU
  by_cases hj : j = f
  · rw [if_pos ⟨rfl, hj⟩, if_pos hj]
  · rw [if_neg (fun q => hj q.2), if_neg hj, h2]
theorem mkR_It {It2 : Int → Int} (h : mkR S t add fs It os RF I) (he : It = It2) : mkR S t add fs It2 os RF I := by rw [← he]; exact h
theorem mk_obj {c k n : Nat} (ht : t < S.1.length) (hk : sKd S.1 t = (c + 5, n)) (hkn : k < n) {r : List (Nat × Nat)} : sObj (S.1 ++ r) c t k := by
  unfold sObj
  rw [sKd_app ht, hk]
  exact ⟨rfl, hkn⟩
/-- a row of whole numbers for a field -/
theorem sk_mpI {n idx cN : Nat} (ct : sCert M) (ht : t < S.1.length) (hk : sKd S.1 t = (a + 5, cN)) (hR : mkR S t add fs It os RF I) (hf : ∀ p ∈ fs, p.1 ≠ (b : Int)) (hown : ∃ q : vw_C, classes[a]? = some q ∧ q.1 = M.1.cls ∧ sIn (Cond.fieldLink M.1.cls idx (q.2.1 b).1 (q.2.1 b).2.1 (q.2.1 b).2.2.1) = true)
    (k : ∀ RF' I', mkR S t (add ++ [(0, n)]) (fs ++ [((b : Int), S.1.length + add.length)]) It os RF' I' → sJ l G M (rK d1 c1 s1) Q (κ + 1) (θ + n) (i + 2) ls rest (S.1 ++ (add ++ [(0, n)]), RF', I', 0))
    (hq : (sCd M)[i]? = some (pc, .newarray .int, a2, b2) := by rfl) (hq2 : (sCd M)[i + 1]? = some (pc2, .putfield idx, a, b) := by rfl) (hbN : b < cN := by decide) (hft : cFT a b = 2 := by decide) (hini : M.1.name = "<init>" := by rfl) (hn : n ≤ 100000 := by omega) (hc : κ + 1 ≤ c1 := by omega) (hs : θ + n ≤ s1 := by omega) : sJ l G M (rK d1 c1 s1) Q κ θ i ls (.inl (n : Int) :: .inr (.inl t) :: rest) (S.1 ++ add, RF, I, 0) := by
  have hl : (S.1 ++ add).length = S.1.length + add.length := List.length_append
  refine sk_int ct rfl ?_ hq hn hc hs
  refine sk_put (t := t) ct hown (by show sObj (S.1 ++ add ++ [(0, n)]) a t b; rw [List.append_assoc]; exact mk_obj ht hk hbN) (by show (S.1 ++ add).length ≠ 0; omega) ?_ hq2 hft hini
  have := k _ _ (mkR_arr (q := (0, n)) ht hR hf)
  rw [← List.append_assoc, ← hl] at this
  exact this
theorem sk_mpZ {n idx cN : Nat} (ct : sCert M) (ht : t < S.1.length) (hk : sKd S.1 t = (a + 5, cN)) (hR : mkR S t add fs It os RF I) (hf : ∀ p ∈ fs, p.1 ≠ (b : Int)) (hown : ∃ q : vw_C, classes[a]? = some q ∧ q.1 = M.1.cls ∧ sIn (Cond.fieldLink M.1.cls idx (q.2.1 b).1 (q.2.1 b).2.1 (q.2.1 b).2.2.1) = true)
    (k : ∀ RF' I', mkR S t (add ++ [(1, n)]) (fs ++ [((b : Int), S.1.length + add.length)]) It os RF' I' → sJ l G M (rK d1 c1 s1) Q (κ + 1) (θ + n) (i + 2) ls rest (S.1 ++ (add ++ [(1, n)]), RF', I', 0))
    (hq : (sCd M)[i]? = some (pc, .newarray .boolean, a2, b2) := by rfl) (hq2 : (sCd M)[i + 1]? = some (pc2, .putfield idx, a, b) := by rfl) (hbN : b < cN := by decide) (hft : cFT a b = 2 := by decide) (hini : M.1.name = "<init>" := by rfl) (hn : n ≤ 100000 := by omega) (hc : κ + 1 ≤ c1 := by omega) (hs : θ + n ≤ s1 := by omega) : sJ l G M (rK d1 c1 s1) Q κ θ i ls (.inl (n : Int) :: .inr (.inl t) :: rest) (S.1 ++ add, RF, I, 0) := by
  have hl : (S.1 ++ add).length = S.1.length + add.length := List.length_append
  refine sk_bool ct rfl ?_ hq hn hc hs
  refine sk_put (t := t) ct hown (by show sObj (S.1 ++ add ++ [(1, n)]) a t b; rw [List.append_assoc]; exact mk_obj ht hk hbN) (by show (S.1 ++ add).length ≠ 0; omega) ?_ hq2 hft hini
  have := k _ _ (mkR_arr (q := (1, n)) ht hR hf)
  rw [← List.append_assoc, ← hl] at this
  exact this
theorem mS_o (S : sS) (n k : Nat) : ∀ (i b : Nat), b < S.1.length → (mS S n k i).2.1 b = S.2.1 b ∧ (mS S n k i).2.2.1 b = S.2.2.1 b := by
  intro i
  induction i with
  | zero => intro b hb; exact sMk_o (by omega)
  | succ i ih =>
    intro b hb
    have hl := (mS_len S n k i).1
    have h1 := sMk_o (S := mS S n k i) (q := (0, k)) (b := b) (by omega)
    have h2 := ih b hb
    constructor
    · show sUF (sMk (mS S n k i) (0, k)).2.1 S.1.length i (S.1.length + 1 + i) b = _
      rw [sUF_ne (by omega), h1.1, h2.1]
    · show (sMk (mS S n k i) (0, k)).2.2.1 b = _
      rw [h1.2, h2.2]
theorem mS_z (S : sS) (n k : Nat) : ∀ (i b : Nat) (j : Int), S.1.length ≤ b → b < S.1.length + 1 + i → (mS S n k i).2.2.1 b j = 0 := by
  intro i
  induction i with
  | zero =>
    intro b j h1 h2
    rw [show b = S.1.length by omega]
    exact sMk_n (S := S) (q := (4, n)) j
  | succ i ih =>
    intro b j h1 h2
    have hl := (mS_len S n k i).1
    show (sMk (mS S n k i) (0, k)).2.2.1 b j = 0
    by_cases hb : b = (mS S n k i).1.length
    · rw [hb]
      exact sMk_n (S := mS S n k i) (q := (0, k)) j
    · rw [(sMk_o hb).2]
      exact ih b j h1 (by omega)
theorem mS_sh (S : sS) (n k : Nat) : ∀ i, (mS S n k i).1 = S.1 ++ ((4, n) :: List.replicate i (0, k)) := by
  intro i
  induction i with
  | zero => rfl
  | succ i ih =>
    show (mS S n k i).1 ++ [(0, k)] = _
    rw [ih, List.append_assoc, List.cons_append, ← List.replicate_succ']
theorem mkR_mul {n k : Nat} {f : Int} (ht : t < S.1.length) (h : mkR S t add fs It os RF I) (hf : ∀ p ∈ fs, p.1 ≠ f) : mkR S t (add ++ ((4, n) :: List.replicate n (0, k))) (fs ++ [(f, S.1.length + add.length)]) It (os ++ [(S.1.length + add.length, n)]) (sUF (mS (S.1 ++ add, RF, I, 0) n k n).2.1 t f (S.1.length + add.length)) (mS (S.1 ++ add, RF, I, 0) n k n).2.2.1 := by
  have hl : (S.1 ++ add).length = S.1.length + add.length := List.length_append
  have hla : (add ++ ((4, n) :: List.replicate n (0, k))).length = add.length + (1 + n) := by rw [List.length_append, List.length_cons, List.length_replicate]; omega
  obtain ⟨h1, h2, h3, h4, h5⟩ := h
  refine ⟨fun b hb hbt => ?_, ?_, fun b hb1 hb2 j => ?_, fun p hp => ?_, fun o ho => ?_⟩
  · have := mS_o (S.1 ++ add, RF, I, 0) n k n b (by show b < (S.1 ++ add).length; omega)
    rw [sUF_ne hbt, this.1, this.2]
    exact h1 b hb hbt
  · have := mS_o (S.1 ++ add, RF, I, 0) n k n t (by show t < (S.1 ++ add).length; omega)
    rw [this.2]
    exact h2
  · rw [hla] at hb2
    by_cases hbl : b < (S.1 ++ add).length
    · have := mS_o (S.1 ++ add, RF, I, 0) n k n b hbl
      rw [this.2]
      exact h3 b hb1 (by omega) j
    · exact mS_z (S.1 ++ add, RF, I, 0) n k n b j (by show (S.1 ++ add).length ≤ b; omega) (by show b < (S.1 ++ add).length + 1 + n; omega)
  · rcases List.mem_append.mp hp with hp | hp
    · have := mS_o (S.1 ++ add, RF, I, 0) n k n t (by show t < (S.1 ++ add).length; omega)
      rw [sUF_nj (hf p hp), this.1]
      exact h4 p hp
    · rw [List.mem_singleton] at hp
      rw [hp]
      exact sUF_eq _ _ _ _
  · rcases List.mem_append.mp ho with ho | ho
    · obtain ⟨g1, g2⟩ := h5 o ho
      refine ⟨⟨g1.1, by rw [hla]; omega⟩, fun j hj => ?_⟩
      have := mS_o (S.1 ++ add, RF, I, 0) n k n o.1 (by show o.1 < (S.1 ++ add).length; omega)
      rw [sUF_ne (by omega), this.1]
      exact g2 j hj
    · rw [List.mem_singleton] at ho
      rw [ho]
      refine ⟨⟨by omega, by rw [hla]; omega⟩, fun j hj => ?_⟩
      have := mS_rf (S.1 ++ add, RF, I, 0) n k n j
      rw [sUF_ne (by omega)]
      show (mS (S.1 ++ add, RF, I, 0) n k n).2.1 (S.1.length + add.length) j = _
      rw [← hl]
      rw [if_pos hj] at this
      exact this
theorem sk_mpM {n m idx idx2 cN : Nat} (ct : sCert M) (ht : t < S.1.length) (hk : sKd S.1 t = (a + 5, cN)) (hR : mkR S t add fs It os RF I) (hf : ∀ p ∈ fs, p.1 ≠ (b : Int)) (hown : ∃ q : vw_C, classes[a]? = some q ∧ q.1 = M.1.cls ∧ sIn (Cond.fieldLink M.1.cls idx (q.2.1 b).1 (q.2.1 b).2.1 (q.2.1 b).2.2.1) = true) (hlk : sIn (Cond.classLink M.1.cls idx2 "[[I") = true)
    (k : ∀ RF' I', mkR S t (add ++ ((4, n) :: List.replicate n (0, m))) (fs ++ [((b : Int), S.1.length + add.length)]) It (os ++ [(S.1.length + add.length, n)]) RF' I' → sJ l G M (rK d1 c1 s1) Q (κ + 1 + n) (θ + n + n * m) (i + 2) ls rest (S.1 ++ (add ++ ((4, n) :: List.replicate n (0, m))), RF', I', 0))
    (hq : (sCd M)[i]? = some (pc, .multianewarray idx2 2, a2, b2) := by rfl) (hq2 : (sCd M)[i + 1]? = some (pc2, .putfield idx, a, b) := by rfl) (hbN : b < cN := by decide) (hft : cFT a b = 2 := by decide) (hini : M.1.name = "<init>" := by rfl) (hn : n ≤ 10000 := by omega) (hm : m ≤ 10000 := by omega) (hc : κ + (1 + n) ≤ c1 := by omega) (hs : θ + (n + n * m) ≤ s1 := by omega) : sJ l G M (rK d1 c1 s1) Q κ θ i ls (.inl (m : Int) :: .inl (n : Int) :: .inr (.inl t) :: rest) (S.1 ++ add, RF, I, 0) := by
  have hl : (S.1 ++ add).length = S.1.length + add.length := List.length_append
  refine sj_multi ct hq hlk ac_int (by omega) (by omega) rfl hc hs ?_
  have hsh := mS_sh (S.1 ++ add, RF, I, 0) n m n
  refine sk_put (t := t) ct hown (by rw [hsh]; show sObj (S.1 ++ add ++ _) a t b; rw [List.append_assoc]; exact mk_obj ht hk hbN) (by show (S.1 ++ add).length ≠ 0; omega) ?_ hq2 hft hini
  have := k _ _ (mkR_mul (n := n) (k := m) ht hR hf)
  rw [← List.append_assoc, ← hl] at this
  have h2 := (mS_len (S.1 ++ add, RF, I, 0) n m n).2
  rw [hsh, h2]
  exact this
end CKM
