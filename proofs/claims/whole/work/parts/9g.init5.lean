/-! what the bench's constructor makes -/
theorem lm_Bi_9 : sLm "TermBench" 9 mA_init = true := by decide +kernel
theorem lm_Bi_22 : sLm "TermBench" 22 mT_init = true := by decide +kernel
theorem lm_Bi_45 : sLm "TermBench" 45 mV_init = true := by decide +kernel
theorem lm_Bi_58 : sLm "TermBench" 58 mO_init = true := by decide +kernel
theorem lm_Bi_65 : sLm "TermBench" 65 mU_init = true := by decide +kernel
theorem cl_B7 : sIn (Cond.classLink "TermBench" 7 "TermBench$Alphabet") = true := by decide +kernel
theorem cl_B16 : sIn (Cond.classLink "TermBench" 16 "TermBench$Term") = true := by decide +kernel
theorem cl_B43 : sIn (Cond.classLink "TermBench" 43 "TermBench$Values") = true := by decide +kernel
theorem cl_B56 : sIn (Cond.classLink "TermBench" 56 "TermBench$Ordering") = true := by decide +kernel
theorem cl_B63 : sIn (Cond.classLink "TermBench" 63 "TermBench$Unifier") = true := by decide +kernel
theorem in_A : sIn (Cond.instantiable "TermBench$Alphabet" 3) = true := by decide +kernel
theorem in_T : sIn (Cond.instantiable "TermBench$Term" 3) = true := by decide +kernel
theorem in_V : sIn (Cond.instantiable "TermBench$Values" 1) = true := by decide +kernel
theorem in_O : sIn (Cond.instantiable "TermBench$Ordering" 1) = true := by decide +kernel
theorem in_U : sIn (Cond.instantiable "TermBench$Unifier" 9) = true := by decide +kernel
theorem ii_A : sIn (Cond.initialized "TermBench$Alphabet") = true := by decide +kernel
theorem ii_T : sIn (Cond.initialized "TermBench$Term") = true := by decide +kernel
theorem ii_V : sIn (Cond.initialized "TermBench$Values") = true := by decide +kernel
theorem ii_O : sIn (Cond.initialized "TermBench$Ordering") = true := by decide +kernel
theorem ii_U : sIn (Cond.initialized "TermBench$Unifier") = true := by decide +kernel
section CKN
variable {l : Launch} {G : sG} {M : sM} {Q : sQ} {κ θ i : Nat} {ls : List (Option sV)} {rest : List sV} {pc a b : Nat} {S : sS} {d1 c1 s1 : Nat}
theorem sk_new {idx ci N n : Nat} {C : String} {T : u_T} (ct : sCert M) (hlen : S.1.length = n) (hcl : classes[ci]? = some (C, T, N)) (hlk : sIn (Cond.classLink M.1.cls idx C) = true) (hinst : sIn (Cond.instantiable C N) = true) (hini : sIn (Cond.initialized C) = true) (hx : S.2.2.2 = 0)
    (k : sJ l G M (rK d1 c1 s1) Q (κ + 1) (θ + N) (i + 1) ls (.inr (.inl n) :: rest) (sMk S (ci + 5, N))) (hq : (sCd M)[i]? = some (pc, .new idx, a, b) := by rfl) (hc : κ + 1 ≤ c1 := by omega) (hs : θ + N ≤ s1 := by omega) : sJ l G M (rK d1 c1 s1) Q κ θ i ls rest S := by
  subst hlen
  exact sj_new ct hq hcl hlk hinst hini hx hc hs k
end CKN
/-- the places of a cell that hold references -/
def relB (a j : Nat) : Bool := match sKd (hSh 0) a with
  | (0, _) => false
  | (1, _) => false
  | (2, _) => false
  | (3, n) => decide (j < n)
  | (4, n) => decide (j < n)
  | (k + 5, n) => decide (j < n) && decide (cFT k j = 2)
def nmB (w : Int) (a : Nat) (f : Int → Int) : Prop := (hT a → f 2 = if a = 54 then w else 1) ∧ ((∃ t, hT t ∧ a = t + 1) → ∀ j, f j = if j = 0 then -1 else 0) ∧ ((∃ t, hT t ∧ a = t + 2) → ∀ j, f j = if j = 0 then 1 else 0) ∧ (a = 2 → f 2 = 0) ∧ ((a = 3 ∨ a = 4) → ∀ j, f j = 0) ∧ (a = 69 → ∀ j, 0 ≤ j → j < 6 → f j = -1)
def bW (L n k : Nat) (w : Int) (I0 : sI) (I1 : Int → Int) (fs : List (Int × Nat)) (sh : List (Nat × Nat)) (RF : sF) (I : sI) : Prop := sh = (0, L) :: hTl.take (n - 1) ∧ I 0 = I0 0 ∧ I 1 = I1 ∧ (∀ p ∈ fs, RF 1 p.1 = p.2) ∧ ∀ a, 2 ≤ a → a < n → (∀ j : Nat, relB a j = true → (a = 5 → j < k) → RF a j = hRF a j) ∧ nmB w a (I a)
theorem bW_k {L n a : Nat} (h : a < n) : sKd ((0, L) :: hTl.take (n - 1)) a = sKd (hSh L) a := by
  unfold sKd hSh
  rw [List.getD_eq_getElem?_getD, List.getD_eq_getElem?_getD]
  cases a with
  | zero => rfl
  | succ a => rw [List.getElem?_cons_succ, List.getElem?_cons_succ, List.getElem?_take, if_pos (by omega)]
theorem bW_l {L n : Nat} (h1 : 1 ≤ n) (h2 : n ≤ 125) : ((0, L) :: hTl.take (n - 1)).length = n := by
  rw [List.length_cons, List.length_take, show hTl.length = 124 from rfl]
  omega
theorem nmB_o {w : Int} {a : Nat} {f : Int → Int} (h : ∀ t, hT t → a ≠ t ∧ a ≠ t + 1 ∧ a ≠ t + 2) (h2 : a = 2 → f 2 = 0) (h3 : (a = 3 ∨ a = 4) → ∀ j, f j = 0) (h4 : a = 69 → ∀ j, 0 ≤ j → j < 6 → f j = -1) : nmB w a f :=
  ⟨fun g => absurd rfl (h a g).1, fun ⟨t, g1, g2⟩ => absurd g2 (h t g1).2.1, fun ⟨t, g1, g2⟩ => absurd g2 (h t g1).2.2, h2, h3, h4⟩
theorem bN {L n n' k : Nat} {w : Int} {I0 : sI} {I1 : Int → Int} {fs : List (Int × Nat)} {sh : List (Nat × Nat)} {RF : sF} {I : sI} {q : Nat × Nat} {add : List (Nat × Nat)} {S' : sS} (hW : bW L n k w I0 I1 fs sh RF I) (hn : 2 ≤ n) (hn2 : n ≤ 125) (hnn : n ≤ n') (h1 : S'.1 = sh ++ [q] ++ add) (hx : S'.2.2.2 = 0) (hold : ∀ b, b < n → S'.2.1 b = (sMk (sh, RF, I, 0) q).2.1 b ∧ S'.2.2.1 b = (sMk (sh, RF, I, 0) q).2.2.1 b) (hsh : hTl.take (n - 1) ++ (q :: add) = hTl.take (n' - 1)) (hnew : ∀ a, n ≤ a → a < n' → (∀ j : Nat, relB a j = true → (a = 5 → j < k) → S'.2.1 a j = hRF a j) ∧ nmB w a (S'.2.2.1 a)) : S'.2.2.2 = 0 ∧ bW L n' k w I0 I1 fs S'.1 S'.2.1 S'.2.2.1 := by
  obtain ⟨e1, e2, e3, e4, e5⟩ := hW
  have hl : sh.length = n := by rw [e1]; exact bW_l (by omega) hn2
  have ho : ∀ b, b < n → S'.2.1 b = RF b ∧ S'.2.2.1 b = I b := fun b hb => by
    have g := hold b hb
    have g2 := sMk_o (S := (sh, RF, I, 0)) (q := q) (b := b) (by show b ≠ sh.length; omega)
    exact ⟨g.1.trans g2.1, g.2.trans g2.2⟩
  refine ⟨hx, ?_, by rw [(ho 0 (by omega)).2]; exact e2, by rw [(ho 1 (by omega)).2]; exact e3, fun p hp => by rw [(ho 1 (by omega)).1]; exact e4 p hp, fun a h2 h3 => ?_⟩
  · rw [h1, e1, List.append_assoc, List.cons_append, List.singleton_append, hsh]
  · by_cases ha : a < n
    · rw [(ho a ha).1, (ho a ha).2]
      exact e5 a h2 ha
    · exact hnew a (by omega) h3
theorem bP {L n k : Nat} {w : Int} {I0 : sI} {I1 : Int → Int} {fs : List (Int × Nat)} {sh : List (Nat × Nat)} {RF : sF} {I : sI} {f : Int} {y : Nat} (hW : bW L n k w I0 I1 fs sh RF I) (hf : ∀ p ∈ fs, p.1 ≠ f) : bW L n k w I0 I1 (fs ++ [(f, y)]) sh (sUF RF 1 f y) I := by
  obtain ⟨e1, e2, e3, e4, e5⟩ := hW
  refine ⟨e1, e2, e3, fun p hp => ?_, fun a h2 h3 => ?_⟩
  · rcases List.mem_append.mp hp with hp | hp
    · rw [sUF_nj (hf p hp)]
      exact e4 p hp
    · rw [List.mem_singleton] at hp
      rw [hp]
      exact sUF_eq _ _ _ _
  · rw [sUF_ne (by omega)]
    exact e5 a h2 h3
theorem bA {L n k : Nat} {w : Int} {I0 : sI} {I1 : Int → Int} {fs : List (Int × Nat)} {sh : List (Nat × Nat)} {RF : sF} {I : sI} (hW : bW L n k w I0 I1 fs sh RF I) : bW L n (k + 1) w I0 I1 fs sh (sUF RF 5 k (6 + 3 * k)) I := by
  obtain ⟨e1, e2, e3, e4, e5⟩ := hW
  refine ⟨e1, e2, e3, fun p hp => by rw [sUF_ne (by omega)]; exact e4 p hp, fun a h2 h3 => ⟨fun j hr hj => ?_, (e5 a h2 h3).2⟩⟩
  by_cases ha : a = 5
  · subst ha
    by_cases hjk : (j : Int) = (k : Int)
    · rw [hjk, sUF_eq]
      rfl
    · rw [sUF_nj hjk]
      exact (e5 5 h2 h3).1 j hr (fun _ => by have := hj rfl; omega)
  · rw [sUF_ne ha]
    exact (e5 a h2 h3).1 j hr (fun h => absurd h ha)
theorem bR2 {L n k : Nat} {w : Int} {I0 : sI} {I1 : Int → Int} {fs : List (Int × Nat)} {sh : List (Nat × Nat)} {RF : sF} {I : sI} (hW : bW L n k w I0 I1 fs sh RF I) : bW L n k 0 I0 (fun j => if j = 3 then 1 else I1 j) fs sh RF (sU (sU I 54 2 0) 1 3 1) := by
  obtain ⟨e1, e2, e3, e4, e5⟩ := hW
  refine ⟨e1, by rw [sU_ne (by omega), sU_ne (by omega)]; exact e2, ?_, e4, fun a h2 h3 => ⟨(e5 a h2 h3).1, ?_⟩⟩
  · funext j
    by_cases hj : j = 3
    · rw [hj, hU_eq, if_pos rfl]
    · rw [hU_nj hj, if_neg hj, sU_ne (by omega), e3]
  · rw [sU_ne (by omega)]
    obtain ⟨g1, g2, g3, g4, g5, g6⟩ := (e5 a h2 h3).2
    by_cases ha : a = 54
    · subst ha
      refine ⟨fun _ => by rw [hU_eq, if_pos rfl], fun ⟨t, q1, q2⟩ => ?_, fun ⟨t, q1, q2⟩ => ?_, fun h => by omega, fun h => by omega, fun h => by omega⟩
      · have := hT_lt q1
        omega
      · have := hT_lt q1
        omega
    · rw [sU_ne ha]
      refine ⟨fun h => by rw [if_neg ha]; have := g1 h; rw [if_neg ha] at this; exact this, g2, g3, g4, g5, g6⟩
theorem hT_rel {n : Nat} (hn : hT n) : (∀ j, relB n j = true → j = 0 ∨ j = 1) ∧ (∀ j, relB (n + 1) j = false) ∧ ∀ j, relB (n + 2) j = false := by
  obtain ⟨h1, h2, h3⟩ := hT_k 0 hn
  refine ⟨fun j hj => ?_, fun j => ?_, fun j => ?_⟩
  · unfold relB at hj
    rw [h1] at hj
    simp only [Bool.and_eq_true, decide_eq_true_eq] at hj
    obtain ⟨j1, j2⟩ := hj
    have : j = 0 ∨ j = 1 ∨ j = 2 := by omega
    rcases this with rfl | rfl | rfl
    · exact Or.inl rfl
    · exact Or.inr rfl
    · exact absurd j2 (by decide)
  · unfold relB
    rw [h2]
  · unfold relB
    rw [h3]
theorem bT {L n k : Nat} {w : Int} {I0 : sI} {I1 : Int → Int} {fs : List (Int × Nat)} {sh : List (Nat × Nat)} {RF : sF} {I : sI} {S' : sS} (hW : bW L n k w I0 I1 fs sh RF I) (hn : hT n) (hn2 : n ≤ 100) (hw : n = 54 → w = 1) (hsh : hTl.take (n - 1) ++ ((7, 3) :: [(0, 100), (0, 100)]) = hTl.take (n + 3 - 1))
    (h : xt (sMk (sh, RF, I, 0) (7, 3)) n [(0, 100), (0, 100)] S' ∧ S'.2.1 n 0 = (sMk (sh, RF, I, 0) (7, 3)).1.length ∧ S'.2.1 n 1 = (sMk (sh, RF, I, 0) (7, 3)).1.length + 1 ∧ S'.2.2.1 n 2 = 1 ∧ (∀ j, S'.2.2.1 (sMk (sh, RF, I, 0) (7, 3)).1.length j = if j = 0 then -1 else 0) ∧ ∀ j, S'.2.2.1 ((sMk (sh, RF, I, 0) (7, 3)).1.length + 1) j = if j = 0 then 1 else 0) : S'.2.2.2 = 0 ∧ bW L (n + 3) k w I0 I1 fs S'.1 S'.2.1 S'.2.2.1 := by
  have hnl := hT_lt hn
  have hl : sh.length = n := by rw [hW.1]; exact bW_l (by omega) (by omega)
  have hl2 : (sMk (sh, RF, I, 0) (7, 3)).1.length = n + 1 := by
    show (sh ++ [(7, 3)]).length = _
    rw [List.length_append, List.length_singleton, hl]
  rw [hl2] at h
  obtain ⟨⟨x1, x2, x3⟩, r0, r1, w2, c1, c2⟩ := h
  rw [hl2] at x3
  obtain ⟨re1, re2, re3⟩ := hT_rel hn
  refine bN hW (by omega) (by omega) (by omega) x1 x2 (fun b hb => x3 b (by omega) (by omega)) hsh (fun a h1 h2 => ?_)
  have : a = n ∨ a = n + 1 ∨ a = n + 2 := by omega
  rcases this with ha | ha | ha <;> subst ha
  · refine ⟨fun j hr _ => ?_, ⟨fun _ => ?_, fun ⟨t, q1, q2⟩ => ?_, fun ⟨t, q1, q2⟩ => ?_, fun h => by omega, fun h => by omega, fun h => by omega⟩⟩
    · rcases re1 j hr with hj | hj <;> subst hj
      · exact r0.trans (hF_T0 hn).symm
      · exact r1.trans (hF_T1 hn).symm
    · rw [w2]
      by_cases h54 : a = 54
      · rw [if_pos h54, hw h54]
      · rw [if_neg h54]
    · have := hT_lt q1
      omega
    · have := hT_lt q1
      omega
  · refine ⟨fun j hr _ => (by rw [re2 j] at hr; cases hr), ⟨fun q => ?_, fun _ => c1, fun ⟨t, q1, q2⟩ => ?_, fun h => by omega, fun h => by omega, fun h => by omega⟩⟩
    · have := hT_lt q
      omega
    · have := hT_lt q1
      omega
  · refine ⟨fun j hr _ => (by rw [re3 j] at hr; cases hr), ⟨fun q => ?_, fun ⟨t, q1, q2⟩ => ?_, fun _ => c2, fun h => by omega, fun h => by omega, fun h => by omega⟩⟩
    · have := hT_lt q
      omega
    · have := hT_lt q1
      omega
theorem bW_o {L n k : Nat} {w : Int} {I0 : sI} {I1 : Int → Int} {fs : List (Int × Nat)} {sh : List (Nat × Nat)} {RF : sF} {I : sI} {f : Nat} (hW : bW L n k w I0 I1 fs sh RF I) (hn : 2 ≤ n) (hf : f < 13) : sObj sh 0 1 f := by
  have : sKd sh 1 = (5, 13) := by rw [hW.1, bW_k (by omega)]; rfl
  unfold sObj
  rw [this]
  exact ⟨rfl, hf⟩
theorem bO {L n n' k : Nat} {w : Int} {I0 : sI} {I1 : Int → Int} {fs : List (Int × Nat)} {sh : List (Nat × Nat)} {RF : sF} {I : sI} {S' : sS} {q : Nat × Nat} {add : List (Nat × Nat)} {fsO : List (Int × Nat)} (hW : bW L n k w I0 I1 fs sh RF I) (hn1 : 2 ≤ n) (hn2 : n ≤ 100) (hnn : n' = n + 1 + add.length) (hsh : hTl.take (n - 1) ++ (q :: add) = hTl.take (n' - 1))
    (h : mkO (sMk (sh, RF, I, 0) q) n add fsO ((sMk (sh, RF, I, 0) q).2.2.1 n) S') (hnt : ∀ a, n ≤ a → a < n' → a ≠ 69 ∧ ∀ t, hT t → a ≠ t ∧ a ≠ t + 1 ∧ a ≠ t + 2) (hrel : (∀ p ∈ fsO, S'.2.1 n p.1 = p.2) → ∀ a, n ≤ a → a < n' → ∀ j : Nat, relB a j = true → S'.2.1 a j = hRF a j) : S'.2.2.2 = 0 ∧ bW L n' k w I0 I1 fs S'.1 S'.2.1 S'.2.2.1 := by
  have hl : sh.length = n := by rw [hW.1]; exact bW_l (by omega) (by omega)
  have hl2 : (sMk (sh, RF, I, 0) q).1.length = n + 1 := by
    show (sh ++ [q]).length = _
    rw [List.length_append, List.length_singleton, hl]
  obtain ⟨x1, x2, m1, m2, m3, m4, -⟩ := h
  rw [hl2] at m1 m3
  refine bN hW hn1 (by omega) (by omega) x1 x2 (fun b hb => m1 b (by omega) (by omega)) hsh (fun a h1 h2 => ⟨fun j hr _ => hrel m4 a h1 h2 j hr, ?_⟩)
  have hz : ∀ j, S'.2.2.1 a j = 0 := fun j => by
    by_cases ha : a = n
    · rw [ha, m2, ← hl]
      exact sMk_n (S := (sh, RF, I, 0)) (q := q) j
    · exact m3 a (by omega) (by omega) j
  exact nmB_o (hnt a h1 h2).2 (fun _ => hz 2) (fun _ => hz) (fun h => absurd h (hnt a h1 h2).1)
section CKB
variable {l : Launch} {G : sG} {d L : Nat} {k : Nat} {w : Int} {I0 : sI} {I1 : Int → Int} {fs : List (Int × Nat)} {sh : List (Nat × Nat)} {RF : sF} {I : sI} {S' : sS}
theorem bV {n : Nat} (hW : bW L n k w I0 I1 fs sh RF I) (hn : n = 66 ∨ n = 68) (h : xt (sMk (sh, RF, I, 0) (8, 1)) n [(0, 6)] S' ∧ S'.2.1 n 0 = (sMk (sh, RF, I, 0) (8, 1)).1.length ∧ ∀ j, 0 ≤ j → j < 6 → S'.2.2.1 (sMk (sh, RF, I, 0) (8, 1)).1.length j = -1) : S'.2.2.2 = 0 ∧ bW L (n + 2) k w I0 I1 fs S'.1 S'.2.1 S'.2.2.1 := by
  have hl : sh.length = n := by rw [hW.1]; exact bW_l (by omega) (by omega)
  have hl2 : (sMk (sh, RF, I, 0) (8, 1)).1.length = n + 1 := by
    show (sh ++ [(8, 1)]).length = _
    rw [List.length_append, List.length_singleton, hl]
  rw [hl2] at h
  obtain ⟨⟨x1, x2, x3⟩, r0, c1⟩ := h
  rw [hl2] at x3
  have hsh : hTl.take (n - 1) ++ ((8, 1) :: [(0, 6)]) = hTl.take (n + 2 - 1) := by rcases hn with rfl | rfl <;> rfl
  refine bN hW (by omega) (by omega) (by omega) x1 x2 (fun b hb => x3 b (by omega) (by omega)) hsh (fun a h1 h2 => ?_)
  have hnt : ∀ t, hT t → a ≠ t ∧ a ≠ t + 1 ∧ a ≠ t + 2 := fun t ht => by have := hT_lt ht; omega
  have : a = n ∨ a = n + 1 := by omega
  rcases this with ha | ha
  · refine ⟨fun j hr _ => ?_, nmB_o hnt (fun h => by omega) (fun h => by omega) (fun h => by omega)⟩
    subst ha
    have hj : j = 0 := by
      rcases hn with rfl | rfl
      · have hr' : (decide (j < 1) && decide (cFT 3 j = 2)) = true := hr
        simp only [Bool.and_eq_true, decide_eq_true_eq] at hr'
        omega
      · have hr' : (decide (j < 1) && decide (cFT 3 j = 2)) = true := hr
        simp only [Bool.and_eq_true, decide_eq_true_eq] at hr'
        omega
    subst hj
    refine r0.trans ?_
    rcases hn with rfl | rfl <;> rfl
  · refine ⟨fun j hr _ => ?_, nmB_o hnt (fun h => by omega) (fun h => by omega) (fun _ j j0 j1 => by rw [ha]; exact c1 j j0 j1)⟩
    rcases hn with rfl | rfl <;> subst ha <;> cases hr

theorem bO_A (hW : bW L 2 k w I0 I1 fs sh RF I) (h : mkO (sMk (sh, RF, I, 0) (6, 3)) 2 [(0, 40), (1, 40)] [(0, (sMk (sh, RF, I, 0) (6, 3)).1.length), (1, (sMk (sh, RF, I, 0) (6, 3)).1.length + 1)] ((sMk (sh, RF, I, 0) (6, 3)).2.2.1 2) S') : S'.2.2.2 = 0 ∧ bW L 5 k w I0 I1 fs S'.1 S'.2.1 S'.2.2.1 := by
  have hl : sh.length = 2 := by rw [hW.1]; exact bW_l (by omega) (by omega)
  have hl2 : (sMk (sh, RF, I, 0) (6, 3)).1.length = 3 := by
    show (sh ++ [(6, 3)]).length = _
    rw [List.length_append, List.length_singleton, hl]
  rw [hl2] at h
  refine bO hW (by omega) (by omega) rfl rfl h (fun a h1 h2 => ⟨by omega, fun t ht => by have := hT_lt ht; omega⟩) (fun hf a h1 h2 j hr => ?_)
  have hac : a = 2 ∨ a = 3 ∨ a = 4 := by omega
  rcases hac with rfl | rfl | rfl
  · have hr' : (decide (j < 3) && decide (cFT 1 j = 2)) = true := hr
    simp only [Bool.and_eq_true, decide_eq_true_eq] at hr'
    have hjc : j = 0 ∨ j = 1 ∨ j = 2 := by omega
    rcases hjc with rfl | rfl | rfl
    · exact hf (0, 3) (by simp)
    · exact hf (1, 4) (by simp)
    · exact absurd hr'.2 (by decide)
  · cases hr
  · cases hr

theorem bO_O (hW : bW L 73 k w I0 I1 fs sh RF I) (h : mkO (sMk (sh, RF, I, 0) (9, 1)) 73 [(0, 6)] [(0, (sMk (sh, RF, I, 0) (9, 1)).1.length)] ((sMk (sh, RF, I, 0) (9, 1)).2.2.1 73) S') : S'.2.2.2 = 0 ∧ bW L 75 k w I0 I1 fs S'.1 S'.2.1 S'.2.2.1 := by
  have hl : sh.length = 73 := by rw [hW.1]; exact bW_l (by omega) (by omega)
  have hl2 : (sMk (sh, RF, I, 0) (9, 1)).1.length = 74 := by
    show (sh ++ [(9, 1)]).length = _
    rw [List.length_append, List.length_singleton, hl]
  rw [hl2] at h
  refine bO hW (by omega) (by omega) rfl rfl h (fun a h1 h2 => ⟨by omega, fun t ht => by have := hT_lt ht; omega⟩) (fun hf a h1 h2 j hr => ?_)
  have hac : a = 73 ∨ a = 74 := by omega
  rcases hac with rfl | rfl
  · have hr' : (decide (j < 1) && decide (cFT 4 j = 2)) = true := hr
    simp only [Bool.and_eq_true, decide_eq_true_eq] at hr'
    have hjc : j = 0 := by omega
    rcases hjc with rfl
    · exact hf (0, 74) (by simp)
  · cases hr

theorem bO_U (hW : bW L 75 k w I0 I1 fs sh RF I) (h : mkO (sMk (sh, RF, I, 0) (10, 9)) 75 [(0, 200), (0, 200), (0, 212), (0, 212), (0, 201), (0, 201), (0, 12), (0, 12)] [(0, (sMk (sh, RF, I, 0) (10, 9)).1.length), (1, (sMk (sh, RF, I, 0) (10, 9)).1.length + 1), (2, (sMk (sh, RF, I, 0) (10, 9)).1.length + 2), (3, (sMk (sh, RF, I, 0) (10, 9)).1.length + 3), (4, (sMk (sh, RF, I, 0) (10, 9)).1.length + 4), (5, (sMk (sh, RF, I, 0) (10, 9)).1.length + 5), (7, (sMk (sh, RF, I, 0) (10, 9)).1.length + 6), (8, (sMk (sh, RF, I, 0) (10, 9)).1.length + 7)] ((sMk (sh, RF, I, 0) (10, 9)).2.2.1 75) S') : S'.2.2.2 = 0 ∧ bW L 84 k w I0 I1 fs S'.1 S'.2.1 S'.2.2.1 := by
  have hl : sh.length = 75 := by rw [hW.1]; exact bW_l (by omega) (by omega)
  have hl2 : (sMk (sh, RF, I, 0) (10, 9)).1.length = 76 := by
    show (sh ++ [(10, 9)]).length = _
    rw [List.length_append, List.length_singleton, hl]
  rw [hl2] at h
  refine bO hW (by omega) (by omega) rfl rfl h (fun a h1 h2 => ⟨by omega, fun t ht => by have := hT_lt ht; omega⟩) (fun hf a h1 h2 j hr => ?_)
  have hac : a = 75 ∨ a = 76 ∨ a = 77 ∨ a = 78 ∨ a = 79 ∨ a = 80 ∨ a = 81 ∨ a = 82 ∨ a = 83 := by omega
  rcases hac with rfl | rfl | rfl | rfl | rfl | rfl | rfl | rfl | rfl
  · have hr' : (decide (j < 9) && decide (cFT 5 j = 2)) = true := hr
    simp only [Bool.and_eq_true, decide_eq_true_eq] at hr'
    have hjc : j = 0 ∨ j = 1 ∨ j = 2 ∨ j = 3 ∨ j = 4 ∨ j = 5 ∨ j = 6 ∨ j = 7 ∨ j = 8 := by omega
    rcases hjc with rfl | rfl | rfl | rfl | rfl | rfl | rfl | rfl | rfl
    · exact hf (0, 76) (by simp)
    · exact hf (1, 77) (by simp)
    · exact hf (2, 78) (by simp)
    · exact hf (3, 79) (by simp)
    · exact hf (4, 80) (by simp)
    · exact hf (5, 81) (by simp)
    · exact absurd hr'.2 (by decide)
    · exact hf (7, 82) (by simp)
    · exact hf (8, 83) (by simp)
  · cases hr
  · cases hr
  · cases hr
  · cases hr
  · cases hr
  · cases hr
  · cases hr
  · cases hr

def fsB : List (Int × Nat) := [(0, 2), (1, 5), (2, 54), (4, 57), (5, 60), (6, 63), (7, 66), (8, 68), (9, 70), (10, 73), (11, 75)]
theorem sk_anew {M : sM} {Q : sQ} {κ θ i : Nat} {ls : List (Option sV)} {rest : List sV} {pc a b : Nat} {S : sS} {d1 c1 s1 : Nat} {n idx m : Nat} (ct : sCert M) (hlen : S.1.length = m) (hlk : sIn (Cond.classLink M.1.cls idx "TermBench$Term") = true) (hx : S.2.2.2 = 0) (k : sJ l G M (rK d1 c1 s1) Q (κ + 1) (θ + n) (i + 1) ls (.inr (.inl m) :: rest) (sMk S (3, n))) (hq : (sCd M)[i]? = some (pc, .anewarray idx, a, b) := by rfl) (hn : n ≤ 100000 := by omega) (hc : κ + 1 ≤ c1 := by omega) (hs : θ + n ≤ s1 := by omega) : sJ l G M (rK d1 c1 s1) Q κ θ i ls (.inl (n : Int) :: rest) S := by
  subst hlen
  exact sj_anewa ct hq hlk (by omega) (by omega) hx hc hs k
theorem bS (hW : bW L 5 0 w I0 I1 fs sh RF I) : bW L 6 0 w I0 I1 fs (sMk (sh, RF, I, 0) (3, 16)).1 (sMk (sh, RF, I, 0) (3, 16)).2.1 (sMk (sh, RF, I, 0) (3, 16)).2.2.1 := by
  refine (bN (S' := sMk (sh, RF, I, 0) (3, 16)) (add := []) hW (by omega) (by omega) (by omega) (by show sh ++ [(3, 16)] = _; rw [List.append_nil]) rfl (fun b hb => ⟨rfl, rfl⟩) rfl (fun a h1 h2 => ⟨fun j hr hj => ?_, ?_⟩)).2
  · have := hj (by omega)
    omega
  · exact nmB_o (fun t ht => by have := hT_lt ht; omega) (fun h => by omega) (fun h => by omega) (fun h => by omega)
theorem hTl_t : ∀ k, k < 16 → hTl.take (6 + 3 * k - 1) ++ ((7, 3) :: [(0, 100), (0, 100)]) = hTl.take (6 + 3 * k + 3 - 1) := by decide +kernel

theorem c_B_in {I : sI} (hI1 : I 1 = fun _ => 0) : sCall l G mB_init (rK (d + 2) 82 5642) [.inr (.inl 1)] ([(0, L), (5, 13)], RF, I, 0) (qS (fun S' => S'.2.2.2 = 0 ∧ bW L 84 16 0 I (fun j => if j = 3 then 1 else 0) fsB S'.1 S'.2.1 S'.2.2.1)) := by
  refine sCall_of (by decide) (Nat.le_of_ble_eq_true rfl) (sV1s_c trivial sV1s_n) rfl ?_
  show sJ l G mB_init (rK (d + 2) 82 5642) _ 0 0 0 [some (.inr (.inl 1)), none] [] ([(0, L), (5, 13)], RF, I, 0)
  have W0 : bW L 2 0 1 I (fun _ => 0) [] [(0, L), (5, 13)] RF I := ⟨rfl, rfl, hI1, fun p hp => (by cases hp), fun a h1 h2 => by omega⟩
  refine sg_B_in_0 (k := ?_)
  refine sk_obj ct_B_init oi_B ?_
  refine sg_B_in_1 (k := ?_)
  refine sk_new (n := 2) (ci := 1) (N := 3) (T := cF1) (C := "TermBench$Alphabet") ct_B_init rfl rfl cl_B7 in_A ii_A rfl ?_
  refine sg_B_in_d (k := ?_)
  refine sk_I (t := 2) ct_B_init lk_A_init lm_Bi_9 (by decide) (c_A_in (d := d) (by decide) (by show 2 < 3; decide) rfl rfl) (fun S1 h1 => ?_)
  obtain ⟨sh1, RF1, I1, x1⟩ := S1
  obtain ⟨hx1, W1⟩ := bO_A W0 h1
  change x1 = 0 at hx1
  subst hx1
  change bW _ _ _ _ _ _ _ sh1 RF1 I1 at W1
  refine sk_put (t := 1) (y := 2) ct_B_init ow_B0 (by show sObj sh1 0 1 0; exact bW_o W1 (by omega) (by decide)) (by decide) ?_
  have P1 := bP (f := ((0 : Nat) : Int)) (y := 2) W1 (by simp)
  refine sg_B_in_2 (k := ?_)
  refine sk_anew (n := 16) (m := 5) ct_B_init (by show sh1.length = 5; rw [W1.1]; exact bW_l (by omega) (by omega)) cl_B16 rfl ?_
  have W2 := bS P1
  refine sk_put (t := 1) (y := 5) ct_B_init ow_B1 (bW_o W2 (by omega) (by decide)) (by decide) ?_
  have P2 := bP (f := ((1 : Nat) : Int)) (y := 5) W2 (by simp)
  refine sg_B_in_3 (k := ?_)
  have loop : ∀ (m k : Nat) (sh : List (Nat × Nat)) (RF : sF) (I2 : sI), m = 16 - k → k ≤ 16 → bW L (6 + 3 * k) k 1 I (fun _ => 0) [(0, 2), (1, 5)] sh RF I2 → sJ l G mB_init (rK (d + 2) 82 5642) (qS (fun S' => S'.2.2.2 = 0 ∧ bW L 84 16 0 I (fun j => if j = 3 then 1 else 0) fsB S'.1 S'.2.1 S'.2.2.1)) (4 + 3 * k) (99 + 203 * k) 13 [some (.inr (.inl 1)), some (.inl (k : Int))] [] (sh, RF, I2, 0) := by
    intro m
    induction m with
    | zero =>
      intro k sh3 RF3 I3 hm hk W3
      have hk' : k = 16 := by omega
      subst hk'
      refine sg_B_in_x (k := ?_)

      have hl4 : sh3.length = 54 := by rw [W3.1]; exact bW_l (by omega) (by omega)
      refine sk_new (n := 54) (ci := 2) (N := 3) (T := cF2) (C := "TermBench$Term") ct_B_init hl4 rfl cl_B16 in_T ii_T rfl ?_
      refine sg_B_in_rd (k := ?_)
      refine sk_I (t := 54) ct_B_init lk_T_init lm_Bi_22 (by decide) (c_T_in (d := d) (by decide) (by show 54 < (sh3 ++ [(7, 3)]).length; rw [List.length_append, hl4]; decide) (by show sKd (sh3 ++ [(7, 3)]) 54 = _; rw [← hl4, sKd_last]) rfl) (fun S4 h4 => ?_)
      obtain ⟨sh4, RF4, I4, x4⟩ := S4
      obtain ⟨hx4, W4⟩ := bT (n := 54) W3 hT_54 (by omega) (fun h => by first | rfl | omega) rfl h4
      change x4 = 0 at hx4
      subst hx4
      change bW _ _ _ _ _ _ _ sh4 RF4 I4 at W4
      refine sk_put (t := 1) (y := 54) ct_B_init ow_B2 (bW_o W4 (by omega) (by decide)) (by decide) ?_
      have P4 := bP (f := ((2 : Nat) : Int)) (y := 54) W4 (by simp)
      have o54 : sObj sh4 2 54 2 := by
        unfold sObj
        rw [W4.1, bW_k (by omega), (hT_k L hT_54).1]
        decide
      refine sg_B_in_r2 (c2 := 54) (o1 := bW_o P4 (by omega) (by decide)) (e2 := P4.2.2.2.1 (2, 54) (by simp)) (o4 := o54) (o5 := bW_o P4 (by omega) (by decide)) (h6 := by decide) (k := ?_)
      have P4r := bR2 P4
      have hl5 : sh4.length = 57 := by rw [P4r.1]; exact bW_l (by omega) (by omega)
      refine sk_new (n := 57) (ci := 2) (N := 3) (T := cF2) (C := "TermBench$Term") ct_B_init hl5 rfl cl_B16 in_T ii_T rfl ?_
      refine sg_B_in_wd (k := ?_)
      refine sk_I (t := 57) ct_B_init lk_T_init lm_Bi_22 (by decide) (c_T_in (d := d) (by decide) (by show 57 < (sh4 ++ [(7, 3)]).length; rw [List.length_append, hl5]; decide) (by show sKd (sh4 ++ [(7, 3)]) 57 = _; rw [← hl5, sKd_last]) rfl) (fun S5 h5 => ?_)
      obtain ⟨sh5, RF5, I5, x5⟩ := S5
      obtain ⟨hx5, W5⟩ := bT (n := 57) P4r hT_57 (by omega) (fun h => by first | rfl | omega) rfl h5
      change x5 = 0 at hx5
      subst hx5
      change bW _ _ _ _ _ _ _ sh5 RF5 I5 at W5
      refine sk_put (t := 1) (y := 57) ct_B_init ow_B4 (bW_o W5 (by omega) (by decide)) (by decide) ?_
      have P5 := bP (f := ((4 : Nat) : Int)) (y := 57) W5 (by simp)
      refine sg_B_in_s0 (k := ?_)
      have hl6 : sh5.length = 60 := by rw [P5.1]; exact bW_l (by omega) (by omega)
      refine sk_new (n := 60) (ci := 2) (N := 3) (T := cF2) (C := "TermBench$Term") ct_B_init hl6 rfl cl_B16 in_T ii_T rfl ?_
      refine sg_B_in_sd (k := ?_)
      refine sk_I (t := 60) ct_B_init lk_T_init lm_Bi_22 (by decide) (c_T_in (d := d) (by decide) (by show 60 < (sh5 ++ [(7, 3)]).length; rw [List.length_append, hl6]; decide) (by show sKd (sh5 ++ [(7, 3)]) 60 = _; rw [← hl6, sKd_last]) rfl) (fun S6 h6 => ?_)
      obtain ⟨sh6, RF6, I6, x6⟩ := S6
      obtain ⟨hx6, W6⟩ := bT (n := 60) P5 hT_60 (by omega) (fun h => by first | rfl | omega) rfl h6
      change x6 = 0 at hx6
      subst hx6
      change bW _ _ _ _ _ _ _ sh6 RF6 I6 at W6
      refine sk_put (t := 1) (y := 60) ct_B_init ow_B5 (bW_o W6 (by omega) (by decide)) (by decide) ?_
      have P6 := bP (f := ((5 : Nat) : Int)) (y := 60) W6 (by simp)
      refine sg_B_in_f0 (k := ?_)
      have hl7 : sh6.length = 63 := by rw [P6.1]; exact bW_l (by omega) (by omega)
      refine sk_new (n := 63) (ci := 2) (N := 3) (T := cF2) (C := "TermBench$Term") ct_B_init hl7 rfl cl_B16 in_T ii_T rfl ?_
      refine sg_B_in_fd (k := ?_)
      refine sk_I (t := 63) ct_B_init lk_T_init lm_Bi_22 (by decide) (c_T_in (d := d) (by decide) (by show 63 < (sh6 ++ [(7, 3)]).length; rw [List.length_append, hl7]; decide) (by show sKd (sh6 ++ [(7, 3)]) 63 = _; rw [← hl7, sKd_last]) rfl) (fun S7 h7 => ?_)
      obtain ⟨sh7, RF7, I7, x7⟩ := S7
      obtain ⟨hx7, W7⟩ := bT (n := 63) P6 hT_63 (by omega) (fun h => by first | rfl | omega) rfl h7
      change x7 = 0 at hx7
      subst hx7
      change bW _ _ _ _ _ _ _ sh7 RF7 I7 at W7
      refine sk_put (t := 1) (y := 63) ct_B_init ow_B6 (bW_o W7 (by omega) (by decide)) (by decide) ?_
      have P7 := bP (f := ((6 : Nat) : Int)) (y := 63) W7 (by simp)
      refine sg_B_in_u0 (k := ?_)
      have hl8 : sh7.length = 66 := by rw [P7.1]; exact bW_l (by omega) (by omega)
      refine sk_new (n := 66) (ci := 3) (N := 1) (T := cF3) (C := "TermBench$Values") ct_B_init hl8 rfl cl_B43 in_V ii_V rfl ?_
      refine sg_B_in_ud (k := ?_)
      refine sk_I (t := 66) ct_B_init lk_V_init lm_Bi_45 (by decide) (c_V_in (d := d) (by decide) (by show 66 < (sh7 ++ [(8, 1)]).length; rw [List.length_append, hl8]; decide) (by show sKd (sh7 ++ [(8, 1)]) 66 = _; rw [← hl8, sKd_last]) rfl) (fun S8 h8 => ?_)
      obtain ⟨sh8, RF8, I8, x8⟩ := S8
      obtain ⟨hx8, W8⟩ := bV (n := 66) P7 (by omega) h8
      change x8 = 0 at hx8
      subst hx8
      change bW _ _ _ _ _ _ _ sh8 RF8 I8 at W8
      refine sk_put (t := 1) (y := 66) ct_B_init ow_B7 (bW_o W8 (by omega) (by decide)) (by decide) ?_
      have P8 := bP (f := ((7 : Nat) : Int)) (y := 66) W8 (by simp)
      refine sg_B_in_v0 (k := ?_)
      have hl9 : sh8.length = 68 := by rw [P8.1]; exact bW_l (by omega) (by omega)
      refine sk_new (n := 68) (ci := 3) (N := 1) (T := cF3) (C := "TermBench$Values") ct_B_init hl9 rfl cl_B43 in_V ii_V rfl ?_
      refine sg_B_in_vd (k := ?_)
      refine sk_I (t := 68) ct_B_init lk_V_init lm_Bi_45 (by decide) (c_V_in (d := d) (by decide) (by show 68 < (sh8 ++ [(8, 1)]).length; rw [List.length_append, hl9]; decide) (by show sKd (sh8 ++ [(8, 1)]) 68 = _; rw [← hl9, sKd_last]) rfl) (fun S9 h9 => ?_)
      obtain ⟨sh9, RF9, I9, x9⟩ := S9
      obtain ⟨hx9, W9⟩ := bV (n := 68) P8 (by omega) h9
      change x9 = 0 at hx9
      subst hx9
      change bW _ _ _ _ _ _ _ sh9 RF9 I9 at W9
      refine sk_put (t := 1) (y := 68) ct_B_init ow_B8 (bW_o W9 (by omega) (by decide)) (by decide) ?_
      have P9 := bP (f := ((8 : Nat) : Int)) (y := 68) W9 (by simp)
      refine sg_B_in_q0 (k := ?_)
      have hl10 : sh9.length = 70 := by rw [P9.1]; exact bW_l (by omega) (by omega)
      refine sk_new (n := 70) (ci := 2) (N := 3) (T := cF2) (C := "TermBench$Term") ct_B_init hl10 rfl cl_B16 in_T ii_T rfl ?_
      refine sg_B_in_qd (k := ?_)
      refine sk_I (t := 70) ct_B_init lk_T_init lm_Bi_22 (by decide) (c_T_in (d := d) (by decide) (by show 70 < (sh9 ++ [(7, 3)]).length; rw [List.length_append, hl10]; decide) (by show sKd (sh9 ++ [(7, 3)]) 70 = _; rw [← hl10, sKd_last]) rfl) (fun S10 h10 => ?_)
      obtain ⟨sh10, RF10, I10, x10⟩ := S10
      obtain ⟨hx10, W10⟩ := bT (n := 70) P9 hT_70 (by omega) (fun h => by first | rfl | omega) rfl h10
      change x10 = 0 at hx10
      subst hx10
      change bW _ _ _ _ _ _ _ sh10 RF10 I10 at W10
      refine sk_put (t := 1) (y := 70) ct_B_init ow_B9 (bW_o W10 (by omega) (by decide)) (by decide) ?_
      have P10 := bP (f := ((9 : Nat) : Int)) (y := 70) W10 (by simp)
      refine sg_B_in_o0 (k := ?_)
      have hl11 : sh10.length = 73 := by rw [P10.1]; exact bW_l (by omega) (by omega)
      refine sk_new (n := 73) (ci := 4) (N := 1) (T := cF4) (C := "TermBench$Ordering") ct_B_init hl11 rfl cl_B56 in_O ii_O rfl ?_
      refine sg_B_in_od (k := ?_)
      refine sk_I (t := 73) ct_B_init lk_O_init lm_Bi_58 (by decide) (c_O_in (d := d) (by decide) (by show 73 < (sh10 ++ [(9, 1)]).length; rw [List.length_append, hl11]; decide) (by show sKd (sh10 ++ [(9, 1)]) 73 = _; rw [← hl11, sKd_last]) rfl) (fun S11 h11 => ?_)
      obtain ⟨sh11, RF11, I11, x11⟩ := S11
      obtain ⟨hx11, W11⟩ := bO_O P10 h11
      change x11 = 0 at hx11
      subst hx11
      change bW _ _ _ _ _ _ _ sh11 RF11 I11 at W11
      refine sk_put (t := 1) (y := 73) ct_B_init ow_B10 (bW_o W11 (by omega) (by decide)) (by decide) ?_
      have P11 := bP (f := ((10 : Nat) : Int)) (y := 73) W11 (by simp)
      refine sg_B_in_i0 (k := ?_)
      have hl12 : sh11.length = 75 := by rw [P11.1]; exact bW_l (by omega) (by omega)
      refine sk_new (n := 75) (ci := 5) (N := 9) (T := cF5) (C := "TermBench$Unifier") ct_B_init hl12 rfl cl_B63 in_U ii_U rfl ?_
      refine sg_B_in_id (k := ?_)
      refine sk_I (t := 75) ct_B_init lk_U_init lm_Bi_65 (by decide) (c_U_in (d := d) (by decide) (by show 75 < (sh11 ++ [(10, 9)]).length; rw [List.length_append, hl12]; decide) (by show sKd (sh11 ++ [(10, 9)]) 75 = _; rw [← hl12, sKd_last]) rfl) (fun S12 h12 => ?_)
      obtain ⟨sh12, RF12, I12, x12⟩ := S12
      obtain ⟨hx12, W12⟩ := bO_U P11 h12
      change x12 = 0 at hx12
      subst hx12
      change bW _ _ _ _ _ _ _ sh12 RF12 I12 at W12
      refine sk_put (t := 1) (y := 75) ct_B_init ow_B11 (bW_o W12 (by omega) (by decide)) (by decide) ?_
      have P12 := bP (f := ((11 : Nat) : Int)) (y := 75) W12 (by simp)
      exact sk_ret ct_B_init ⟨rfl, P12⟩
    | succ m ihm =>
      intro k sh3 RF3 I3 hm hk W3
      have hT3 : hT (6 + 3 * k) := Or.inl ⟨k, by omega, rfl⟩
      have hl3 : sh3.length = 6 + 3 * k := by rw [W3.1]; exact bW_l (by omega) (by omega)
      refine sg_B_in_l (c3 := 5) (o2 := bW_o W3 (by omega) (by decide)) (e3 := W3.2.2.2.1 (1, 5) (by simp)) (k := ?_)
      refine sk_new (n := 6 + 3 * k) (ci := 2) (N := 3) (T := cF2) (C := "TermBench$Term") ct_B_init hl3 rfl cl_B16 in_T ii_T rfl ?_
      refine sg_B_in_ld (k := ?_)
      refine sk_I (t := 6 + 3 * k) ct_B_init lk_T_init lm_Bi_22 (by omega) (c_T_in (d := d) (by omega) (by show 6 + 3 * k < (sh3 ++ [(7, 3)]).length; rw [List.length_append, hl3, List.length_singleton]; omega) (by show sKd (sh3 ++ [(7, 3)]) (6 + 3 * k) = _; rw [← hl3, sKd_last]) rfl) (fun S4 h4 => ?_)
      obtain ⟨sh4, RF4, I4, x4⟩ := S4
      obtain ⟨hx4, W4⟩ := bT (n := 6 + 3 * k) W3 hT3 (by omega) (fun h => rfl) (hTl_t k (by omega)) h4
      change x4 = 0 at hx4
      subst hx4
      change bW _ _ _ _ _ _ _ sh4 RF4 I4 at W4
      have k5 : sArr sh4 3 5 (k : Int) := by
        unfold sArr
        rw [W4.1, bW_k (by omega)]
        exact ⟨rfl, by omega, by show (k : Int) < ((16 : Nat) : Int); omega⟩
      have k6 : (sKd sh4 (6 + 3 * k)).1 = 7 := by
        rw [W4.1, bW_k (by omega), (hT_k L hT3).1]
      refine sj_aast ct_B_init rfl k5 (by decide) k6 (by omega) ?_
      have P4 := bA W4
      refine sg_B_in_ln (k := ?_)
      have := ihm (k + 1) sh4 _ I4 (by omega) (by omega) (show bW L (6 + 3 * (k + 1)) (k + 1) 1 I (fun _ => 0) [(0, 2), (1, 5)] sh4 (sUF RF4 5 k (6 + 3 * k)) I4 from P4)
      rw [show 4 + 3 * (k + 1) = 4 + 3 * k + 1 + 2 by omega, show 99 + 203 * (k + 1) = 99 + 203 * k + 3 + 200 by omega, show ((k + 1 : Nat) : Int) = (k : Int) + 1 by omega] at this
      exact this
  exact loop 16 0 _ _ _ rfl (by omega) P2
end CKB
