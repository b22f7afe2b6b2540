/-! the rows of the first terms behind a place -/
def pre (ar : Int → Nat) (cs : List Int) (p i : Nat) : List Int := (cs.drop (p + 1)).take (f_tk ar i (cs.drop (p + 1)))
theorem pre_0 (ar : Int → Nat) (cs : List Int) (p : Nat) : pre ar cs p 0 = [] := by unfold pre; rw [f_tk_0]; rfl
theorem pre_len (ar : Int → Nat) (cs : List Int) (p i : Nat) : (pre ar cs p i).length = f_tk ar i (cs.drop (p + 1)) := by
  unfold pre
  have := f_tk_le ar (cs.drop (p + 1)) i
  rw [List.length_take]
  omega
theorem pre_ap (ar : Int → Nat) (cs : List Int) (p i : Nat) : p + 1 + (pre ar cs p i).length = ap ar cs p i := by rw [pre_len]; rfl
theorem pre_s (ar : Int → Nat) {cs : List Int} {k p i : Nat} (h : f_wf ar k cs) (hp : p < cs.length) (hi : i < ar cs[p]) : pre ar cs p (i + 1) = pre ar cs p i ++ f_s ar cs (ap ar cs p i) := by
  obtain ⟨m, -, -, h2⟩ := f_at ar h hp
  have e := f_tk_add ar (k := i) (j := 1) (l := cs.drop (p + 1)) ⟨m + ar cs[p] - i - 1, by rw [show i + 1 + (m + ar cs[p] - i - 1) = m + ar cs[p] by omega]; exact h2⟩
  unfold pre
  rw [e, List.take_add]
  unfold f_s ap
  rw [List.drop_drop]
theorem pre_end (ar : Int → Nat) {cs : List Int} {k p : Nat} (h : f_wf ar k cs) (hp : p < cs.length) : f_s ar cs p = cs[p] :: pre ar cs p (ar cs[p]) := f_s_c ar h hp
theorem pre_mem (ar : Int → Nat) {cs : List Int} {p i : Nat} {c : Int} (h : c ∈ pre ar cs p i) : c ∈ cs := List.mem_of_mem_drop (List.mem_of_mem_take h)
/-- what is made behind the nodes that are there leaves them as they are -/
def bF (I I' : sI) : Prop := (∀ w, (w < 114 ∨ 117 < w) → w ≠ 84 → I' w = I w) ∧ (∀ j, j ≠ 17 → j ≠ 18 → I' 84 j = I 84 j) ∧ ∀ w j, 114 ≤ w → w ≤ 117 → j < I 84 17 → I' w j = I w j
theorem bF_refl (I : sI) : bF I I := ⟨fun _ _ _ => rfl, fun _ _ _ => rfl, fun _ _ _ _ _ => rfl⟩
theorem bF_trans {I I1 I2 : sI} (h1 : bF I I1) (h2 : bF I1 I2) (hl : I 84 17 ≤ I1 84 17) : bF I I2 :=
  ⟨fun w g1 g2 => by rw [h2.1 w g1 g2, h1.1 w g1 g2], fun j g1 g2 => by rw [h2.2.1 j g1 g2, h1.2.1 j g1 g2], fun w j g1 g2 g3 => by rw [h2.2.2 w j g1 g2 (by omega), h1.2.2 w j g1 g2 g3]⟩
theorem bF_tr {ar : Int → Nat} {I I' : sI} {cs : List Int} {k : Nat} (h : bF I I') (hw : f_wf ar k cs) (ht : tr ar I 0 cs) (hl : (cs.length : Int) ≤ I 84 17) : tr ar I' 0 cs := tr_upd hw ht (fun w g1 g2 j g3 g4 => h.2.2 w j g1 g2 (by omega))
def frI (I : sI) (c : Int) : sI := sU (sU (sU (sU (sU I 114 (I 84 17) c) 115 (I 84 17) (-1)) 116 (I 84 17) (-1)) 117 (I 84 17) 1) 84 17 (I 84 17 + 1)
theorem frI_top (I : sI) (c : Int) : frI I c 84 17 = I 84 17 + 1 := by unfold frI; rw [hU_eq]
theorem frI_F (I : sI) (c : Int) : bF I (frI I c) := by
  refine ⟨fun w g1 g2 => ?_, fun j g1 g2 => ?_, fun w j g1 g2 g3 => ?_⟩
  · unfold frI
    rw [sU_ne g2, sU_ne (by omega), sU_ne (by omega), sU_ne (by omega), sU_ne (by omega)]
  · unfold frI
    rw [hU_nj g1, sU_ne (by omega), sU_ne (by omega), sU_ne (by omega), sU_ne (by omega)]
  · unfold frI
    rw [sU_ne (by omega), hU_nj (by omega), hU_nj (by omega), hU_nj (by omega), hU_nj (by omega)]
theorem frI_n (I : sI) (c : Int) : frI I c 114 (I 84 17) = c ∧ frI I c 115 (I 84 17) = -1 ∧ frI I c 116 (I 84 17) = -1 ∧ frI I c 117 (I 84 17) = 1 := by
  unfold frI
  refine ⟨?_, ?_, ?_, ?_⟩
  · rw [sU_ne (by omega), sU_ne (by omega), sU_ne (by omega), sU_ne (by omega), hU_eq]
  · rw [sU_ne (by omega), sU_ne (by omega), sU_ne (by omega), hU_eq]
  · rw [sU_ne (by omega), sU_ne (by omega), hU_eq]
  · rw [sU_ne (by omega), hU_eq]
theorem frI_pt (ar : Int → Nat) (I : sI) (c : Int) : pt ar (frI I c) (I 84 17) c 0 [] (-1) := by
  obtain ⟨h1, h2, h3, h4⟩ := frI_n I c
  exact ⟨h1, by rw [h4]; rfl, by rw [h2, if_pos rfl], h3, rfl, tr_nil ar _ _, fun j hj => absurd hj (by omega), by rw [if_pos rfl]⟩
theorem un_F {I I1 : sI} {la y : Int} (h : bF I I1) (hl : la < 0 ∨ I 84 17 ≤ la) : bF I (un I1 (I 84 17) la y) := by
  refine ⟨fun w g1 g2 => ?_, fun j g1 g2 => ?_, fun w j g1 g2 g3 => ?_⟩
  · rw [un_o _ _ _ _ (by omega)]; exact h.1 w g1 g2
  · rw [un_o _ _ _ _ (by omega)]; exact h.2.1 j g1 g2
  · rw [← h.2.2 w j g1 g2 g3]
    rcases (show w = 114 ∨ w = 115 ∨ w = 116 ∨ w = 117 by omega) with rfl | rfl | rfl | rfl
    · rw [un_114]
    · rw [un_115, if_neg (fun x => by omega)]
    · rw [un_116, if_neg (fun x => by omega)]
    · rw [un_117, if_neg (by omega)]
theorem sU_sU (I : sI) (a : Nat) (j x y : Int) : sU (sU I a j x) a j y = sU I a j y := by
  funext b k
  unfold sU
  split
  · rfl
  · rfl
/-- one more term below a node that is being made -/
theorem mk_step {ar : Int → Nat} {I I1 I2 : sI} {b c : Int} {i : Nat} {l X : List Int} {la : Int} (hb : b = I 84 17) (h0 : 0 ≤ b) (hF : bF I I1) (hp : pt ar I1 b c i l la) (ht : I1 84 17 = b + 1 + l.length) (h2 : bF I1 I2) (hX : tr ar I2 (I1 84 17) X) (hw : f_wf ar 1 X) (hr : I2 116 (I1 84 17) = -1) (ht2 : I2 84 17 = I1 84 17 + X.length) :
    bF I (un I2 b la (I1 84 17)) ∧ pt ar (un I2 b la (I1 84 17)) b c (i + 1) (l ++ X) (I1 84 17) ∧ un I2 b la (I1 84 17) 84 17 = b + 1 + (l ++ X).length := by
  have hlb : la < 0 ∨ b ≤ la := by
    have := hp.2.2.2.2.2.2.2
    by_cases hi : i = 0
    · rw [if_pos hi] at this; omega
    · rw [if_neg hi] at this; omega
  refine ⟨?_, ?_, ?_⟩
  · rw [hb]
    exact un_F (bF_trans hF h2 (by omega)) (by omega)
  · rw [ht] at hX hr ⊢
    exact pt_step h0 hp (fun w g1 g2 j g3 g4 => h2.2.2 w j g1 g2 (by omega)) hX hw hr
  · rw [un_o _ _ _ _ (by omega), ht2, ht, List.length_append]
    omega
