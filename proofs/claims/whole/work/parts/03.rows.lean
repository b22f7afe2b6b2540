theorem s_b8 {n : Int} (h : -128 ≤ n ∧ n < 128) : (Int8.ofInt n).toInt32 = Int32.ofInt n := by
  apply Int32.toInt_inj.mp
  rw [Int8.toInt_toInt32, Int8.toInt_ofInt_of_le (by omega) (by omega), sR_i (by unfold sR; omega)]
theorem s_b16 {n : Int} (h : -32768 ≤ n ∧ n < 32768) : (Int16.ofInt n).toInt32 = Int32.ofInt n := by
  apply Int32.toInt_inj.mp
  rw [Int16.toInt_toInt32, Int16.toInt_ofInt_of_le (by omega) (by omega), sR_i (by unfold sR; omega)]
theorem s_i2l {x : Int} (h : sR x) : (Int32.ofInt x).toInt64 = Int64.ofInt x := by
  rw [← Int64.ofInt_int32ToInt, sR_i h]
theorem s_lc (n : Fin 2) : Int64.ofNat (n : Nat) = Int64.ofInt ((n : Nat) : Int) := rfl
theorem sR_l {x : Int} (h : sR x) : (Int64.ofInt x).toInt = x := Int64.toInt_ofInt_of_le (by have := h.1; omega) (by have := h.2; omega)
theorem s_lcR (x y : Int) : sR (if y < x then 1 else if x = y then 0 else -1) := by
  unfold sR
  split
  · omega
  · split <;> omega
theorem s_lcmp {x y : Int} (hx : sR x) (hy : sR y) : lg_cmp (Int64.ofInt x) (Int64.ofInt y) = Int32.ofInt (if y < x then 1 else if x = y then 0 else -1) := by
  have e1 : Int64.ofInt x > Int64.ofInt y ↔ y < x := by
    show Int64.ofInt y < Int64.ofInt x ↔ _
    rw [Int64.lt_iff_toInt_lt, sR_l hx, sR_l hy]
  have e2 : Int64.ofInt x = Int64.ofInt y ↔ x = y := by
    constructor
    · intro h
      rw [← sR_l hx, ← sR_l hy, h]
    · intro h
      rw [h]
  unfold lg_cmp
  by_cases h1 : y < x
  · rw [if_pos (e1.mpr h1), if_pos h1]
    decide
  · rw [if_neg (fun h => h1 (e1.mp h)), if_neg h1]
    by_cases h2 : x = y
    · rw [if_pos (e2.mpr h2), if_pos h2]
      decide
    · rw [if_neg (fun h => h2 (e2.mp h)), if_neg h2]
      decide
section SR
variable {l : Launch} {G : sG} {M : sM} {rm : Room} {Q : sQ} {κ θ i : Nat} {ls : List (Option sV)} {st : List sV} {S : sS} {pc a b : Nat}
theorem sj_iconst {n : Int} (hq : (sCd M)[i]? = some (pc, .iconst n, a, b)) (hc : sCk M i (pc, .iconst n, a, b) = true) (hr : sR n) (k : sJ l G M rm Q κ θ (i + 1) ls (.inl n :: st) S) : sJ l G M rm Q κ θ i ls (st) S := by
  intro p e s m args below meth c H locs arr hB hC h0 hP hS hL hst
  have hd := sCk_dec hc
  have hn := sCk_len hc (by simp [sLen])
  have kk := k p e s m args below meth c H locs arr hB hC h0 hP hS hL (List.forall_mem_cons.mpr ⟨hr, hst⟩)
  rw [hn] at kk
  rw [sPc_at hq]
  refine lv_iconst hB.1 hB.2.1 hd rfl ?_
  exact kk
theorem sj_bipush {n : Int} (hq : (sCd M)[i]? = some (pc, .bipush n, a, b)) (hc : sCk M i (pc, .bipush n, a, b) = true) (hr : -128 ≤ n ∧ n < 128) (k : sJ l G M rm Q κ θ (i + 1) ls (.inl n :: st) S) : sJ l G M rm Q κ θ i ls (st) S := by
  intro p e s m args below meth c H locs arr hB hC h0 hP hS hL hst
  have hd := sCk_dec hc
  have hn := sCk_len hc (by simp [sLen])
  have kk := k p e s m args below meth c H locs arr hB hC h0 hP hS hL (List.forall_mem_cons.mpr ⟨(by unfold sVr sR; omega), hst⟩)
  rw [hn] at kk
  rw [sPc_at hq]
  refine lv_bipush hB.1 hB.2.1 hd (s_b8 hr) ?_
  exact kk
theorem sj_sipush {n : Int} (hq : (sCd M)[i]? = some (pc, .sipush n, a, b)) (hc : sCk M i (pc, .sipush n, a, b) = true) (hr : -32768 ≤ n ∧ n < 32768) (k : sJ l G M rm Q κ θ (i + 1) ls (.inl n :: st) S) : sJ l G M rm Q κ θ i ls (st) S := by
  intro p e s m args below meth c H locs arr hB hC h0 hP hS hL hst
  have hd := sCk_dec hc
  have hn := sCk_len hc (by simp [sLen])
  have kk := k p e s m args below meth c H locs arr hB hC h0 hP hS hL (List.forall_mem_cons.mpr ⟨(by unfold sVr sR; omega), hst⟩)
  rw [hn] at kk
  rw [sPc_at hq]
  refine lv_sipush hB.1 hB.2.1 hd (s_b16 hr) ?_
  exact kk
theorem sj_iadd {x y : Int} (hq : (sCd M)[i]? = some (pc, .iadd, a, b)) (hc : sCk M i (pc, .iadd, a, b) = true) (hr : sR (x + y)) (k : sJ l G M rm Q κ θ (i + 1) ls (.inl (x + y) :: st) S) : sJ l G M rm Q κ θ i ls (.inl y :: .inl x :: st) S := by
  intro p e s m args below meth c H locs arr hB hC h0 hP hS hL hst
  have hd := sCk_dec hc
  have hn := sCk_len hc (by simp [sLen])
  have kk := k p e s m args below meth c H locs arr hB hC h0 hP hS hL (List.forall_mem_cons.mpr ⟨hr, fun v hv => hst v (List.mem_cons_of_mem _ (List.mem_cons_of_mem _ hv))⟩)
  rw [hn] at kk
  rw [sPc_at hq]
  refine lv_iadd hB.1 hB.2.1 hd ?_
  rw [s_add]
  exact kk
theorem sj_isub {x y : Int} (hq : (sCd M)[i]? = some (pc, .isub, a, b)) (hc : sCk M i (pc, .isub, a, b) = true) (hr : sR (x - y)) (k : sJ l G M rm Q κ θ (i + 1) ls (.inl (x - y) :: st) S) : sJ l G M rm Q κ θ i ls (.inl y :: .inl x :: st) S := by
  intro p e s m args below meth c H locs arr hB hC h0 hP hS hL hst
  have hd := sCk_dec hc
  have hn := sCk_len hc (by simp [sLen])
  have kk := k p e s m args below meth c H locs arr hB hC h0 hP hS hL (List.forall_mem_cons.mpr ⟨hr, fun v hv => hst v (List.mem_cons_of_mem _ (List.mem_cons_of_mem _ hv))⟩)
  rw [hn] at kk
  rw [sPc_at hq]
  refine lv_isub hB.1 hB.2.1 hd ?_
  rw [s_sub]
  exact kk
theorem sj_imul {x y : Int} (hq : (sCd M)[i]? = some (pc, .imul, a, b)) (hc : sCk M i (pc, .imul, a, b) = true) (hr : sR (x * y)) (k : sJ l G M rm Q κ θ (i + 1) ls (.inl (x * y) :: st) S) : sJ l G M rm Q κ θ i ls (.inl y :: .inl x :: st) S := by
  intro p e s m args below meth c H locs arr hB hC h0 hP hS hL hst
  have hd := sCk_dec hc
  have hn := sCk_len hc (by simp [sLen])
  have kk := k p e s m args below meth c H locs arr hB hC h0 hP hS hL (List.forall_mem_cons.mpr ⟨hr, fun v hv => hst v (List.mem_cons_of_mem _ (List.mem_cons_of_mem _ hv))⟩)
  rw [hn] at kk
  rw [sPc_at hq]
  refine lv_imul hB.1 hB.2.1 hd ?_
  rw [s_mul]
  exact kk
theorem sj_iand {x y : Int} (hq : (sCd M)[i]? = some (pc, .iand, a, b)) (hc : sCk M i (pc, .iand, a, b) = true)  (k : sJ l G M rm Q κ θ (i + 1) ls (.inl (Int32.ofInt x &&& Int32.ofInt y).toInt :: st) S) : sJ l G M rm Q κ θ i ls (.inl y :: .inl x :: st) S := by
  intro p e s m args below meth c H locs arr hB hC h0 hP hS hL hst
  have hd := sCk_dec hc
  have hn := sCk_len hc (by simp [sLen])
  have kk := k p e s m args below meth c H locs arr hB hC h0 hP hS hL (List.forall_mem_cons.mpr ⟨(sR_to _), fun v hv => hst v (List.mem_cons_of_mem _ (List.mem_cons_of_mem _ hv))⟩)
  rw [hn] at kk
  rw [sPc_at hq]
  refine lv_iand hB.1 hB.2.1 hd ?_
  rw [← sR_of (Int32.ofInt x &&& Int32.ofInt y)]
  exact kk
theorem sj_ior {x y : Int} (hq : (sCd M)[i]? = some (pc, .ior, a, b)) (hc : sCk M i (pc, .ior, a, b) = true)  (k : sJ l G M rm Q κ θ (i + 1) ls (.inl (Int32.ofInt x ||| Int32.ofInt y).toInt :: st) S) : sJ l G M rm Q κ θ i ls (.inl y :: .inl x :: st) S := by
  intro p e s m args below meth c H locs arr hB hC h0 hP hS hL hst
  have hd := sCk_dec hc
  have hn := sCk_len hc (by simp [sLen])
  have kk := k p e s m args below meth c H locs arr hB hC h0 hP hS hL (List.forall_mem_cons.mpr ⟨(sR_to _), fun v hv => hst v (List.mem_cons_of_mem _ (List.mem_cons_of_mem _ hv))⟩)
  rw [hn] at kk
  rw [sPc_at hq]
  refine lv_ior hB.1 hB.2.1 hd ?_
  rw [← sR_of (Int32.ofInt x ||| Int32.ofInt y)]
  exact kk
theorem sj_ixor {x y : Int} (hq : (sCd M)[i]? = some (pc, .ixor, a, b)) (hc : sCk M i (pc, .ixor, a, b) = true)  (k : sJ l G M rm Q κ θ (i + 1) ls (.inl (Int32.ofInt x ^^^ Int32.ofInt y).toInt :: st) S) : sJ l G M rm Q κ θ i ls (.inl y :: .inl x :: st) S := by
  intro p e s m args below meth c H locs arr hB hC h0 hP hS hL hst
  have hd := sCk_dec hc
  have hn := sCk_len hc (by simp [sLen])
  have kk := k p e s m args below meth c H locs arr hB hC h0 hP hS hL (List.forall_mem_cons.mpr ⟨(sR_to _), fun v hv => hst v (List.mem_cons_of_mem _ (List.mem_cons_of_mem _ hv))⟩)
  rw [hn] at kk
  rw [sPc_at hq]
  refine lv_ixor hB.1 hB.2.1 hd ?_
  rw [← sR_of (Int32.ofInt x ^^^ Int32.ofInt y)]
  exact kk
theorem sj_ishl {x y : Int} (hq : (sCd M)[i]? = some (pc, .ishl, a, b)) (hc : sCk M i (pc, .ishl, a, b) = true)  (k : sJ l G M rm Q κ θ (i + 1) ls (.inl (Int32.ofInt x <<< (Int32.ofInt y &&& 31)).toInt :: st) S) : sJ l G M rm Q κ θ i ls (.inl y :: .inl x :: st) S := by
  intro p e s m args below meth c H locs arr hB hC h0 hP hS hL hst
  have hd := sCk_dec hc
  have hn := sCk_len hc (by simp [sLen])
  have kk := k p e s m args below meth c H locs arr hB hC h0 hP hS hL (List.forall_mem_cons.mpr ⟨(sR_to _), fun v hv => hst v (List.mem_cons_of_mem _ (List.mem_cons_of_mem _ hv))⟩)
  rw [hn] at kk
  rw [sPc_at hq]
  refine lv_ishl hB.1 hB.2.1 hd ?_
  rw [← sR_of (Int32.ofInt x <<< (Int32.ofInt y &&& 31))]
  exact kk
theorem sj_iushr {x y : Int} (hq : (sCd M)[i]? = some (pc, .iushr, a, b)) (hc : sCk M i (pc, .iushr, a, b) = true)  (k : sJ l G M rm Q κ θ (i + 1) ls (.inl (((Int32.ofInt x).toUInt32 >>> ((Int32.ofInt y).toUInt32 &&& Int32.toUInt32 31)).toInt32).toInt :: st) S) : sJ l G M rm Q κ θ i ls (.inl y :: .inl x :: st) S := by
  intro p e s m args below meth c H locs arr hB hC h0 hP hS hL hst
  have hd := sCk_dec hc
  have hn := sCk_len hc (by simp [sLen])
  have kk := k p e s m args below meth c H locs arr hB hC h0 hP hS hL (List.forall_mem_cons.mpr ⟨(sR_to _), fun v hv => hst v (List.mem_cons_of_mem _ (List.mem_cons_of_mem _ hv))⟩)
  rw [hn] at kk
  rw [sPc_at hq]
  refine lv_iushr hB.1 hB.2.1 hd (sR_of _).symm ?_
  exact kk
theorem sj_iload_n {kk0 : Fin 4} {k0 : Nat} {x : Int} (hq : (sCd M)[i]? = some (pc, .iload_n kk0, a, b)) (hc : sCk M i (pc, .iload_n kk0, a, b) = true) (hk0 : (kk0 : Nat) = k0) (hl : ls[k0]? = some (some (.inl x))) (k : sJ l G M rm Q κ θ (i + 1) ls (.inl x :: st) S) : sJ l G M rm Q κ θ i ls (st) S := by
  intro p e s m args below meth c H locs arr hB hC h0 hP hS hL hst
  have hd := sCk_dec hc
  have hn := sCk_len hc (by simp [sLen])
  have kk := k p e s m args below meth c H locs arr hB hC h0 hP hS hL (List.forall_mem_cons.mpr ⟨(sL_v hL hl), hst⟩)
  rw [hn] at kk
  rw [sPc_at hq]
  refine lv_iload_n hB.1 hB.2.1 hd hk0 (sL_at hL hl) ?_
  exact kk
theorem sj_iload {k0 : Nat} {x : Int} (hq : (sCd M)[i]? = some (pc, .iload k0, a, b)) (hc : sCk M i (pc, .iload k0, a, b) = true) (hl : ls[k0]? = some (some (.inl x))) (k : sJ l G M rm Q κ θ (i + 1) ls (.inl x :: st) S) : sJ l G M rm Q κ θ i ls (st) S := by
  intro p e s m args below meth c H locs arr hB hC h0 hP hS hL hst
  have hd := sCk_dec hc
  have hn := sCk_len hc (by simp [sLen])
  have kk := k p e s m args below meth c H locs arr hB hC h0 hP hS hL (List.forall_mem_cons.mpr ⟨(sL_v hL hl), hst⟩)
  rw [hn] at kk
  rw [sPc_at hq]
  refine lv_iload hB.1 hB.2.1 hd (sL_at hL hl) ?_
  exact kk
theorem sj_aload_n {kk0 : Fin 4} {k0 : Nat} {x : Nat} (hq : (sCd M)[i]? = some (pc, .aload_n kk0, a, b)) (hc : sCk M i (pc, .aload_n kk0, a, b) = true) (hk0 : (kk0 : Nat) = k0) (hl : ls[k0]? = some (some (.inr (.inl x)))) (k : sJ l G M rm Q κ θ (i + 1) ls (.inr (.inl x) :: st) S) : sJ l G M rm Q κ θ i ls (st) S := by
  intro p e s m args below meth c H locs arr hB hC h0 hP hS hL hst
  have hd := sCk_dec hc
  have hn := sCk_len hc (by simp [sLen])
  have kk := k p e s m args below meth c H locs arr hB hC h0 hP hS hL (List.forall_mem_cons.mpr ⟨trivial, hst⟩)
  rw [hn] at kk
  rw [sPc_at hq]
  refine lv_aload_n hB.1 hB.2.1 hd hk0 (sL_at hL hl) ?_
  exact kk
theorem sj_aload {k0 : Nat} {x : Nat} (hq : (sCd M)[i]? = some (pc, .aload k0, a, b)) (hc : sCk M i (pc, .aload k0, a, b) = true) (hl : ls[k0]? = some (some (.inr (.inl x)))) (k : sJ l G M rm Q κ θ (i + 1) ls (.inr (.inl x) :: st) S) : sJ l G M rm Q κ θ i ls (st) S := by
  intro p e s m args below meth c H locs arr hB hC h0 hP hS hL hst
  have hd := sCk_dec hc
  have hn := sCk_len hc (by simp [sLen])
  have kk := k p e s m args below meth c H locs arr hB hC h0 hP hS hL (List.forall_mem_cons.mpr ⟨trivial, hst⟩)
  rw [hn] at kk
  rw [sPc_at hq]
  refine lv_aload hB.1 hB.2.1 hd (sL_at hL hl) ?_
  exact kk
theorem sj_dup {v : sV} (hq : (sCd M)[i]? = some (pc, .dup, a, b)) (hc : sCk M i (pc, .dup, a, b) = true) (hv1 : sV1 v) (k : sJ l G M rm Q κ θ (i + 1) ls (v :: v :: st) S) : sJ l G M rm Q κ θ i ls (v :: st) S := by
  intro p e s m args below meth c H locs arr hB hC h0 hP hS hL hst
  have hd := sCk_dec hc
  have hn := sCk_len hc (by simp [sLen])
  have kk := k p e s m args below meth c H locs arr hB hC h0 hP hS hL (List.forall_mem_cons.mpr ⟨(hst v List.mem_cons_self), List.forall_mem_cons.mpr ⟨(hst v List.mem_cons_self), fun v hv => hst v (List.mem_cons_of_mem _ hv)⟩⟩)
  rw [hn] at kk
  rw [sPc_at hq]
  refine lv_dup hB.1 hB.2.1 hd (sV1_c hv1) ?_
  exact kk
theorem sj_dup_x1 {v w : sV} (hq : (sCd M)[i]? = some (pc, .dup_x1, a, b)) (hc : sCk M i (pc, .dup_x1, a, b) = true) (hv1 : sV1 v) (hv2 : sV1 w) (k : sJ l G M rm Q κ θ (i + 1) ls (v :: w :: v :: st) S) : sJ l G M rm Q κ θ i ls (v :: w :: st) S := by
  intro p e s m args below meth c H locs arr hB hC h0 hP hS hL hst
  have hd := sCk_dec hc
  have hn := sCk_len hc (by simp [sLen])
  have kk := k p e s m args below meth c H locs arr hB hC h0 hP hS hL (List.forall_mem_cons.mpr ⟨(sV1_r hv1), List.forall_mem_cons.mpr ⟨(sV1_r hv2), List.forall_mem_cons.mpr ⟨(sV1_r hv1), fun v hv => hst v (List.mem_cons_of_mem _ (List.mem_cons_of_mem _ hv))⟩⟩⟩)
  rw [hn] at kk
  rw [sPc_at hq]
  refine lv_dup_x1 hB.1 hB.2.1 hd (sV1_c hv1) (sV1_c hv2) ?_
  exact kk
theorem sj_dup_x2 {v w z : sV} (hq : (sCd M)[i]? = some (pc, .dup_x2, a, b)) (hc : sCk M i (pc, .dup_x2, a, b) = true) (hv1 : sV1 v) (hv2 : sV1 w) (hv3 : sV1 z) (k : sJ l G M rm Q κ θ (i + 1) ls (v :: w :: z :: v :: st) S) : sJ l G M rm Q κ θ i ls (v :: w :: z :: st) S := by
  intro p e s m args below meth c H locs arr hB hC h0 hP hS hL hst
  have hd := sCk_dec hc
  have hn := sCk_len hc (by simp [sLen])
  have kk := k p e s m args below meth c H locs arr hB hC h0 hP hS hL (List.forall_mem_cons.mpr ⟨(sV1_r hv1), List.forall_mem_cons.mpr ⟨(sV1_r hv2), List.forall_mem_cons.mpr ⟨(sV1_r hv3), List.forall_mem_cons.mpr ⟨(sV1_r hv1), fun v hv => hst v (List.mem_cons_of_mem _ (List.mem_cons_of_mem _ (List.mem_cons_of_mem _ hv)))⟩⟩⟩⟩)
  rw [hn] at kk
  rw [sPc_at hq]
  refine lv_dup_x2 hB.1 hB.2.1 hd (sV1_c hv1) (sV1_c hv2) (sV1_c hv3) ?_
  exact kk
theorem sj_dup2 {v w : sV} (hq : (sCd M)[i]? = some (pc, .dup2, a, b)) (hc : sCk M i (pc, .dup2, a, b) = true) (hv1 : sV1 v) (hv2 : sV1 w) (k : sJ l G M rm Q κ θ (i + 1) ls (v :: w :: v :: w :: st) S) : sJ l G M rm Q κ θ i ls (v :: w :: st) S := by
  intro p e s m args below meth c H locs arr hB hC h0 hP hS hL hst
  have hd := sCk_dec hc
  have hn := sCk_len hc (by simp [sLen])
  have kk := k p e s m args below meth c H locs arr hB hC h0 hP hS hL (List.forall_mem_cons.mpr ⟨(sV1_r hv1), List.forall_mem_cons.mpr ⟨(sV1_r hv2), List.forall_mem_cons.mpr ⟨(sV1_r hv1), List.forall_mem_cons.mpr ⟨(sV1_r hv2), fun v hv => hst v (List.mem_cons_of_mem _ (List.mem_cons_of_mem _ hv))⟩⟩⟩⟩)
  rw [hn] at kk
  rw [sPc_at hq]
  refine lv_dup2_11 hB.1 hB.2.1 hd (sV1_c hv1) (sV1_c hv2) ?_
  exact kk
theorem sj_pop {v : sV} (hq : (sCd M)[i]? = some (pc, .pop, a, b)) (hc : sCk M i (pc, .pop, a, b) = true) (hv1 : sV1 v) (k : sJ l G M rm Q κ θ (i + 1) ls (st) S) : sJ l G M rm Q κ θ i ls (v :: st) S := by
  intro p e s m args below meth c H locs arr hB hC h0 hP hS hL hst
  have hd := sCk_dec hc
  have hn := sCk_len hc (by simp [sLen])
  have kk := k p e s m args below meth c H locs arr hB hC h0 hP hS hL (fun v hv => hst v (List.mem_cons_of_mem _ hv))
  rw [hn] at kk
  rw [sPc_at hq]
  refine lv_pop hB.1 hB.2.1 hd (sV1_c hv1) ?_
  exact kk
theorem sj_i2l {x : Int} (hq : (sCd M)[i]? = some (pc, .i2l, a, b)) (hc : sCk M i (pc, .i2l, a, b) = true)  (k : sJ l G M rm Q κ θ (i + 1) ls (.inr (.inr x) :: st) S) : sJ l G M rm Q κ θ i ls (.inl x :: st) S := by
  intro p e s m args below meth c H locs arr hB hC h0 hP hS hL hst
  have hd := sCk_dec hc
  have hn := sCk_len hc (by simp [sLen])
  have kk := k p e s m args below meth c H locs arr hB hC h0 hP hS hL (List.forall_mem_cons.mpr ⟨(hst _ (List.mem_cons_self) : sR x), fun v hv => hst v (List.mem_cons_of_mem _ hv)⟩)
  rw [hn] at kk
  rw [sPc_at hq]
  refine lv_i2l hB.1 hB.2.1 hd (s_i2l (hst _ (List.mem_cons_self))) ?_
  exact kk
theorem sj_lconst {n : Fin 2} (hq : (sCd M)[i]? = some (pc, .lconst n, a, b)) (hc : sCk M i (pc, .lconst n, a, b) = true)  (k : sJ l G M rm Q κ θ (i + 1) ls (.inr (.inr ((n : Nat) : Int)) :: st) S) : sJ l G M rm Q κ θ i ls (st) S := by
  intro p e s m args below meth c H locs arr hB hC h0 hP hS hL hst
  have hd := sCk_dec hc
  have hn := sCk_len hc (by simp [sLen])
  have kk := k p e s m args below meth c H locs arr hB hC h0 hP hS hL (List.forall_mem_cons.mpr ⟨(by unfold sVr sR; omega), hst⟩)
  rw [hn] at kk
  rw [sPc_at hq]
  refine lv_lconst hB.1 hB.2.1 hd (s_lc n) ?_
  exact kk
theorem sj_lcmp {x y : Int} (hq : (sCd M)[i]? = some (pc, .lcmp, a, b)) (hc : sCk M i (pc, .lcmp, a, b) = true)  (k : sJ l G M rm Q κ θ (i + 1) ls (.inl (if y < x then 1 else if x = y then 0 else -1) :: st) S) : sJ l G M rm Q κ θ i ls (.inr (.inr y) :: .inr (.inr x) :: st) S := by
  intro p e s m args below meth c H locs arr hB hC h0 hP hS hL hst
  have hd := sCk_dec hc
  have hn := sCk_len hc (by simp [sLen])
  have kk := k p e s m args below meth c H locs arr hB hC h0 hP hS hL (List.forall_mem_cons.mpr ⟨(s_lcR x y), fun v hv => hst v (List.mem_cons_of_mem _ (List.mem_cons_of_mem _ hv))⟩)
  rw [hn] at kk
  rw [sPc_at hq]
  refine W.lcmp hB.1 hB.2.1 hd ?_
  rw [s_lcmp (hst _ (List.mem_cons_of_mem _ (List.mem_cons_self))) (hst _ (List.mem_cons_self))]
  exact kk
theorem sj_istore_n {kk0 : Fin 4} {k0 : Nat} {x : Int} (hq : (sCd M)[i]? = some (pc, .istore_n kk0, a, b)) (hc : sCk M i (pc, .istore_n kk0, a, b) = true) (hk0 : (kk0 : Nat) = k0) (hl : k0 < ls.length) (k : sJ l G M rm Q κ θ (i + 1) (ls.set k0 (some (.inl x))) st S) : sJ l G M rm Q κ θ i ls (.inl x :: st) S := by
  intro p e s m args below meth c H locs arr hB hC h0 hP hS hL hst
  have hd := sCk_dec hc
  have hn := sCk_len hc (by simp [sLen])
  obtain ⟨arr', e1, hL'⟩ := sL_set (v := .inl x) hL (by rw [← hL.2.2.1]; exact hl) (hst _ List.mem_cons_self : sR x)
  have kk := k p e s m args below meth c H locs arr' hB hC h0 hP hS hL' (fun v hv => hst v (List.mem_cons_of_mem _ hv))
  rw [hn] at kk
  rw [sPc_at hq]
  subst hk0
  intro T hT X
  obtain ⟨t, a1, b1⟩ := kk T hT X
  refine ⟨t, ?_, b1⟩
  have e1' : storeLocals arr kk0 (.int (Int32.ofInt x)) = some arr' := e1
  have hd' : decode M.2.1 pc = .ok (.istore_n kk0, 1) := hd
  jvm_step X.here [X.here.top, ↓top_set X.here.top, hB.1, hB.2.1, hd', List.map_cons, sE, e1']
  exact a1
theorem sj_istore {k0 : Nat} {x : Int} (hq : (sCd M)[i]? = some (pc, .istore k0, a, b)) (hc : sCk M i (pc, .istore k0, a, b) = true) (hl : k0 < ls.length) (k : sJ l G M rm Q κ θ (i + 1) (ls.set k0 (some (.inl x))) st S) : sJ l G M rm Q κ θ i ls (.inl x :: st) S := by
  intro p e s m args below meth c H locs arr hB hC h0 hP hS hL hst
  have hd := sCk_dec hc
  have hn := sCk_len hc (by simp [sLen])
  obtain ⟨arr', e1, hL'⟩ := sL_set (v := .inl x) hL (by rw [← hL.2.2.1]; exact hl) (hst _ List.mem_cons_self : sR x)
  have kk := k p e s m args below meth c H locs arr' hB hC h0 hP hS hL' (fun v hv => hst v (List.mem_cons_of_mem _ hv))
  rw [hn] at kk
  rw [sPc_at hq]
  intro T hT X
  obtain ⟨t, a1, b1⟩ := kk T hT X
  refine ⟨t, ?_, b1⟩
  have e1' : storeLocals arr k0 (.int (Int32.ofInt x)) = some arr' := e1
  have hd' : decode M.2.1 pc = .ok (.istore k0, 2) := hd
  jvm_step X.here [X.here.top, ↓top_set X.here.top, hB.1, hB.2.1, hd', List.map_cons, sE, e1']
  exact a1
theorem sj_astore_n {kk0 : Fin 4} {k0 : Nat} {x : Nat} (hq : (sCd M)[i]? = some (pc, .astore_n kk0, a, b)) (hc : sCk M i (pc, .astore_n kk0, a, b) = true) (hk0 : (kk0 : Nat) = k0) (hl : k0 < ls.length) (k : sJ l G M rm Q κ θ (i + 1) (ls.set k0 (some (.inr (.inl x)))) st S) : sJ l G M rm Q κ θ i ls (.inr (.inl x) :: st) S := by
  intro p e s m args below meth c H locs arr hB hC h0 hP hS hL hst
  have hd := sCk_dec hc
  have hn := sCk_len hc (by simp [sLen])
  obtain ⟨arr', e1, hL'⟩ := sL_set (v := .inr (.inl x)) hL (by rw [← hL.2.2.1]; exact hl) trivial
  have kk := k p e s m args below meth c H locs arr' hB hC h0 hP hS hL' (fun v hv => hst v (List.mem_cons_of_mem _ hv))
  rw [hn] at kk
  rw [sPc_at hq]
  subst hk0
  intro T hT X
  obtain ⟨t, a1, b1⟩ := kk T hT X
  refine ⟨t, ?_, b1⟩
  have e1' : storeLocals arr kk0 (.ref (sAd G x)) = some arr' := e1
  have hd' : decode M.2.1 pc = .ok (.astore_n kk0, 1) := hd
  jvm_step X.here [X.here.top, ↓top_set X.here.top, hB.1, hB.2.1, hd', Value.isRef, List.map_cons, sE, e1']
  exact a1
theorem sj_astore {k0 : Nat} {x : Nat} (hq : (sCd M)[i]? = some (pc, .astore k0, a, b)) (hc : sCk M i (pc, .astore k0, a, b) = true) (hl : k0 < ls.length) (k : sJ l G M rm Q κ θ (i + 1) (ls.set k0 (some (.inr (.inl x)))) st S) : sJ l G M rm Q κ θ i ls (.inr (.inl x) :: st) S := by
  intro p e s m args below meth c H locs arr hB hC h0 hP hS hL hst
  have hd := sCk_dec hc
  have hn := sCk_len hc (by simp [sLen])
  obtain ⟨arr', e1, hL'⟩ := sL_set (v := .inr (.inl x)) hL (by rw [← hL.2.2.1]; exact hl) trivial
  have kk := k p e s m args below meth c H locs arr' hB hC h0 hP hS hL' (fun v hv => hst v (List.mem_cons_of_mem _ hv))
  rw [hn] at kk
  rw [sPc_at hq]
  intro T hT X
  obtain ⟨t, a1, b1⟩ := kk T hT X
  refine ⟨t, ?_, b1⟩
  have e1' : storeLocals arr k0 (.ref (sAd G x)) = some arr' := e1
  have hd' : decode M.2.1 pc = .ok (.astore k0, 2) := hd
  jvm_step X.here [X.here.top, ↓top_set X.here.top, hB.1, hB.2.1, hd', Value.isRef, List.map_cons, sE, e1']
  exact a1
theorem sj_iinc {k0 : Nat} {n x : Int} (hq : (sCd M)[i]? = some (pc, .iinc k0 n, a, b)) (hc : sCk M i (pc, .iinc k0 n, a, b) = true) (hl : ls[k0]? = some (some (.inl x))) (hr : sR (x + n)) (k : sJ l G M rm Q κ θ (i + 1) (ls.set k0 (some (.inl (x + n)))) st S) : sJ l G M rm Q κ θ i ls st S := by
  intro p e s m args below meth c H locs arr hB hC h0 hP hS hL hst
  have hd := sCk_dec hc
  have hn := sCk_len hc (by simp [sLen])
  obtain ⟨arr', e1, hL'⟩ := sL_set (v := .inl (x + n)) hL (by rw [← hL.2.2.1]; exact (List.getElem?_eq_some_iff.mp hl).1) hr
  have kk := k p e s m args below meth c H locs arr' hB hC h0 hP hS hL' hst
  rw [hn] at kk
  rw [sPc_at hq]
  have hg : arr[k0]? = some (.val (.int (Int32.ofInt x))) := sL_at hL hl
  have e1' : storeLocals arr k0 (.int (Int32.ofInt x + Int32.ofInt n)) = some arr' := by rw [s_add]; exact e1
  have hd' : decode M.2.1 pc = .ok (.iinc k0 n, 3) := hd
  intro T hT X
  obtain ⟨t, a1, b1⟩ := kk T hT X
  refine ⟨t, ?_, b1⟩
  jvm_step X.here [X.here.top, ↓top_set X.here.top, hB.1, hB.2.1, hd', hg, e1']
  exact a1
theorem sCk_if {cd : Jvm.ClassFile.Cond} {off : Int} (hc : sCk M i (pc, .ifCond cd off, a, b) = true) : (pc : Int) + off = (sPc M a : Int) := by
  unfold sCk at hc
  simp only [Bool.and_eq_true, decide_eq_true_eq] at hc
  exact hc.2
theorem sCk_ic {cd : Jvm.ClassFile.Cond} {off : Int} (hc : sCk M i (pc, .if_icmp cd off, a, b) = true) : (pc : Int) + off = (sPc M a : Int) := by
  unfold sCk at hc
  simp only [Bool.and_eq_true, decide_eq_true_eq] at hc
  exact hc.2
theorem sCk_go {off : Int} (hc : sCk M i (pc, .goto off, a, b) = true) : (pc : Int) + off = (sPc M a : Int) := by
  unfold sCk at hc
  simp only [Bool.and_eq_true, decide_eq_true_eq] at hc
  exact hc.2
theorem sj_goto {off : Int} (hq : (sCd M)[i]? = some (pc, .goto off, a, b)) (hc : sCk M i (pc, .goto off, a, b) = true) (k : sJ l G M rm Q κ θ a ls st S) : sJ l G M rm Q κ θ i ls st S := by
  intro p e s m args below meth c H locs arr hB hC h0 hP hS hL hst
  have hd := sCk_dec hc
  have kk := k p e s m args below meth c H locs arr hB hC h0 hP hS hL hst
  rw [sPc_at hq]
  exact lv_goto hB.1 hB.2.1 hd (sCk_go hc) kk
theorem sj_if {cd : Jvm.ClassFile.Cond} {off x : Int} (hq : (sCd M)[i]? = some (pc, .ifCond cd off, a, b)) (hc : sCk M i (pc, .ifCond cd off, a, b) = true) (kt : sCc cd x 0 → sJ l G M rm Q κ θ a ls st S) (kf : ¬ sCc cd x 0 → sJ l G M rm Q κ θ (i + 1) ls st S) : sJ l G M rm Q κ θ i ls (.inl x :: st) S := by
  intro p e s m args below meth c H locs arr hB hC h0 hP hS hL hst
  have hd := sCk_dec hc
  have hn := sCk_len hc (by simp [sLen])
  have ht := sCk_if hc
  have hx : sR x := hst _ (List.mem_cons_self)
  have kt' := fun h => kt h p e s m args below meth c H locs arr hB hC h0 hP hS hL (fun v hv => hst v (List.mem_cons_of_mem _ hv))
  have kf' := fun h => kf h p e s m args below meth c H locs arr hB hC h0 hP hS hL (fun v hv => hst v (List.mem_cons_of_mem _ hv))
  rw [hn] at kf'
  rw [sPc_at hq]
  cases cd
  · exact lv_if_eq hB.1 hB.2.1 hd ht (fun h => kt' (by rw [s0] at h; exact (sR_eq hx sR_0).mp h)) (fun h => kf' (by rw [s0] at h; exact fun h2 => h ((sR_eq hx sR_0).mpr h2)))
  · exact lv_if_ne hB.1 hB.2.1 hd ht (fun h => kt' (by rw [s0] at h; exact fun h2 => h ((sR_eq hx sR_0).mpr h2))) (fun h => kf' (by rw [s0] at h; exact fun h2 => h2 ((sR_eq hx sR_0).mp h)))
  · exact lv_if_lt hB.1 hB.2.1 hd ht (fun h => kt' (by rw [s0] at h; exact (sR_lt hx sR_0).mp h)) (fun h => kf' (by rw [s0] at h; exact fun h2 => h ((sR_lt hx sR_0).mpr h2)))
  · exact lv_if_ge hB.1 hB.2.1 hd ht (fun h => kt' (by rw [s0] at h; exact (sR_le sR_0 hx).mp h)) (fun h => kf' (by rw [s0] at h; exact fun h2 => h ((sR_le sR_0 hx).mpr h2)))
  · exact lv_if_gt hB.1 hB.2.1 hd ht (fun h => kt' (by rw [s0] at h; exact (sR_lt sR_0 hx).mp h)) (fun h => kf' (by rw [s0] at h; exact fun h2 => h ((sR_lt sR_0 hx).mpr h2)))
  · exact lv_if_le hB.1 hB.2.1 hd ht (fun h => kt' (by rw [s0] at h; exact (sR_le hx sR_0).mp h)) (fun h => kf' (by rw [s0] at h; exact fun h2 => h ((sR_le hx sR_0).mpr h2)))
theorem sj_ic {cd : Jvm.ClassFile.Cond} {off x y : Int} (hq : (sCd M)[i]? = some (pc, .if_icmp cd off, a, b)) (hc : sCk M i (pc, .if_icmp cd off, a, b) = true) (kt : sCc cd x y → sJ l G M rm Q κ θ a ls st S) (kf : ¬ sCc cd x y → sJ l G M rm Q κ θ (i + 1) ls st S) : sJ l G M rm Q κ θ i ls (.inl y :: .inl x :: st) S := by
  intro p e s m args below meth c H locs arr hB hC h0 hP hS hL hst
  have hd := sCk_dec hc
  have hn := sCk_len hc (by simp [sLen])
  have ht := sCk_ic hc
  have hx : sR x := hst _ (List.mem_cons_of_mem _ (List.mem_cons_self))
  have hy : sR y := hst _ (List.mem_cons_self)
  have kt' := fun h => kt h p e s m args below meth c H locs arr hB hC h0 hP hS hL (fun v hv => hst v (List.mem_cons_of_mem _ (List.mem_cons_of_mem _ hv)))
  have kf' := fun h => kf h p e s m args below meth c H locs arr hB hC h0 hP hS hL (fun v hv => hst v (List.mem_cons_of_mem _ (List.mem_cons_of_mem _ hv)))
  rw [hn] at kf'
  rw [sPc_at hq]
  cases cd
  · exact lv_icmp_eq hB.1 hB.2.1 hd ht (fun h => kt' (by exact (sR_eq hx hy).mp h)) (fun h => kf' (by exact fun h2 => h ((sR_eq hx hy).mpr h2)))
  · exact lv_icmp_ne hB.1 hB.2.1 hd ht (fun h => kt' (by exact fun h2 => h ((sR_eq hx hy).mpr h2))) (fun h => kf' (by exact fun h2 => h2 ((sR_eq hx hy).mp h)))
  · exact lv_icmp_lt hB.1 hB.2.1 hd ht (fun h => kt' (by exact (sR_lt hx hy).mp h)) (fun h => kf' (by exact fun h2 => h ((sR_lt hx hy).mpr h2)))
  · exact lv_icmp_ge hB.1 hB.2.1 hd ht (fun h => kt' (by exact (sR_le hy hx).mp h)) (fun h => kf' (by exact fun h2 => h ((sR_le hy hx).mpr h2)))
  · exact lv_icmp_gt hB.1 hB.2.1 hd ht (fun h => kt' (by exact (sR_lt hy hx).mp h)) (fun h => kf' (by exact fun h2 => h ((sR_lt hy hx).mpr h2)))
  · exact lv_icmp_le hB.1 hB.2.1 hd ht (fun h => kt' (by exact (sR_le hx hy).mp h)) (fun h => kf' (by exact fun h2 => h ((sR_le hx hy).mpr h2)))
end SR
