/-! switches; whole-number constants; Integer.bitCount -/
section STB
variable {l : Launch} {G : sG} {M : sM} {rm : Room} {Q : sQ} {κ θ i : Nat} {ls : List (Option sV)} {st : List sV} {S : sS} {pc a b : Nat}
theorem sj_tin {dflt lo hi x off : Int} {offs : Array Int} (tgt : Nat) (ct : sCert M) (hq : (sCd M)[i]? = some (pc, .tableswitch dflt lo hi offs, a, b)) (h1 : ¬ x < lo) (h2 : ¬ hi < x) (ho : offs[(x - lo).toNat]? = some off) (ht : (pc : Int) + off = (sPc M tgt : Int)) (k : sJ l G M rm Q κ θ tgt ls st S) : sJ l G M rm Q κ θ i ls (.inl x :: st) S := by
  intro p e s m args below meth c H locs arr hB hC h0 hP hS hL hst
  have hd := sCk_dec (ct i _ hq (by simp))
  have hx : sR x := hst _ List.mem_cons_self
  have kk := k p e s m args below meth c H locs arr hB hC h0 hP hS hL (fun v hv => hst v (List.mem_cons_of_mem _ hv))
  rw [sPc_at hq]
  exact lv_tableIn hB.1 hB.2.1 hd (by rw [sR_i hx]; exact h1) (by rw [sR_i hx]; exact h2) (by rw [sR_i hx]; exact ho) ht kk
theorem sj_tout {dflt lo hi x : Int} {offs : Array Int} (tgt : Nat) (ct : sCert M) (hq : (sCd M)[i]? = some (pc, .tableswitch dflt lo hi offs, a, b)) (h1 : x < lo ∨ hi < x) (ht : (pc : Int) + dflt = (sPc M tgt : Int)) (k : sJ l G M rm Q κ θ tgt ls st S) : sJ l G M rm Q κ θ i ls (.inl x :: st) S := by
  intro p e s m args below meth c H locs arr hB hC h0 hP hS hL hst
  have hd := sCk_dec (ct i _ hq (by simp))
  have hx : sR x := hst _ List.mem_cons_self
  have kk := k p e s m args below meth c H locs arr hB hC h0 hP hS hL (fun v hv => hst v (List.mem_cons_of_mem _ hv))
  rw [sPc_at hq]
  exact lv_tableOut hB.1 hB.2.1 hd (by rw [sR_i hx]; exact h1) ht kk
theorem sj_ldcw {idx : Nat} {v : Int} (hv : sR v) (hl : sIn (Cond.constant M.1.cls idx (Int32.ofInt v)) = true) (hd : decode M.2.1 pc = .ok (.ldc_w idx, 3)) (k : sJ l G M rm Q κ θ (i + 1) ls (.inl v :: st) S) (hq : (sCd M)[i]? = some (pc, .nop, a, b) := by rfl) (hn : sPc M (i + 1) = pc + 3 := by rfl) : sJ l G M rm Q κ θ i ls st S := by
  intro p e s m args below meth c H locs arr hB hC h0 hP hS hL hst
  have kk := k p e s m args below meth c H locs arr hB hC h0 hP hS hL (List.forall_mem_cons.mpr ⟨hv, hst⟩)
  rw [hn] at kk
  rw [sPc_at hq]
  exact lv_ldcw hB.1 hB.2.1 hB.2.2.2.2.2.1 (hC.1 _ hl args) hd kk
end STB
def mI_bitCount : sM := (⟨"java/lang/Integer", "bitCount", "(I)I"⟩, prog_12_method_49_code, 1, (some .int), [(0, .iload_n 0, 0, 0), (1, .iload_n 0, 0, 0), (2, .iconst 1, 0, 0), (3, .iushr, 0, 0), (4, .nop, 0, 0), (7, .iand, 0, 0), (8, .isub, 0, 0), (9, .istore_n 0, 0, 0), (10, .iload_n 0, 0, 0), (11, .nop, 0, 0), (14, .iand, 0, 0), (15, .iload_n 0, 0, 0), (16, .iconst 2, 0, 0), (17, .iushr, 0, 0), (18, .nop, 0, 0), (21, .iand, 0, 0), (22, .iadd, 0, 0), (23, .istore_n 0, 0, 0), (24, .iload_n 0, 0, 0), (25, .iload_n 0, 0, 0), (26, .iconst 4, 0, 0), (27, .iushr, 0, 0), (28, .iadd, 0, 0), (29, .nop, 0, 0), (32, .iand, 0, 0), (33, .istore_n 0, 0, 0), (34, .iload_n 0, 0, 0), (35, .iload_n 0, 0, 0), (36, .bipush 8, 0, 0), (38, .iushr, 0, 0), (39, .iadd, 0, 0), (40, .istore_n 0, 0, 0), (41, .iload_n 0, 0, 0), (42, .iload_n 0, 0, 0), (43, .bipush 16, 0, 0), (45, .iushr, 0, 0), (46, .iadd, 0, 0), (47, .istore_n 0, 0, 0), (48, .iload_n 0, 0, 0), (49, .bipush 63, 0, 0), (51, .iand, 0, 0), (52, .ireturn, 0, 0), (53, .nop, 0, 0)], [])
set_option maxRecDepth 100000 in
theorem ct_I_bitCount : sCert mI_bitCount := sCert_of (by decide +kernel)
theorem lk_I_bitCount : sLs 1 mI_bitCount = true := by decide +kernel
theorem lc_265 : sIn (Cond.constant "java/lang/Integer" 265 (Int32.ofInt 1431655765)) = true := by decide +kernel
theorem lc_266 : sIn (Cond.constant "java/lang/Integer" 266 (Int32.ofInt 858993459)) = true := by decide +kernel
theorem lc_267 : sIn (Cond.constant "java/lang/Integer" 267 (Int32.ofInt 252645135)) = true := by decide +kernel
theorem ld_4 : decode prog_12_method_49_code 4 = .ok (.ldc_w 265, 3) := by decide +kernel
theorem ld_11 : decode prog_12_method_49_code 11 = .ok (.ldc_w 266, 3) := by decide +kernel
theorem ld_18 : decode prog_12_method_49_code 18 = .ok (.ldc_w 266, 3) := by decide +kernel
theorem ld_29 : decode prog_12_method_49_code 29 = .ok (.ldc_w 267, 3) := by decide +kernel
