/-! Math.min, Math.max, System.arraycopy -/
def sCp (I : sI) (d s : Nat) (n : Int) : sI := fun b k => if b = d ∧ 0 ≤ k ∧ k < n then I s k else I b k
theorem sCp_ne {I : sI} {d s : Nat} {n : Int} {b : Nat} (h : b ≠ d) : sCp I d s n b = I b := by
  funext k
  simp [sCp, h]
theorem sCp_R {I : sI} {d s : Nat} {n : Int} (h : ∀ a j, sR (I a j)) : ∀ b k, sR (sCp I d s n b k) := by
  intro b k
  unfold sCp
  split
  · exact h _ _
  · exact h _ _
theorem sI_min : sIn (Cond.static Lib.Math.min.name) = true ∧ sIn (Cond.initialized "java/lang/Math") = true ∧ sIn (Cond.code Lib.Math.min.name Lib.Math.min.code 2 (some .int)) = true := by decide +kernel
theorem sI_max : sIn (Cond.static Lib.Math.max.name) = true ∧ sIn (Cond.code Lib.Math.max.name Lib.Math.max.code 2 (some .int)) = true := by decide +kernel
theorem sI_cpy : sIn (Cond.native arraycopyName) = true ∧ sIn (Cond.static arraycopyName) = true ∧ sIn (Cond.initialized "java/lang/System") = true := by decide +kernel
section SK
variable {l : Launch} {G : sG} {M : sM} {rm : Room} {Q : sQ} {κ θ i : Nat} {ls : List (Option sV)} {st : List sV} {S : sS} {pc a b idx : Nat}
theorem sj_min {x y : Int} (ct : sCert M) (hq : (sCd M)[i]? = some (pc, .invokestatic idx, a, b)) (hl : sIn (Cond.methodLink M.1.cls idx Lib.Math.min.name) = true) (hfr : 1 ≤ rm.frames) (hlo : (st.map fun v => (sE G v).category).sum + 13 ≤ rm.locals) (hκ : κ ≤ rm.cells) (hθ : θ ≤ rm.slots)
    (k : sJ l G M rm Q κ θ (i + 1) ls (.inl (if y < x then y else x) :: st) S) : sJ l G M rm Q κ θ i ls (.inl y :: .inl x :: st) S := by
  have hc := ct i _ hq (by simp)
  intro p e s m args below meth c H locs arr hB hC h0 hP hS hL hst
  have hd := sCk_dec hc
  have hn := sCk_len hc (by simp [sLen])
  have hx : sR x := hst _ (List.mem_cons_of_mem _ List.mem_cons_self)
  have hy : sR y := hst _ List.mem_cons_self
  have kk := k p e s m args below meth c H locs arr hB hC h0 hP hS hL (List.forall_mem_cons.mpr ⟨(by show sR _; split; exact hy; exact hx), fun v hv => hst v (List.mem_cons_of_mem _ (List.mem_cons_of_mem _ hv))⟩)
  rw [hn] at kk
  rw [sPc_at hq]
  refine va_mmin hB.1 hB.2.1 (by rw [hB.2.2.1, hL.1]) hB.2.2.2.2.2.1 (hC.1 _ hl args) (hC.1 _ sI_min.1 args) (hC.1 _ sI_min.2.1 args) (hC.1 _ sI_min.2.2 args) hfr (by rw [List.map_map]; exact hlo) hκ hθ hd ?_
  have e1 : (if Int32.ofInt y < Int32.ofInt x then Int32.ofInt y else Int32.ofInt x) = Int32.ofInt (if y < x then y else x) := by
    by_cases h : y < x
    · rw [if_pos h, if_pos ((sR_lt hy hx).mpr h)]
    · rw [if_neg h, if_neg (fun h2 => h ((sR_lt hy hx).mp h2))]
  rw [e1]
  exact kk
theorem sj_max {x y : Int} (ct : sCert M) (hq : (sCd M)[i]? = some (pc, .invokestatic idx, a, b)) (hl : sIn (Cond.methodLink M.1.cls idx Lib.Math.max.name) = true) (hfr : 1 ≤ rm.frames) (hlo : (st.map fun v => (sE G v).category).sum + 13 ≤ rm.locals) (hκ : κ ≤ rm.cells) (hθ : θ ≤ rm.slots)
    (k : sJ l G M rm Q κ θ (i + 1) ls (.inl (if x < y then y else x) :: st) S) : sJ l G M rm Q κ θ i ls (.inl y :: .inl x :: st) S := by
  have hc := ct i _ hq (by simp)
  intro p e s m args below meth c H locs arr hB hC h0 hP hS hL hst
  have hd := sCk_dec hc
  have hn := sCk_len hc (by simp [sLen])
  have hx : sR x := hst _ (List.mem_cons_of_mem _ List.mem_cons_self)
  have hy : sR y := hst _ List.mem_cons_self
  have kk := k p e s m args below meth c H locs arr hB hC h0 hP hS hL (List.forall_mem_cons.mpr ⟨(by show sR _; split; exact hy; exact hx), fun v hv => hst v (List.mem_cons_of_mem _ (List.mem_cons_of_mem _ hv))⟩)
  rw [hn] at kk
  rw [sPc_at hq]
  refine va_mmax hB.1 hB.2.1 (by rw [hB.2.2.1, hL.1]) hB.2.2.2.2.2.1 (hC.1 _ hl args) (hC.1 _ sI_max.1 args) (hC.1 _ sI_min.2.1 args) (hC.1 _ sI_max.2 args) hfr (by rw [List.map_map]; exact hlo) hκ hθ hd ?_
  have e1 : (if Int32.ofInt x < Int32.ofInt y then Int32.ofInt y else Int32.ofInt x) = Int32.ofInt (if x < y then y else x) := by
    by_cases h : x < y
    · rw [if_pos h, if_pos ((sR_lt hx hy).mpr h)]
    · rw [if_neg h, if_neg (fun h2 => h ((sR_lt hx hy).mp h2))]
  rw [e1]
  exact kk
theorem sj_copy {d s0 : Nat} {n : Int} (ct : sCert M) (hq : (sCd M)[i]? = some (pc, .invokestatic idx, a, b)) (hl : sIn (Cond.methodLink M.1.cls idx arraycopyName) = true) (hfr : 1 ≤ rm.frames) (hlo : (st.map fun v => (sE G v).category).sum + (nativeFrameWords "java/lang/System" "arraycopy" 5 + 11) ≤ rm.locals) (hex : S.2.2.2 ≠ 0)
    (hd0 : d ≠ 0) (hs0 : s0 ≠ 0) (hkd : (sKd S.1 d).1 = 0) (hks : (sKd S.1 s0).1 = 0) (hn0 : 0 ≤ n) (hnd : n ≤ (sKd S.1 d).2) (hns : n ≤ (sKd S.1 s0).2)
    (k : sJ l G M rm Q κ θ (i + 1) ls st (S.1, S.2.1, sCp S.2.2.1 d s0 n, S.2.2.2)) : sJ l G M rm Q κ θ i ls (.inl n :: .inl 0 :: .inr (.inl d) :: .inl 0 :: .inr (.inl s0) :: st) S := by
  have hc := ct i _ hq (by simp)
  intro p e s m args below meth c H locs arr hB hC h0 hP hS hL hst
  have hd := sCk_dec hc
  have hn := sCk_len hc (by simp [sLen])
  have hnr : sR n := hst _ List.mem_cons_self
  rw [sPc_at hq]
  obtain ⟨d', rfl, hlt, hw⟩ := sP_arr hP hd0 (by rw [hkd]; decide)
  obtain ⟨s', rfl, hlts, hws⟩ := sP_arr hP hs0 (by rw [hks]; decide)
  have he : ∀ I' : sI, sEn G (sKd S.1 (d' + 1)) S.2.1 I' (d' + 1) = .inl (G.2.2.2 0, (sKd S.1 (d' + 1)).2, .inl (fun j => Int32.ofInt (I' (d' + 1) j))) := by
    intro I'
    unfold sEn
    rw [hkd]
  have hes : sEn G (sKd S.1 (s' + 1)) S.2.1 S.2.2.1 (s' + 1) = .inl (G.2.2.2 0, (sKd S.1 (s' + 1)).2, .inl (fun j => Int32.ofInt (S.2.2.1 (s' + 1) j))) := by
    unfold sEn
    rw [hks]
  rw [he] at hw
  rw [hes] at hws
  have hcl := sR_cl hnr
  have hcl0 : (Int32.ofInt 0).toNatClampNeg = 0 := by decide
  have hng : ¬ Int32.ofInt n < 0 := by
    rw [s0]
    intro h
    have := (sR_lt hnr sR_0).mp h
    omega
  refine va_copyi hB.1 hB.2.1 (by rw [hB.2.2.1, hL.1]) hB.2.2.2.2.2.1 (hC.1 _ hl args) (hC.1 _ sI_cpy.1 args) (hC.1 _ sI_cpy.2.1 args) (hC.1 _ sI_cpy.2.2 args) hC.2.1 hP.1 (sW_D G S) hS s' d' 0 0 hws hw rfl rfl rfl (by decide) (by decide) hng (by rw [hcl, hcl0]; omega) (by rw [hcl, hcl0]; omega) (fun _ _ => rfl) hfr (by rw [List.map_map]; exact hlo) hd (fun H1 locs1 hP1 _ hS1 => ?_)
  have hI : ∀ b, b ≠ d' + 1 → sCp S.2.2.1 (d' + 1) (s' + 1) n b = S.2.2.1 b := fun b hb => sCp_ne hb
  have hfun : va_cpy (fun j : Nat => Int32.ofInt (S.2.2.1 (s' + 1) j)) (fun j : Nat => Int32.ofInt (S.2.2.1 (d' + 1) j)) (Int32.ofInt 0).toNatClampNeg (Int32.ofInt 0).toNatClampNeg (Int32.ofInt n).toNatClampNeg = fun j : Nat => Int32.ofInt (sCp S.2.2.1 (d' + 1) (s' + 1) n (d' + 1) j) := by
    funext j
    rw [hcl, hcl0]
    unfold va_cpy sCp
    by_cases hj : j < n.toNat
    · rw [if_pos (by omega), if_pos ⟨rfl, by omega, by omega⟩]
      simp
    · rw [if_neg (by omega), if_neg (by omega)]
  rw [hfun, sW_set (sh := S.1) (RF := S.2.1) (RF' := S.2.1) (I := S.2.2.1) (I' := sCp S.2.2.1 (d' + 1) (s' + 1) n) (x := S.2.2.2) (x' := S.2.2.2) hlt (he _).symm (fun _ _ => rfl) hI] at hP1
  have hPn : sP G (S.1, S.2.1, sCp S.2.2.1 (d' + 1) (s' + 1) n, S.2.2.2) s H1 := by
    obtain ⟨g1, g2, g3, g4, g5, g6, g7, g8⟩ := hP
    refine ⟨hP1, g2, ⟨?_, fun h => absurd h hex⟩, g4, g5, ?_, sCp_R g7, g8⟩
    · have hl1 : S.1.length - 1 - 1 + 1 < S.1.length := by omega
      have := (hP1 (S.1.length - 1 - 1) _ (sW_get (S := (S.1, S.2.1, sCp S.2.2.1 (d' + 1) (s' + 1) n, S.2.2.2)) hl1)).lt
      show G.1 + (S.1.length - 1) ≤ H1.size
      have h9 : G.1 + (S.1.length - 1 - 1) < H1.size := this
      omega
    · have e0 : sCp S.2.2.1 (d' + 1) (s' + 1) n 0 = S.2.2.1 0 := hI 0 (by omega)
      show va_X G.2.1 (sKd S.1 0).2 (fun j => Int32.ofInt (sCp S.2.2.1 (d' + 1) (s' + 1) n 0 j)) s H1
      rw [e0]
      refine g6.kept ?_
      have hb1 : G.2.1 < s.heap.size := Nat.lt_of_lt_of_le g4 h0
      rw [hS1.2.1 _ hb1 (Nat.not_le.mpr g4), hS.2.1 _ hb1 (Nat.not_le.mpr g4)]
  have kk := k p e s m args below meth c H1 locs1 arr hB hC h0 hPn hS1 hL (fun v hv => hst v (List.mem_cons_of_mem _ (List.mem_cons_of_mem _ (List.mem_cons_of_mem _ (List.mem_cons_of_mem _ (List.mem_cons_of_mem _ hv))))))
  rw [hn] at kk
  exact kk
end SK
