section SQ
variable {l : Launch} {G : sG} {M : sM} {rm : Room} {Q : sQ} {κ θ i : Nat} {ls : List (Option sV)} {st : List sV} {S : sS} {pc a b : Nat}
/-- the stack's range is known: it may be used -/
theorem sJ_st (h : (∀ v ∈ st, sVr v) → sJ l G M rm Q κ θ i ls st S) : sJ l G M rm Q κ θ i ls st S := by
  intro p e s m args below meth c H locs arr hB hC h0 hP hS hL hst
  exact h hst p e s m args below meth c H locs arr hB hC h0 hP hS hL hst
/-- so is the locals' -/
theorem sJ_ls (h : (∀ (k : Nat) (v : sV), ls[k]? = some (some v) → sV1 v) → sJ l G M rm Q κ θ i ls st S) : sJ l G M rm Q κ θ i ls st S := by
  intro p e s m args below meth c H locs arr hB hC h0 hP hS hL hst
  exact h (fun k v hv => (hL.2.2.2 k v hv).2) p e s m args below meth c H locs arr hB hC h0 hP hS hL hst
/-- so is the numbers' -/
theorem sJ_I (h : (∀ a j, sR (S.2.2.1 a j)) → sJ l G M rm Q κ θ i ls st S) : sJ l G M rm Q κ θ i ls st S := by
  intro p e s m args below meth c H locs arr hB hC h0 hP hS hL hst
  exact h hP.2.2.2.2.2.2.1 p e s m args below meth c H locs arr hB hC h0 hP hS hL hst
theorem sj_dupI {x : Int} (hq : (sCd M)[i]? = some (pc, .dup, a, b)) (hc : sCk M i (pc, .dup, a, b) = true) (k : sJ l G M rm Q κ θ (i + 1) ls (.inl x :: .inl x :: st) S) : sJ l G M rm Q κ θ i ls (.inl x :: st) S :=
  sJ_st fun h => sj_dup (v := .inl x) hq hc (h _ List.mem_cons_self) k
theorem sj_popI {x : Int} (hq : (sCd M)[i]? = some (pc, .pop, a, b)) (hc : sCk M i (pc, .pop, a, b) = true) (k : sJ l G M rm Q κ θ (i + 1) ls st S) : sJ l G M rm Q κ θ i ls (.inl x :: st) S :=
  sJ_st fun h => sj_pop (v := .inl x) hq hc (h _ List.mem_cons_self) k
theorem sj_dx1 {x : Int} {y : Nat} (hq : (sCd M)[i]? = some (pc, .dup_x1, a, b)) (hc : sCk M i (pc, .dup_x1, a, b) = true) (k : sJ l G M rm Q κ θ (i + 1) ls (.inl x :: .inr (.inl y) :: .inl x :: st) S) : sJ l G M rm Q κ θ i ls (.inl x :: .inr (.inl y) :: st) S :=
  sJ_st fun h => sj_dup_x1 (v := .inl x) (w := .inr (.inl y)) hq hc (h _ List.mem_cons_self) trivial k
theorem sj_dx2 {x j : Int} {y : Nat} (hq : (sCd M)[i]? = some (pc, .dup_x2, a, b)) (hc : sCk M i (pc, .dup_x2, a, b) = true) (k : sJ l G M rm Q κ θ (i + 1) ls (.inl x :: .inl j :: .inr (.inl y) :: .inl x :: st) S) : sJ l G M rm Q κ θ i ls (.inl x :: .inl j :: .inr (.inl y) :: st) S :=
  sJ_st fun h => sj_dup_x2 (v := .inl x) (w := .inl j) (z := .inr (.inl y)) hq hc (h _ List.mem_cons_self) (h _ (List.mem_cons_of_mem _ List.mem_cons_self)) trivial k
theorem sj_d2 {j : Int} {y : Nat} (hq : (sCd M)[i]? = some (pc, .dup2, a, b)) (hc : sCk M i (pc, .dup2, a, b) = true) (k : sJ l G M rm Q κ θ (i + 1) ls (.inl j :: .inr (.inl y) :: .inl j :: .inr (.inl y) :: st) S) : sJ l G M rm Q κ θ i ls (.inl j :: .inr (.inl y) :: st) S :=
  sJ_st fun h => sj_dup2 (v := .inl j) (w := .inr (.inl y)) hq hc (h _ List.mem_cons_self) trivial k
end SQ
section SS
variable {l : Launch} {G : sG} {M : sM} {rm : Room} {Q : sQ} {κ θ i i' : Nat} {ls ls' : List (Option sV)} {st st' : List sV} {S : sS} {I' : sI} {P : Prop} {ch : Bool} {q : Nat × Jvm.ClassFile.Instr × Nat × Nat}
set_option maxHeartbeats 4000000 in
set_option maxRecDepth 100000 in
theorem sx1_ok (hq : (sCd M)[i]? = some q) (hc : sCk M i q = true) (h : sx1 S.1 S.2.1 ch i q ls st S.2.2.1 = some (P, i', ls', st', I')) (hP : P) (k : sJ l G M rm Q κ θ i' ls' st' (S.1, S.2.1, I', S.2.2.2)) : sJ l G M rm Q κ θ i ls st S := by
  obtain ⟨pc, ins, a, b⟩ := q
  obtain ⟨sh, RF, I, ex⟩ := S
  dsimp only at h k
  cases ins <;> try (simp [sx1] at h; done)
  case iconst n =>
    simp only [sx1] at h
    cases h
    exact sj_iconst hq hc hP k
  case bipush n =>
    simp only [sx1] at h
    cases h
    exact sj_bipush hq hc hP k
  case sipush n =>
    simp only [sx1] at h
    cases h
    exact sj_sipush hq hc hP k
  case iload_n k0 =>
    simp only [sx1, sLdI] at h
    split at h
    · rename_i x hx
      cases h
      exact sj_iload_n hq hc rfl hx k
    · cases h
  case iload k0 =>
    simp only [sx1, sLdI] at h
    split at h
    · rename_i x hx
      cases h
      exact sj_iload hq hc hx k
    · cases h
  case aload_n k0 =>
    simp only [sx1, sLdA] at h
    split at h
    · rename_i x hx
      cases h
      exact sj_aload_n hq hc rfl hx k
    · cases h
  case aload k0 =>
    simp only [sx1, sLdA] at h
    split at h
    · rename_i x hx
      cases h
      exact sj_aload hq hc hx k
    · cases h
  case istore_n k0 =>
    simp only [sx1, sStI] at h
    split at h
    · cases h
      exact sj_istore_n hq hc rfl hP k
    · cases h
  case istore k0 =>
    simp only [sx1, sStI] at h
    split at h
    · cases h
      exact sj_istore hq hc hP k
    · cases h
  case astore_n k0 =>
    simp only [sx1, sStA] at h
    split at h
    · cases h
      exact sj_astore_n hq hc rfl hP k
    · cases h
  case astore k0 =>
    simp only [sx1, sStA] at h
    split at h
    · cases h
      exact sj_astore hq hc hP k
    · cases h
  case iinc k0 n =>
    simp only [sx1] at h
    split at h
    · rename_i x hx
      cases h
      exact sj_iinc hq hc hx hP k
    · cases h
  case iadd =>
    simp only [sx1, sBin] at h
    split at h
    · cases h
      exact sj_iadd hq hc hP k
    · cases h
  case isub =>
    simp only [sx1, sBin] at h
    split at h
    · cases h
      exact sj_isub hq hc hP k
    · cases h
  case imul =>
    simp only [sx1, sBin] at h
    split at h
    · cases h
      exact sj_imul hq hc hP k
    · cases h
  case iand =>
    simp only [sx1, sBit] at h
    split at h
    · cases h
      exact sj_iand hq hc k
    · cases h
  case ior =>
    simp only [sx1, sBit] at h
    split at h
    · cases h
      exact sj_ior hq hc k
    · cases h
  case ixor =>
    simp only [sx1, sBit] at h
    split at h
    · cases h
      exact sj_ixor hq hc k
    · cases h
  case ishl =>
    simp only [sx1, sBit] at h
    split at h
    · cases h
      exact sj_ishl hq hc k
    · cases h
  case iushr =>
    simp only [sx1, sBit] at h
    split at h
    · cases h
      exact sj_iushr hq hc k
    · cases h
  case ifCond cd off =>
    simp only [sx1] at h
    split at h
    · cases h
      cases ch
      · exact sj_if hq hc (fun h => absurd h hP) (fun _ => k)
      · exact sj_if hq hc (fun _ => k) (fun h => absurd hP h)
    · cases h
  case if_icmp cd off =>
    simp only [sx1] at h
    split at h
    · cases h
      cases ch
      · exact sj_ic hq hc (fun h => absurd h hP) (fun _ => k)
      · exact sj_ic hq hc (fun _ => k) (fun h => absurd hP h)
    · cases h
  case goto off =>
    simp only [sx1] at h
    cases h
    exact sj_goto hq hc k
  case getfield idx =>
    simp only [sx1] at h
    split at h
    · split at h
      · rename_i hf
        cases h
        exact sj_getR hq hc hf hP.1 hP.2 k
      · rename_i hf
        cases h
        exact sj_getI hq hc hf hP k
    · cases h
  case putfield idx =>
    simp only [sx1] at h
    split at h
    · split at h
      · cases h
      · rename_i hf
        cases h
        exact sj_putI hq hc hf hP.2.2 hP.1 k
    · cases h
  case iaload =>
    simp only [sx1] at h
    split at h
    · cases h
      exact sj_iald hq hc hP k
    · cases h
  case baload =>
    simp only [sx1] at h
    split at h
    · cases h
      exact sj_bald hq hc hP k
    · cases h
  case iastore =>
    simp only [sx1] at h
    split at h
    · cases h
      exact sj_iast hq hc hP.1 hP.2 k
    · cases h
  case bastore =>
    simp only [sx1] at h
    split at h
    · cases h
      exact sj_bast hq hc hP.1 hP.2.1 hP.2.2 k
    · cases h
  case aaload =>
    simp only [sx1] at h
    split at h
    · cases h
      exact sj_aald hq hc hP.1 hP.2 k
    · cases h
  case arraylength =>
    simp only [sx1] at h
    split at h
    · cases h
      exact sj_alen hq hc hP k
    · cases h
  case laload =>
    simp only [sx1] at h
    split at h
    · cases h
      exact sj_lald hq hc hP k
    · cases h
  case lastore =>
    simp only [sx1] at h
    split at h
    · cases h
      exact sj_last hq hc hP.1 hP.2 k
    · cases h
  case i2l =>
    simp only [sx1] at h
    split at h
    · cases h
      exact sj_i2l hq hc k
    · cases h
  case lconst n =>
    simp only [sx1] at h
    cases h
    exact sj_lconst hq hc k
  case lcmp =>
    simp only [sx1] at h
    split at h
    · cases h
      exact sj_lcmp hq hc k
    · cases h
  case dup =>
    simp only [sx1] at h
    split at h
    · cases h
      exact sj_dupI hq hc k
    · cases h
      exact sj_dup (v := .inr (.inl _)) hq hc trivial k
    · cases h
  case dup_x1 =>
    simp only [sx1] at h
    split at h
    · cases h
      exact sj_dx1 hq hc k
    · cases h
  case dup_x2 =>
    simp only [sx1] at h
    split at h
    · cases h
      exact sj_dx2 hq hc k
    · cases h
  case dup2 =>
    simp only [sx1] at h
    split at h
    · cases h
      exact sj_d2 hq hc k
    · cases h
  case pop =>
    simp only [sx1] at h
    split at h
    · cases h
      exact sj_popI hq hc k
    · cases h
      exact sj_pop (v := .inr (.inl _)) hq hc trivial k
    · cases h
theorem sx_ok (hcert : sCert M) {sh : List (Nat × Nat)} {RF : sF} {x : Nat} : ∀ (n : Nat) (chs : List Bool) (i : Nat) (ls : List (Option sV)) (st : List sV) (I : sI) {P : Prop} {i' : Nat} {ls' : List (Option sV)} {st' : List sV} {I' : sI}, sx sh RF (sCd M) n chs i ls st I = some (P, i', ls', st', I') → P → sJ l G M rm Q κ θ i' ls' st' (sh, RF, I', x) → sJ l G M rm Q κ θ i ls st (sh, RF, I, x) := by
  intro n
  induction n with
  | zero =>
    intro chs i ls st I P i' ls' st' I' h hP k
    simp only [sx] at h
    cases h
    exact k
  | succ n ih =>
    intro chs i ls st I P i' ls' st' I' h hP k
    simp only [sx] at h
    split at h
    · cases h
    · rename_i q hq
      split at h
      · cases h
      · rename_i P1 i1 ls1 st1 I1 h1
        split at h
        · cases h
        · rename_i P2 r h2
          obtain ⟨ri, rl, rs, rI⟩ := r
          cases h
          have hn : q.2.1 ≠ .nop := by
            intro hn
            simp [sx1, hn] at h1
          exact sx1_ok (S := (sh, RF, I, x)) hq (hcert i q hq hn) h1 hP.1 (ih _ _ _ _ _ h2 hP.2 k)
end SS
