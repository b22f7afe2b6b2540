/-! new cells -/
def sMk (S : sS) (q : Nat × Nat) : sS := (S.1 ++ [q], fun b j => if b = S.1.length then 0 else S.2.1 b j, fun b j => if b = S.1.length then 0 else S.2.2.1 b j, S.2.2.2)
theorem sW_mk {G : sG} {S : sS} {q : Nat × Nat} (hl : 0 < S.1.length) : sW G (sMk S q) = sW G S ++ [(G.1 + (S.1.length - 1), sEn G q (fun _ _ => 0) (fun _ _ => 0) 0)] := by
  have h1 : (sMk S q).1.length - 1 = (S.1.length - 1) + 1 := by
    show (S.1 ++ [q]).length - 1 = _
    rw [List.length_append, List.length_singleton]
    omega
  unfold sW
  rw [h1, List.range_succ, List.map_append, List.map_singleton]
  congr 1
  · apply List.map_congr_left
    intro k hk
    have hk' := List.mem_range.mp hk
    have e1 : sKd (sMk S q).1 (k + 1) = sKd S.1 (k + 1) := by
      show sKd (S.1 ++ [q]) (k + 1) = _
      unfold sKd
      rw [List.getD_eq_getElem?_getD, List.getD_eq_getElem?_getD, List.getElem?_append_left (by omega)]
    rw [e1, sEn_congr (RF' := (sMk S q).2.1) (I' := (sMk S q).2.2.1) (RF := S.2.1) (I := S.2.2.1)]
    · funext j
      show (if k + 1 = S.1.length then 0 else S.2.1 (k + 1) j) = _
      rw [if_neg (by omega)]
    · funext j
      show (if k + 1 = S.1.length then 0 else S.2.2.1 (k + 1) j) = _
      rw [if_neg (by omega)]
  · have e1 : sKd (sMk S q).1 (S.1.length - 1 + 1) = q := by
      show sKd (S.1 ++ [q]) (S.1.length - 1 + 1) = _
      unfold sKd
      rw [show S.1.length - 1 + 1 = S.1.length by omega, List.getD_eq_getElem?_getD, List.getElem?_append_right (Nat.le_refl _)]
      simp
    rw [e1]
    congr 2
    have e2 : (sMk S q).2.1 (S.1.length - 1 + 1) = fun _ => 0 := by
      funext j
      show (if S.1.length - 1 + 1 = S.1.length then 0 else S.2.1 (S.1.length - 1 + 1) j) = 0
      rw [if_pos (by omega)]
    have e3 : (sMk S q).2.2.1 (S.1.length - 1 + 1) = fun _ => 0 := by
      funext j
      show (if S.1.length - 1 + 1 = S.1.length then 0 else S.2.2.1 (S.1.length - 1 + 1) j) = 0
      rw [if_pos (by omega)]
    unfold sEn sFd
    rw [e2, e3]
theorem sP_mk {G : sG} {S : sS} {s : State} {H H1 : Heap} {q : Nat × Nat} (hP : sP G S s H) (hx : S.2.2.2 = 0) (hn : q.2 < 2147483648) (hz : H1.size = H.size + 1) (ho : ∀ a, a < H.size → H1[a]? = H[a]?) (hat : va_at G.2.2.1 classes (H.size, sEn G q (fun _ _ => 0) (fun _ _ => 0) 0) H1) : sP G (sMk S q) s H1 ∧ sAd G S.1.length = H.size := by
  obtain ⟨hPw, hlen, hsz, hb0, hk0, hX, hR, hN⟩ := hP
  have hsz2 := hsz.2 hx
  have hl2 : (sMk S q).1.length = S.1.length + 1 := by
    show (S.1 ++ [q]).length = _
    rw [List.length_append, List.length_singleton]
  have hkd : ∀ a, a < S.1.length → sKd (sMk S q).1 a = sKd S.1 a := fun a ha => by
    show sKd (S.1 ++ [q]) a = _
    unfold sKd
    rw [List.getD_eq_getElem?_getD, List.getD_eq_getElem?_getD, List.getElem?_append_left ha]
  refine ⟨⟨?_, by omega, ⟨by omega, fun _ => by omega⟩, hb0, by rw [hkd 0 hlen]; exact hk0, ?_, fun a j => ?_, fun a => ?_⟩, ?_⟩
  · rw [sW_mk hlen]
    refine (hPw.kept (fun k x hx => ho x.1 ((hPw k x hx).lt))).app (fun k x hxk => ?_)
    have hz0 : k < 1 := (List.getElem?_eq_some_iff.mp hxk).1
    rw [show k = 0 by omega] at hxk
    cases hxk
    rw [← hsz2]
    exact hat
  · have e0 : (sMk S q).2.2.1 0 = S.2.2.1 0 := by
      funext j
      show (if 0 = S.1.length then 0 else S.2.2.1 0 j) = _
      rw [if_neg (by omega)]
    rw [hkd 0 hlen, e0]
    exact hX.kept (ho _ (by omega))
  · show sR (if a = S.1.length then 0 else S.2.2.1 a j)
    split
    · exact sR_0
    · exact hR a j
  · by_cases ha : a < S.1.length
    · rw [hkd a ha]; exact hN a
    · by_cases ha2 : a = S.1.length
      · subst ha2
        show (sKd (S.1 ++ [q]) S.1.length).2 < _
        unfold sKd
        rw [List.getD_eq_getElem?_getD, List.getElem?_append_right (Nat.le_refl _)]
        simpa using hn
      · show (sKd (S.1 ++ [q]) a).2 < _
        unfold sKd
        rw [List.getD_eq_getElem?_getD, List.getElem?_eq_none (by rw [List.length_append, List.length_singleton]; omega)]
        decide
  · obtain ⟨n, hn'⟩ : ∃ n, S.1.length = n + 1 := ⟨S.1.length - 1, by omega⟩
    rw [hn', hsz2, hn']
    rfl
section SAL
variable {l : Launch} {G : sG} {M : sM} {rm : Room} {Q : sQ} {κ θ i : Nat} {ls : List (Option sV)} {st : List sV} {S : sS} {pc a b : Nat}
theorem sS_mk {s : State} {H H1 : Heap} {locs : List Loc} (hS : va_S (sA G) s.heap H locs) (hz : H1.size = H.size + 1) (ho : ∀ a, a < H.size → H1[a]? = H[a]?) : va_S (sA G) s.heap H1 locs :=
  ⟨Nat.le_trans hS.1 (by omega), fun x h1 h2 => (ho x (Nat.lt_of_lt_of_le h1 hS.1)).trans (hS.2.1 x h1 h2), hS.2.2⟩
theorem sj_newa {n : Nat} {atype : ArrayType} {ty : FieldType} (kd : Nat) (ct : sCert M) (hq : (sCd M)[i]? = some (pc, .newarray atype, a, b)) (hty : newarray.typeOf atype = ty) (harr : sIn (Cond.arrayClass ty) = true) (hkt : ∀ G : sG, (sTy G)[kd]? = some (G.2.2.2 kd, ty)) (hnr : ∀ s cA, va_RA s cA ty → s.vm.findClass ("[" ++ ty.toString) = some cA) (hcell : ∀ (G : sG) (n : Nat), ∃ a0, sEn G (kd, n) (fun _ _ => 0) (fun _ _ => 0) 0 = .inl (G.2.2.2 kd, a0) ∧ ∀ cA, vp_cell cA a0 = arrV cA n (fun _ => defaultValue ty)) (hby : n * componentBytes ty ≤ 536870912) (hn2 : n < 2147483648) (hx : S.2.2.2 = 0) (hκ : κ + 1 ≤ rm.cells) (hθ : θ + n ≤ rm.slots)
    (k : sJ l G M rm Q (κ + 1) (θ + n) (i + 1) ls (.inr (.inl S.1.length) :: st) (sMk S (kd, n))) : sJ l G M rm Q κ θ i ls (.inl (n : Int) :: st) S := by
  have hc := ct i _ hq (by simp)
  intro p e s m args below meth c H locs arr hB hC h0 hP hS hL hst
  have hd := sCk_dec hc
  have hn := sCk_len hc (by simp [sLen])
  have hnr0 : sR (n : Int) := hst _ List.mem_cons_self
  rw [sPc_at hq]
  subst hty
  refine va_newaK hB.1 hB.2.1 (hC.1 _ harr args) rfl hd rfl (n := Int32.ofInt n) (N := n) (fun h => by
    rw [s0, sR_lt hnr0 sR_0] at h
    omega) (by rw [sR_cl hnr0]; rfl) hby hκ hθ rfl fun H1 cA e1 z1 o1 hAr hNm => ?_
  have hcA : cA = G.2.2.2 kd := by
    have := hnr s _ ((hC.2.1.2 kd _ (hkt G)).2)
    rw [hNm] at this
    exact Option.some.inj this
  subst hcA
  obtain ⟨a0, ha0, ha1⟩ := hcell G n
  obtain ⟨hP1, had⟩ := sP_mk (q := (kd, n)) hP hx hn2 z1 o1 (by rw [ha0]; show H1[H.size]? = some (vp_cell _ a0); rw [ha1]; exact e1)
  have kk := k p e s m args below meth c H1 locs arr hB hC h0 hP1 (sS_mk hS z1 o1) hL (List.forall_mem_cons.mpr ⟨trivial, fun v hv => hst v (List.mem_cons_of_mem _ hv)⟩)
  rw [hn] at kk
  have e2 : (List.map (sE G) (.inr (.inl S.1.length) :: st)) = .ref H.size :: List.map (sE G) st := by
    rw [List.map_cons]
    congr 1
    show Value.ref (sAd G S.1.length) = _
    rw [had]
  rw [e2] at kk
  exact kk
end SAL
