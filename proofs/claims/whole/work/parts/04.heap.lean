section SH
variable {l : Launch} {G : sG} {M : sM} {rm : Room} {Q : sQ} {κ θ i : Nat} {ls : List (Option sV)} {st : List sV} {S : sS} {pc a b : Nat}
theorem sLk_spec {own : String} {idx ci k : Nat} (h : sLk own idx ci k = true) : ∃ q : vw_C, classes[ci]? = some q ∧ k < q.2.2 ∧ (sIn (Cond.fieldLink own idx (q.2.1 k).1 (q.2.1 k).2.1 (q.2.1 k).2.2.1) = true ∨ sIn (Cond.fieldLinkNest own idx (q.2.1 k).1 (q.2.1 k).2.1 (q.2.1 k).2.2.1 "TermBench") = true) := by
  unfold sLk at h
  split at h
  · rename_i q hq
    simp only [Bool.and_eq_true, Bool.or_eq_true, decide_eq_true_eq] at h
    exact ⟨q, hq, h.1, h.2⟩
  · cases h
theorem sCk_gf {idx : Nat} (hc : sCk M i (pc, .getfield idx, a, b) = true) : sLk M.1.cls idx a b = true := by
  unfold sCk at hc
  simp only [Bool.and_eq_true] at hc
  exact hc.2
theorem sCk_pf {idx : Nat} (hc : sCk M i (pc, .putfield idx, a, b) = true) : sLk M.1.cls idx a b = true := by
  unfold sCk at hc
  simp only [Bool.and_eq_true] at hc
  exact hc.2
theorem sFd_get {c n : Nat} {RF : sF} {I : sI} {x k : Nat} (hk : k < n) : (sFd G c n RF I x)[k]? = some (if cFT c k = 2 then va_rf (sN G (RF x k)) else .int (Int32.ofInt (I x k))) := by
  unfold sFd
  rw [List.getElem?_map, List.getElem?_range hk]
  rfl
theorem sFd_set {c n : Nat} {RF : sF} {I : sI} {x k : Nat} {v : Int} (hf : cFT c k ≠ 2) : (sFd G c n RF I x).set k (.int (Int32.ofInt v)) = sFd G c n RF (sU I x k v) x := by
  apply List.ext_getElem?
  intro j
  by_cases hj : j < n
  · by_cases hjk : j = k
    · subst hjk
      rw [List.getElem?_set_self (by simp [sFd]; exact hj), sFd_get hj, if_neg hf]
      simp [sU]
    · rw [List.getElem?_set_ne (Ne.symm hjk), sFd_get hj, sFd_get hj]
      have : ¬ (j : Int) = (k : Int) := by omega
      simp [sU, this]
  · rw [List.getElem?_eq_none (by simp [sFd]; omega), List.getElem?_eq_none (by simp [sFd]; omega)]
/-- an object's cell in the world -/
theorem sP_obj {s : State} {H : Heap} {c x : Nat} (hP : sP G S s H) (hk : (sKd S.1 x).1 = c + 5) (hc : c + 5 ≠ 99) : ∃ x', x = x' + 1 ∧ x' + 1 < S.1.length ∧ (sW G S)[x']? = some (G.1 + x', .inr (c, sFd G c (sKd S.1 x).2 S.2.1 S.2.2.1 x)) := by
  obtain ⟨hPw, hlen, hsz, hb0, hk0, hX, hR, hN⟩ := hP
  have hx0 : x ≠ 0 := by
    rintro rfl
    rw [hk] at hk0
    omega
  obtain ⟨x', rfl⟩ : ∃ x', x = x' + 1 := ⟨x - 1, by omega⟩
  have hlt : x' + 1 < S.1.length := sKd_lt (k := c + 5) (n := (sKd S.1 (x' + 1)).2) (by rw [← hk]) hc
  refine ⟨x', rfl, hlt, ?_⟩
  rw [sW_get hlt]
  unfold sEn
  rw [hk]
/-- an array's cell -/
theorem sP_arr {s : State} {H : Heap} {x : Nat} (hP : sP G S s H) (hx0 : x ≠ 0) (hk : (sKd S.1 x).1 ≠ 99) : ∃ x', x = x' + 1 ∧ x' + 1 < S.1.length ∧ (sW G S)[x']? = some (G.1 + x', sEn G (sKd S.1 x) S.2.1 S.2.2.1 x) := by
  obtain ⟨x', rfl⟩ : ∃ x', x = x' + 1 := ⟨x - 1, by omega⟩
  have hlt : x' + 1 < S.1.length := sKd_lt (k := (sKd S.1 (x' + 1)).1) (n := (sKd S.1 (x' + 1)).2) rfl hk
  exact ⟨x', rfl, hlt, sW_get hlt⟩
/-- one cell has changed -/
theorem sP_upd {s : State} {H H1 : Heap} {I' : sI} {x' : Nat} (hP : sP G S s H) (hx : x' + 1 < S.1.length) (hz : H1.size = H.size) (ho : ∀ q, q ≠ G.1 + x' → H1[q]? = H[q]?) (hat : va_at G.2.2.1 classes (G.1 + x', sEn G (sKd S.1 (x' + 1)) S.2.1 I' (x' + 1)) H1) (hI : ∀ b, b ≠ x' + 1 → I' b = S.2.2.1 b) (hR' : ∀ a j, sR (I' a j)) :
    sP G (S.1, S.2.1, I', S.2.2.2) s H1 := by
  obtain ⟨hPw, hlen, hsz, hb0, hk0, hX, hR, hN⟩ := hP
  refine ⟨?_, hlen, by rw [hz]; exact hsz, hb0, hk0, ?_, hR', hN⟩
  · have h1 := va_P.set hPw (sW_D G S) (sW_get hx) hat ho
    rw [sW_set (sh := S.1) (RF := S.2.1) (RF' := S.2.1) (I := S.2.2.1) (I' := I') (x := S.2.2.2) (x' := S.2.2.2) hx rfl (fun _ _ => rfl) hI] at h1
    exact h1
  · have e0 : I' 0 = S.2.2.1 0 := hI 0 (by omega)
    show va_X G.2.1 (sKd S.1 0).2 (fun j => Int32.ofInt (I' 0 j)) s H1
    rw [e0]
    exact hX.kept (ho _ (by omega))
theorem sS_put {s : State} {H H1 : Heap} {locs : List Loc} {x' k : Nat} (hS : va_S (sA G) s.heap H locs) (hz : H1.size = H.size) (ho : ∀ q, q ≠ G.1 + x' → H1[q]? = H[q]?) : va_S (sA G) s.heap H1 (locs ++ [⟨G.1 + x', k⟩]) :=
  hS.put hz ho (by show G.1 ≤ G.1 + x'; omega)
theorem sj_getI {idx x : Nat} (hq : (sCd M)[i]? = some (pc, .getfield idx, a, b)) (hc : sCk M i (pc, .getfield idx, a, b) = true) (hf : cFT a b ≠ 2) (ho : sObj S.1 a x b) (k : sJ l G M rm Q κ θ (i + 1) ls (.inl (S.2.2.1 x b) :: st) S) : sJ l G M rm Q κ θ i ls (.inr (.inl x) :: st) S := by
  intro p e s m args below meth c H locs arr hB hC h0 hP hS hL hst
  have hd := sCk_dec hc
  have hn := sCk_len hc (by simp [sLen])
  have kk := k p e s m args below meth c H locs arr hB hC h0 hP hS hL (List.forall_mem_cons.mpr ⟨hP.2.2.2.2.2.2.1 x b, fun v hv => hst v (List.mem_cons_of_mem _ hv)⟩)
  rw [hn] at kk
  rw [sPc_at hq]
  obtain ⟨q, hcl, hbN, hlk⟩ := sLk_spec (sCk_gf hc)
  obtain ⟨x', rfl, hlt, hw⟩ := sP_obj hP ho.1 (cls_99 hcl)
  have hv := sFd_get (G := G) (c := a) (RF := S.2.1) (I := S.2.2.1) (x := x' + 1) ho.2
  rw [if_neg hf] at hv
  obtain ⟨C, T, N⟩ := q
  rcases hlk with hlk | hlk
  · exact va_get (D := G.2.2.1) (ci := a) (C := C) (T := T) (N := N) hB.1 hB.2.1 (Ts := u_ws C T N) (fun w h => hC.1 w ((cls_ok a _ hcl).1 w h) args) (fun w h => h) hB.2.2.2.2.2.1 hC.2.1 hP.1 x' hw hcl b hbN (hC.1 _ hlk args) (fun _ h9 => h9) hv hd kk
  · exact va_getN (D := G.2.2.1) (ci := a) (C := C) (T := T) (N := N) hB.1 hB.2.1 (Ts := u_ws C T N) (fun w h => hC.1 w ((cls_ok a _ hcl).1 w h) args) (fun w h => h) hB.2.2.2.2.2.1 hC.2.1 hP.1 x' hw hcl b hbN (hC.1 _ hlk args) (fun _ h9 => h9) hv hd kk
theorem sN_ref {r : Nat} (h : r ≠ 0) : va_rf (sN G r) = .ref (sAd G r) := by
  obtain ⟨r', rfl⟩ : ∃ r', r = r' + 1 := ⟨r - 1, by omega⟩
  rfl
theorem sj_getR {idx x : Nat} (hq : (sCd M)[i]? = some (pc, .getfield idx, a, b)) (hc : sCk M i (pc, .getfield idx, a, b) = true) (hf : cFT a b = 2) (ho : sObj S.1 a x b) (hr : S.2.1 x b ≠ 0) (k : sJ l G M rm Q κ θ (i + 1) ls (.inr (.inl (S.2.1 x b)) :: st) S) : sJ l G M rm Q κ θ i ls (.inr (.inl x) :: st) S := by
  intro p e s m args below meth c H locs arr hB hC h0 hP hS hL hst
  have hd := sCk_dec hc
  have hn := sCk_len hc (by simp [sLen])
  have kk := k p e s m args below meth c H locs arr hB hC h0 hP hS hL (List.forall_mem_cons.mpr ⟨trivial, fun v hv => hst v (List.mem_cons_of_mem _ hv)⟩)
  rw [hn] at kk
  rw [sPc_at hq]
  obtain ⟨q, hcl, hbN, hlk⟩ := sLk_spec (sCk_gf hc)
  obtain ⟨x', rfl, hlt, hw⟩ := sP_obj hP ho.1 (cls_99 hcl)
  have hv := sFd_get (G := G) (c := a) (RF := S.2.1) (I := S.2.2.1) (x := x' + 1) ho.2
  rw [if_pos hf, sN_ref hr] at hv
  obtain ⟨C, T, N⟩ := q
  rcases hlk with hlk | hlk
  · exact va_get (D := G.2.2.1) (ci := a) (C := C) (T := T) (N := N) hB.1 hB.2.1 (Ts := u_ws C T N) (fun w h => hC.1 w ((cls_ok a _ hcl).1 w h) args) (fun w h => h) hB.2.2.2.2.2.1 hC.2.1 hP.1 x' hw hcl b hbN (hC.1 _ hlk args) (fun _ h9 => h9) hv hd kk
  · exact va_getN (D := G.2.2.1) (ci := a) (C := C) (T := T) (N := N) hB.1 hB.2.1 (Ts := u_ws C T N) (fun w h => hC.1 w ((cls_ok a _ hcl).1 w h) args) (fun w h => h) hB.2.2.2.2.2.1 hC.2.1 hP.1 x' hw hcl b hbN (hC.1 _ hlk args) (fun _ h9 => h9) hv hd kk
theorem cTy_fit {x : Int} (hf : cFT a b ≠ 2) (hz : cFT a b = 1 → x = 0 ∨ x = 1) : narrow (cTy a b) (.int (Int32.ofInt x)) = .int (Int32.ofInt x) ∧ fits (cTy a b) (.int (Int32.ofInt x)) = true := by
  unfold cFT at hf hz
  cases h : cTy a b <;> rw [h] at hf hz <;> simp at hf hz
  · exact ⟨rfl, rfl⟩
  · rcases hz with rfl | rfl <;> decide
theorem sj_putI {idx x : Nat} {v : Int} (hq : (sCd M)[i]? = some (pc, .putfield idx, a, b)) (hc : sCk M i (pc, .putfield idx, a, b) = true) (hf : cFT a b ≠ 2) (hz : cFT a b = 1 → v = 0 ∨ v = 1) (ho : sObj S.1 a x b)
    (k : sJ l G M rm Q κ θ (i + 1) ls st (S.1, S.2.1, sU S.2.2.1 x b v, S.2.2.2)) : sJ l G M rm Q κ θ i ls (.inl v :: .inr (.inl x) :: st) S := by
  intro p e s m args below meth c H locs arr hB hC h0 hP hS hL hst
  have hd := sCk_dec hc
  have hn := sCk_len hc (by simp [sLen])
  have hv : sR v := hst _ List.mem_cons_self
  rw [sPc_at hq]
  obtain ⟨q, hcl, hbN, hlk⟩ := sLk_spec (sCk_pf hc)
  obtain ⟨x', rfl, hlt, hw⟩ := sP_obj hP ho.1 (cls_99 hcl)
  obtain ⟨C, T, N⟩ := q
  obtain ⟨hin0, hty, hnm, hfn, -⟩ := cls_ok a _ hcl
  have hin : ∀ w ∈ u_ws C T N, w ∈ u_ws C T N := fun w h => h
  have hts : ∀ w ∈ u_ws C T N, w.before args s = true := fun w h => hC.1 w (hin0 w h) args
  have hap := va_apart (own := M.1.cls) hts hin (cTy a) hty hnm hC.2.1 hcl
  obtain ⟨r, h1, cell, q1, q2, q3, q4⟩ := hP.1 x' _ hw
  have hr : r = (C, T, N) := Option.some.inj (h1.symm.trans hcl)
  subst hr
  obtain ⟨hSl, hfc, kC, hkC, hkind⟩ := hC.2.1.1 a _ hcl
  obtain ⟨cf, kf, fi, f, hi, hsl⟩ := hSl b hbN
  have hlay := hts _ (hin _ (u_in_lay hbN))
  unfold u_lay at hlay
  rw [if_neg (by rw [hfn b hbN hf]; decide)] at hlay
  have hstt := (u_facts hfc hkC (u_lays hts hin hbN) hi).1
  obtain ⟨hna, hfi⟩ := cTy_fit (a := a) (b := b) hf hz
  have h6 := u_store hfc hkC hkind hlay hi (hty b hbN) hna hfi
  have fin : ∀ H' : Heap, H'[G.1 + x']? = some (cell.setSlot f.slot (.int (Int32.ofInt v))) → H'.size = H.size → (∀ q, q ≠ G.1 + x' → H'[q]? = H[q]?) →
      W p l e rm s m args below meth c H' (locs ++ [⟨G.1 + x', f.slot⟩]) κ θ (sMQ below (sQc G Q) args s rm.cells rm.slots (sA G)) (F0 m (pc + 3) arr (st.map (sE G))) := by
    intro H' e1 e2 e3
    rw [hsl] at e1 ⊢
    have hat : va_at G.2.2.1 classes (G.1 + x', sEn G (sKd S.1 (x' + 1)) S.2.1 (sU S.2.2.1 (x' + 1) b v) (x' + 1)) H' := by
      unfold sEn
      rw [ho.1]
      show ∃ r : vw_C, classes[a]? = some r ∧ _
      rw [← sFd_set hf]
      exact ⟨_, hcl, t_OB.to (V := updV (vp_V _) b (.int (Int32.ofInt v))) ⟨_, e1, q2, q3, t_set q4 hap hbN _⟩ (fun j _ => vp_updV_set (by simp [sFd]; exact ho.2) _ j)⟩
    have kk := k p e s m args below meth c H' (locs ++ [⟨G.1 + x', (G.2.2.1.2 a b)⟩]) arr hB hC h0 (sP_upd hP hlt e2 e3 hat (fun b' hb' => sU_ne hb') (sU_R hP.2.2.2.2.2.2.1 hv)) (sS_put hS e2 e3) hL (fun v hv => hst v (List.mem_cons_of_mem _ (List.mem_cons_of_mem _ hv)))
    rw [hn] at kk
    exact kk
  rcases hlk with hlk | hlk
  · exact W.putK hB.1 hB.2.1 (f := f) ⟨hB.2.2.2.2.2.1, hC.1 _ hlk args, ⟨_, _, _, hi⟩, hstt⟩ (by rw [q2]; exact h6) q1 q3 (by rw [hsl]; exact k2_hasslot (q4 b hbN)) rfl rfl hd fin
  · exact va_WputK hB.1 hB.2.1 (f := f) hB.2.2.2.2.2.1 (hC.1 _ hlk args) hi hstt (by rw [q2]; exact h6) q1 q3 (by rw [hsl]; exact k2_hasslot (q4 b hbN)) rfl rfl hd fin
theorem sj_iald {x : Nat} {j : Int} (hq : (sCd M)[i]? = some (pc, .iaload, a, b)) (hc : sCk M i (pc, .iaload, a, b) = true) (ho : sArr S.1 0 x j) (k : sJ l G M rm Q κ θ (i + 1) ls (.inl (S.2.2.1 x j) :: st) S) : sJ l G M rm Q κ θ i ls (.inl j :: .inr (.inl x) :: st) S := by
  intro p e s m args below meth c H locs arr hB hC h0 hP hS hL hst
  have hd := sCk_dec hc
  have hn := sCk_len hc (by simp [sLen])
  have kk := k p e s m args below meth c H locs arr hB hC h0 hP hS hL (List.forall_mem_cons.mpr ⟨hP.2.2.2.2.2.2.1 x j, fun v hv => hst v (List.mem_cons_of_mem _ (List.mem_cons_of_mem _ hv))⟩)
  rw [hn] at kk
  rw [sPc_at hq]
  have hjr : sR j := hst _ List.mem_cons_self
  have hin := sR_in ho.2.1 ho.2.2 (hP.2.2.2.2.2.2.2 x)
  have hcl := sR_cl hjr
  have hjn : ((j.toNat : Nat) : Int) = j := by have := ho.2.1; omega
  by_cases hx0 : x = 0
  · subst hx0
    obtain ⟨scr, g1, g2, g3, g4, g5⟩ := hP.2.2.2.2.2.1
    have hlt : (Int32.ofInt j).toNatClampNeg < (sKd S.1 0).2 := Nat.not_le.mp fun q => hin (Or.inr q)
    refine W.iald (v := .int (Int32.ofInt (S.2.2.1 0 j))) hB.1 hB.2.1 g1 g2 g3 (by rw [g4]; exact hin) ?_ rfl rfl hd kk
    rw [g5 _ hlt, hcl]
    show some (Value.int (Int32.ofInt (S.2.2.1 0 ((j.toNat : Nat) : Int)))) = _
    rw [hjn]
  · obtain ⟨x', rfl, hlt, hw⟩ := sP_arr hP hx0 (by rw [ho.1]; decide)
    have he : sEn G (sKd S.1 (x' + 1)) S.2.1 S.2.2.1 (x' + 1) = .inl (G.2.2.2 0, (sKd S.1 (x' + 1)).2, .inl (fun j => Int32.ofInt (S.2.2.1 (x' + 1) j))) := by
      unfold sEn
      rw [ho.1]
    rw [he] at hw
    refine va_iald hB.1 hB.2.1 hC.2.1 hP.1 x' 0 hw rfl hin hd ?_
    rw [hcl, hjn]
    exact kk
theorem sj_bald {x : Nat} {j : Int} (hq : (sCd M)[i]? = some (pc, .baload, a, b)) (hc : sCk M i (pc, .baload, a, b) = true) (ho : sArr S.1 1 x j) (k : sJ l G M rm Q κ θ (i + 1) ls (.inl (S.2.2.1 x j) :: st) S) : sJ l G M rm Q κ θ i ls (.inl j :: .inr (.inl x) :: st) S := by
  intro p e s m args below meth c H locs arr hB hC h0 hP hS hL hst
  have hd := sCk_dec hc
  have hn := sCk_len hc (by simp [sLen])
  have kk := k p e s m args below meth c H locs arr hB hC h0 hP hS hL (List.forall_mem_cons.mpr ⟨hP.2.2.2.2.2.2.1 x j, fun v hv => hst v (List.mem_cons_of_mem _ (List.mem_cons_of_mem _ hv))⟩)
  rw [hn] at kk
  rw [sPc_at hq]
  have hjr : sR j := hst _ List.mem_cons_self
  have hin := sR_in ho.2.1 ho.2.2 (hP.2.2.2.2.2.2.2 x)
  have hcl := sR_cl hjr
  have hjn : ((j.toNat : Nat) : Int) = j := by have := ho.2.1; omega
  have hx0 : x ≠ 0 := by
    rintro rfl
    have h1 := ho.1
    rw [hP.2.2.2.2.1] at h1
    omega
  obtain ⟨x', rfl, hlt, hw⟩ := sP_arr hP hx0 (by rw [ho.1]; decide)
  have he : sEn G (sKd S.1 (x' + 1)) S.2.1 S.2.2.1 (x' + 1) = .inl (G.2.2.2 1, (sKd S.1 (x' + 1)).2, .inl (fun j => Int32.ofInt (S.2.2.1 (x' + 1) j))) := by
    unfold sEn
    rw [ho.1]
  rw [he] at hw
  refine va_zald hB.1 hB.2.1 hC.2.1 hP.1 x' 1 hw rfl hin hd ?_
  rw [hcl, hjn]
  exact kk
theorem sj_iast {x : Nat} {j v : Int} (hq : (sCd M)[i]? = some (pc, .iastore, a, b)) (hc : sCk M i (pc, .iastore, a, b) = true) (ho : sArr S.1 0 x j) (hx0 : x ≠ 0) 
    (k : sJ l G M rm Q κ θ (i + 1) ls st (S.1, S.2.1, sU S.2.2.1 x j v, S.2.2.2)) : sJ l G M rm Q κ θ i ls (.inl v :: .inl j :: .inr (.inl x) :: st) S := by
  intro p e s m args below meth c H locs arr hB hC h0 hP hS hL hst
  have hd := sCk_dec hc
  have hn := sCk_len hc (by simp [sLen])
  have hv : sR v := hst _ List.mem_cons_self
  have hjr : sR j := hst _ (List.mem_cons_of_mem _ List.mem_cons_self)
  rw [sPc_at hq]
  have hin := sR_in ho.2.1 ho.2.2 (hP.2.2.2.2.2.2.2 x)
  have hcl := sR_cl hjr
  obtain ⟨x', rfl, hlt, hw⟩ := sP_arr hP hx0 (by rw [ho.1]; decide)
  have he : ∀ I' : sI, sEn G (sKd S.1 (x' + 1)) S.2.1 I' (x' + 1) = .inl (G.2.2.2 0, (sKd S.1 (x' + 1)).2, .inl (fun j => Int32.ofInt (I' (x' + 1) j))) := by
    intro I'
    unfold sEn
    rw [ho.1]
  rw [he] at hw
  refine W.iast hB.1 hB.2.1 (hP.1 x' _ hw) ((hC.2.1.2 0 _ rfl).1 _ (fun j => .int (Int32.ofInt (S.2.2.1 (x' + 1) j)))) (fun q => by cases q) (by show ¬ (_ < 0 ∨ (arrV _ _ _).slots.size ≤ _); rw [arrV_size]; exact hin) rfl rfl hd fun H1 e1 z oq => ?_
  have hat : va_at G.2.2.1 classes (G.1 + x', sEn G (sKd S.1 (x' + 1)) S.2.1 (sU S.2.2.1 (x' + 1) j v) (x' + 1)) H1 := by
    rw [he]
    show H1[G.1 + x']? = some (vp_cell _ _)
    rw [e1]
    dsimp only
    rw [vp_cell_i, vp_cell_i, arrV_store]
    congr 2
    funext q
    unfold updV
    by_cases hq : q = (Int32.ofInt j).toNatClampNeg
    · have hj2 : (q : Int) = j := by rw [hq, hcl]; have := ho.2.1; omega
      rw [if_pos hq]
      simp [sU, hj2]
    · have hj2 : ¬ (q : Int) = j := by intro h; apply hq; rw [hcl]; omega
      rw [if_neg hq]
      simp [sU, hj2]
  have kk := k p e s m args below meth c H1 (locs ++ [⟨G.1 + x', (Int32.ofInt j).toNatClampNeg⟩]) arr hB hC h0 (sP_upd hP hlt z oq hat (fun b' hb' => sU_ne hb') (sU_R hP.2.2.2.2.2.2.1 hv)) (sS_put hS z oq) hL (fun v hv => hst v (List.mem_cons_of_mem _ (List.mem_cons_of_mem _ (List.mem_cons_of_mem _ hv))))
  rw [hn] at kk
  exact kk
theorem sj_bast {x : Nat} {j v : Int} (hq : (sCd M)[i]? = some (pc, .bastore, a, b)) (hc : sCk M i (pc, .bastore, a, b) = true) (ho : sArr S.1 1 x j) (hx0 : x ≠ 0) (hz : v = 0 ∨ v = 1)
    (k : sJ l G M rm Q κ θ (i + 1) ls st (S.1, S.2.1, sU S.2.2.1 x j v, S.2.2.2)) : sJ l G M rm Q κ θ i ls (.inl v :: .inl j :: .inr (.inl x) :: st) S := by
  intro p e s m args below meth c H locs arr hB hC h0 hP hS hL hst
  have hd := sCk_dec hc
  have hn := sCk_len hc (by simp [sLen])
  have hv : sR v := hst _ List.mem_cons_self
  have hjr : sR j := hst _ (List.mem_cons_of_mem _ List.mem_cons_self)
  rw [sPc_at hq]
  have hin := sR_in ho.2.1 ho.2.2 (hP.2.2.2.2.2.2.2 x)
  have hcl := sR_cl hjr
  obtain ⟨x', rfl, hlt, hw⟩ := sP_arr hP hx0 (by rw [ho.1]; decide)
  have he : ∀ I' : sI, sEn G (sKd S.1 (x' + 1)) S.2.1 I' (x' + 1) = .inl (G.2.2.2 1, (sKd S.1 (x' + 1)).2, .inl (fun j => Int32.ofInt (I' (x' + 1) j))) := by
    intro I'
    unfold sEn
    rw [ho.1]
  rw [he] at hw
  refine W.zast hB.1 hB.2.1 (hP.1 x' _ hw) ((hC.2.1.2 1 _ rfl).1 _ (fun j => .int (Int32.ofInt (S.2.2.1 (x' + 1) j)))) (fun q => by cases q) (by show ¬ (_ < 0 ∨ (arrV _ _ _).slots.size ≤ _); rw [arrV_size]; exact hin) rfl rfl hd fun H1 e1 z oq => ?_
  have hat : va_at G.2.2.1 classes (G.1 + x', sEn G (sKd S.1 (x' + 1)) S.2.1 (sU S.2.2.1 (x' + 1) j v) (x' + 1)) H1 := by
    rw [he]
    show H1[G.1 + x']? = some (vp_cell _ _)
    rw [e1]
    dsimp only
    rw [vp_cell_i, vp_cell_i, arrV_store]
    congr 2
    funext q
    unfold updV
    by_cases hq : q = (Int32.ofInt j).toNatClampNeg
    · have hj2 : (q : Int) = j := by rw [hq, hcl]; have := ho.2.1; omega
      rw [if_pos hq]
      simp [sU, hj2]
      rcases hz with rfl | rfl <;> decide
    · have hj2 : ¬ (q : Int) = j := by intro h; apply hq; rw [hcl]; omega
      rw [if_neg hq]
      simp [sU, hj2]
  have kk := k p e s m args below meth c H1 (locs ++ [⟨G.1 + x', (Int32.ofInt j).toNatClampNeg⟩]) arr hB hC h0 (sP_upd hP hlt z oq hat (fun b' hb' => sU_ne hb') (sU_R hP.2.2.2.2.2.2.1 hv)) (sS_put hS z oq) hL (fun v hv => hst v (List.mem_cons_of_mem _ (List.mem_cons_of_mem _ (List.mem_cons_of_mem _ hv))))
  rw [hn] at kk
  exact kk
theorem sj_last {x : Nat} {j v : Int} (hq : (sCd M)[i]? = some (pc, .lastore, a, b)) (hc : sCk M i (pc, .lastore, a, b) = true) (ho : sArr S.1 2 x j) (hx0 : x ≠ 0) 
    (k : sJ l G M rm Q κ θ (i + 1) ls st (S.1, S.2.1, sU S.2.2.1 x j v, S.2.2.2)) : sJ l G M rm Q κ θ i ls (.inr (.inr v) :: .inl j :: .inr (.inl x) :: st) S := by
  intro p e s m args below meth c H locs arr hB hC h0 hP hS hL hst
  have hd := sCk_dec hc
  have hn := sCk_len hc (by simp [sLen])
  have hv : sR v := hst _ List.mem_cons_self
  have hjr : sR j := hst _ (List.mem_cons_of_mem _ List.mem_cons_self)
  rw [sPc_at hq]
  have hin := sR_in ho.2.1 ho.2.2 (hP.2.2.2.2.2.2.2 x)
  have hcl := sR_cl hjr
  obtain ⟨x', rfl, hlt, hw⟩ := sP_arr hP hx0 (by rw [ho.1]; decide)
  have he : ∀ I' : sI, sEn G (sKd S.1 (x' + 1)) S.2.1 I' (x' + 1) = .inl (G.2.2.2 2, (sKd S.1 (x' + 1)).2, .inr (.inl (fun j => Int64.ofInt (I' (x' + 1) j)))) := by
    intro I'
    unfold sEn
    rw [ho.1]
  rw [he] at hw
  refine W.last hB.1 hB.2.1 (hP.1 x' _ hw) ((hC.2.1.2 2 _ rfl).1 _ (fun j => .long (Int64.ofInt (S.2.2.1 (x' + 1) j)))) (fun q => by cases q) (by show ¬ (_ < 0 ∨ (arrV _ _ _).slots.size ≤ _); rw [arrV_size]; exact hin) rfl rfl hd fun H1 e1 z oq => ?_
  have hat : va_at G.2.2.1 classes (G.1 + x', sEn G (sKd S.1 (x' + 1)) S.2.1 (sU S.2.2.1 (x' + 1) j v) (x' + 1)) H1 := by
    rw [he]
    show H1[G.1 + x']? = some (vp_cell _ _)
    rw [e1]
    dsimp only
    rw [vp_cell_l, vp_cell_l, arrV_store]
    congr 2
    funext q
    unfold updV
    by_cases hq : q = (Int32.ofInt j).toNatClampNeg
    · have hj2 : (q : Int) = j := by rw [hq, hcl]; have := ho.2.1; omega
      rw [if_pos hq]
      simp [sU, hj2]
    · have hj2 : ¬ (q : Int) = j := by intro h; apply hq; rw [hcl]; omega
      rw [if_neg hq]
      simp [sU, hj2]
  have kk := k p e s m args below meth c H1 (locs ++ [⟨G.1 + x', (Int32.ofInt j).toNatClampNeg⟩]) arr hB hC h0 (sP_upd hP hlt z oq hat (fun b' hb' => sU_ne hb') (sU_R hP.2.2.2.2.2.2.1 hv)) (sS_put hS z oq) hL (fun v hv => hst v (List.mem_cons_of_mem _ (List.mem_cons_of_mem _ (List.mem_cons_of_mem _ hv))))
  rw [hn] at kk
  exact kk
theorem sj_lald {x : Nat} {j : Int} (hq : (sCd M)[i]? = some (pc, .laload, a, b)) (hc : sCk M i (pc, .laload, a, b) = true) (ho : sArr S.1 2 x j) (k : sJ l G M rm Q κ θ (i + 1) ls (.inr (.inr (S.2.2.1 x j)) :: st) S) : sJ l G M rm Q κ θ i ls (.inl j :: .inr (.inl x) :: st) S := by
  intro p e s m args below meth c H locs arr hB hC h0 hP hS hL hst
  have hd := sCk_dec hc
  have hn := sCk_len hc (by simp [sLen])
  have kk := k p e s m args below meth c H locs arr hB hC h0 hP hS hL (List.forall_mem_cons.mpr ⟨hP.2.2.2.2.2.2.1 x j, fun v hv => hst v (List.mem_cons_of_mem _ (List.mem_cons_of_mem _ hv))⟩)
  rw [hn] at kk
  rw [sPc_at hq]
  have hjr : sR j := hst _ List.mem_cons_self
  have hin := sR_in ho.2.1 ho.2.2 (hP.2.2.2.2.2.2.2 x)
  have hcl := sR_cl hjr
  have hjn : ((j.toNat : Nat) : Int) = j := by have := ho.2.1; omega
  have hx0 : x ≠ 0 := by
    rintro rfl
    have h1 := ho.1
    rw [hP.2.2.2.2.1] at h1
    omega
  obtain ⟨x', rfl, hlt, hw⟩ := sP_arr hP hx0 (by rw [ho.1]; decide)
  have he : sEn G (sKd S.1 (x' + 1)) S.2.1 S.2.2.1 (x' + 1) = .inl (G.2.2.2 2, (sKd S.1 (x' + 1)).2, .inr (.inl (fun j => Int64.ofInt (S.2.2.1 (x' + 1) j)))) := by
    unfold sEn
    rw [ho.1]
  rw [he] at hw
  refine va_lald hB.1 hB.2.1 hC.2.1 hP.1 x' 2 hw rfl hin hd ?_
  rw [hcl, hjn]
  exact kk
theorem sj_aald {x : Nat} {j : Int} (hq : (sCd M)[i]? = some (pc, .aaload, a, b)) (hc : sCk M i (pc, .aaload, a, b) = true) (ho : sArr S.1 3 x j ∨ sArr S.1 4 x j) (hr : S.2.1 x j ≠ 0) (k : sJ l G M rm Q κ θ (i + 1) ls (.inr (.inl (S.2.1 x j)) :: st) S) : sJ l G M rm Q κ θ i ls (.inl j :: .inr (.inl x) :: st) S := by
  intro p e s m args below meth c H locs arr hB hC h0 hP hS hL hst
  have hd := sCk_dec hc
  have hn := sCk_len hc (by simp [sLen])
  have kk := k p e s m args below meth c H locs arr hB hC h0 hP hS hL (List.forall_mem_cons.mpr ⟨trivial, fun v hv => hst v (List.mem_cons_of_mem _ (List.mem_cons_of_mem _ hv))⟩)
  rw [hn] at kk
  rw [sPc_at hq]
  have hjr : sR j := hst _ List.mem_cons_self
  have hj0 : 0 ≤ j := by rcases ho with ho | ho <;> exact ho.2.1
  have hj1 : j < (sKd S.1 x).2 := by rcases ho with ho | ho <;> exact ho.2.2
  have hk : (sKd S.1 x).1 = 3 ∨ (sKd S.1 x).1 = 4 := by rcases ho with ho | ho; exact Or.inl ho.1; exact Or.inr ho.1
  have hin := sR_in hj0 hj1 (hP.2.2.2.2.2.2.2 x)
  have hcl := sR_cl hjr
  have hjn : ((j.toNat : Nat) : Int) = j := by omega
  have hx0 : x ≠ 0 := by
    rintro rfl
    have h1 := hP.2.2.2.2.1
    omega
  obtain ⟨x', rfl, hlt, hw⟩ := sP_arr hP hx0 (by omega)
  have hlt2 : (Int32.ofInt j).toNatClampNeg < (sKd S.1 (x' + 1)).2 := Nat.not_le.mp fun q => hin (Or.inr q)
  have hval : ∀ cA : ClassId, (arrV cA (sKd S.1 (x' + 1)).2 (fun j => va_rf (sN G (S.2.1 (x' + 1) j)))).slots[(Int32.ofInt j).toNatClampNeg]? = some (.ref (sAd G (S.2.1 (x' + 1) j))) := by
    intro cA
    rw [arrV_read _ _ hlt2, hcl, hjn, sN_ref hr]
  rcases hk with hk | hk
  · have he : sEn G (sKd S.1 (x' + 1)) S.2.1 S.2.2.1 (x' + 1) = .inl (G.2.2.2 3, (sKd S.1 (x' + 1)).2, .inr (.inr (.inr (.inr (fun j => sN G (S.2.1 (x' + 1) j)))))) := by
      unfold sEn
      rw [hk]
    rw [he] at hw
    exact W.aald (v := .ref (sAd G (S.2.1 (x' + 1) j))) (ty := .object "TermBench$Term") hB.1 hB.2.1 (hP.1 x' _ hw) ((hC.2.1.2 3 _ rfl).1 _ (fun j => va_rf (sN G (S.2.1 (x' + 1) j)))) rfl (fun q => by cases q) (by show ¬ (_ < 0 ∨ (arrV _ _ _).slots.size ≤ _); rw [arrV_size]; exact hin) (hval _) rfl rfl hd kk
  · have he : sEn G (sKd S.1 (x' + 1)) S.2.1 S.2.2.1 (x' + 1) = .inl (G.2.2.2 4, (sKd S.1 (x' + 1)).2, .inr (.inr (.inr (.inr (fun j => sN G (S.2.1 (x' + 1) j)))))) := by
      unfold sEn
      rw [hk]
    rw [he] at hw
    exact W.aald (v := .ref (sAd G (S.2.1 (x' + 1) j))) (ty := .array .int) hB.1 hB.2.1 (hP.1 x' _ hw) ((hC.2.1.2 4 _ rfl).1 _ (fun j => va_rf (sN G (S.2.1 (x' + 1) j)))) rfl (fun q => by cases q) (by show ¬ (_ < 0 ∨ (arrV _ _ _).slots.size ≤ _); rw [arrV_size]; exact hin) (hval _) rfl rfl hd kk
theorem sj_alen {x : Nat} (hq : (sCd M)[i]? = some (pc, .arraylength, a, b)) (hc : sCk M i (pc, .arraylength, a, b) = true) (ho : (sKd S.1 x).1 = 0) (k : sJ l G M rm Q κ θ (i + 1) ls (.inl (sKd S.1 x).2 :: st) S) : sJ l G M rm Q κ θ i ls (.inr (.inl x) :: st) S := by
  intro p e s m args below meth c H locs arr hB hC h0 hP hS hL hst
  have hd := sCk_dec hc
  have hn := sCk_len hc (by simp [sLen])
  have hz := hP.2.2.2.2.2.2.2 x
  have kk := k p e s m args below meth c H locs arr hB hC h0 hP hS hL (List.forall_mem_cons.mpr ⟨(by unfold sVr sR; omega), fun v hv => hst v (List.mem_cons_of_mem _ hv)⟩)
  rw [hn] at kk
  rw [sPc_at hq]
  by_cases hx0 : x = 0
  · subst hx0
    obtain ⟨scr, g1, g2, g3, g4, g5⟩ := hP.2.2.2.2.2.1
    exact W.alen (n := Int32.ofInt ((sKd S.1 0).2 : Int)) hB.1 hB.2.1 g1 g2 (by rw [g4]; exact Int32.ofInt_eq_ofNat.symm) rfl rfl hd kk
  · obtain ⟨x', rfl, hlt, hw⟩ := sP_arr hP hx0 (by rw [ho]; decide)
    have he : sEn G (sKd S.1 (x' + 1)) S.2.1 S.2.2.1 (x' + 1) = .inl (G.2.2.2 0, (sKd S.1 (x' + 1)).2, .inl (fun j => Int32.ofInt (S.2.2.1 (x' + 1) j))) := by
      unfold sEn
      rw [ho]
    rw [he] at hw
    exact va_alen hB.1 hB.2.1 hC.2.1 hP.1 x' 0 hw rfl (v := Int32.ofInt ((sKd S.1 (x' + 1)).2 : Int)) Int32.ofInt_eq_ofNat.symm hd kk
end SH
