/-! new objects, arrays of references; references put into cells -/
def cOkF (c : Nat) (q : vw_C) : Prop := ∀ k, k < q.2.2 → (cFT c k = 2 → (q.2.1 k).2.2.2 = true ∧ ((∃ ty, cTy c k = .array ty) ∨ ∃ n, cTy c k = .object n))
theorem cF_0 : ∀ k, k < 13 → (cFT 0 k = 2 → (cF0 k).2.2.2 = true) := by decide +kernel
theorem cF_1 : ∀ k, k < 3 → (cFT 1 k = 2 → (cF1 k).2.2.2 = true) := by decide +kernel
theorem cF_2 : ∀ k, k < 3 → (cFT 2 k = 2 → (cF2 k).2.2.2 = true) := by decide +kernel
theorem cF_3 : ∀ k, k < 1 → (cFT 3 k = 2 → (cF3 k).2.2.2 = true) := by decide +kernel
theorem cF_4 : ∀ k, k < 1 → (cFT 4 k = 2 → (cF4 k).2.2.2 = true) := by decide +kernel
theorem cF_5 : ∀ k, k < 9 → (cFT 5 k = 2 → (cF5 k).2.2.2 = true) := by decide +kernel
theorem cF_6 : ∀ k, k < 28 → (cFT 6 k = 2 → (cF6 k).2.2.2 = true) := by decide +kernel
theorem cls_fin : ∀ (c : Nat) (q : vw_C), classes[c]? = some q → ∀ k, k < q.2.2 → cFT c k = 2 → (q.2.1 k).2.2.2 = true := by
  intro c q h
  have hl := cls_lt h
  match c, hl, h with
  | 0, _, h => cases h; exact cF_0
  | 1, _, h => cases h; exact cF_1
  | 2, _, h => cases h; exact cF_2
  | 3, _, h => cases h; exact cF_3
  | 4, _, h => cases h; exact cF_4
  | 5, _, h => cases h; exact cF_5
  | 6, _, h => cases h; exact cF_6
def cRt (t : FieldType) : Bool := match t with
  | .int => true
  | .boolean => true
  | .array _ => true
  | .object _ => true
  | _ => false
theorem cRt_all : ∀ c, c < 7 → ∀ k, k < 28 → (match classes[c]? with | some q => decide (q.2.2 ≤ k) || cRt (cTy c k) | none => true) = true := by decide +kernel
theorem cRt_of {c k : Nat} {q : vw_C} (h : classes[c]? = some q) (hk : k < q.2.2) (hk2 : k < 28) : cRt (cTy c k) = true := by
  have := cRt_all c (cls_lt h) k hk2
  rw [h] at this
  simp only [Bool.or_eq_true, decide_eq_true_eq] at this
  exact this.resolve_left (by omega)
theorem cls_28 {c : Nat} {q : vw_C} (h : classes[c]? = some q) : q.2.2 ≤ 28 := by
  have hl := cls_lt h
  match c, hl, h with
  | 0, _, h => cases h; decide
  | 1, _, h => cases h; decide
  | 2, _, h => cases h; decide
  | 3, _, h => cases h; decide
  | 4, _, h => cases h; decide
  | 5, _, h => cases h; decide
  | 6, _, h => cases h; decide
theorem cDef {G : sG} {c k : Nat} (h : cRt (cTy c k) = true) : defaultValue (cTy c k) = if cFT c k = 2 then va_rf (sN G 0) else .int (Int32.ofInt 0) := by
  unfold cFT
  cases ht : cTy c k <;> rw [ht] at h <;> first | rfl | cases h
theorem cFit {c k : Nat} (h : cRt (cTy c k) = true) (h2 : cFT c k = 2) (a : Nat) : narrow (cTy c k) (.ref a) = .ref a ∧ fits (cTy c k) (.ref a) = true := by
  unfold cFT at h2
  cases ht : cTy c k <;> rw [ht] at h h2 <;> first | exact ⟨rfl, rfl⟩ | exact absurd h2 (by decide) | cases h
section SAL2
variable {l : Launch} {G : sG} {M : sM} {rm : Room} {Q : sQ} {κ θ i : Nat} {ls : List (Option sV)} {st : List sV} {S : sS} {pc a b : Nat}
theorem sj_new {idx ci N : Nat} {C : String} {T : u_T} (ct : sCert M) (hq : (sCd M)[i]? = some (pc, .new idx, a, b)) (hcl : classes[ci]? = some (C, T, N)) (hlk : sIn (Cond.classLink M.1.cls idx C) = true) (hinst : sIn (Cond.instantiable C N) = true) (hini : sIn (Cond.initialized C) = true) (hx : S.2.2.2 = 0) (hκ : κ + 1 ≤ rm.cells) (hθ : θ + N ≤ rm.slots)
    (k : sJ l G M rm Q (κ + 1) (θ + N) (i + 1) ls (.inr (.inl S.1.length) :: st) (sMk S (ci + 5, N))) : sJ l G M rm Q κ θ i ls st S := by
  have hc := ct i _ hq (by simp)
  intro p e s m args below meth c H locs arr hB hC h0 hP hS hL hst
  have hd := sCk_dec hc
  have hn := sCk_len hc (by simp [sLen])
  rw [sPc_at hq]
  obtain ⟨hin0, hty, -, -, -⟩ := cls_ok ci _ hcl
  have hts : ∀ w ∈ u_ws C T N, w.before args s = true := fun w h => hC.1 w (hin0 w h) args
  have hKn := hC.2.1.1 ci _ hcl
  have hN28 := cls_28 hcl
  refine W.newcK hB.1 hB.2.1 hB.2.2.2.2.2.1 (hC.1 _ hlk args) (hC.1 _ hinst args) (hC.1 _ hini args) rfl hd hκ hθ hKn.2.1 rfl fun H1 kC hkC e1 z1 o1 => ?_
  obtain ⟨hP1, had⟩ := sP_mk (q := (ci + 5, N)) hP hx (by show N < _; have : N ≤ 28 := hN28; omega) z1 o1 ⟨_, hcl, (u_born (cTy ci) hts (fun w h => h) hKn hkC e1 hty).to (fun j hj => by
    have hj' : j < N := hj
    have h2 : (sFd G ci N (fun _ _ => 0) (fun _ _ => 0) 0)[j]? = _ := sFd_get hj'
    show defaultValue (cTy ci j) = vp_V (sFd G ci N (fun _ _ => 0) (fun _ _ => 0) 0) j
    unfold vp_V
    rw [List.getD_eq_getElem?_getD, h2, cDef (G := G) (cRt_of hcl hj' (Nat.lt_of_lt_of_le hj' hN28))]
    rfl)⟩
  have kk := k p e s m args below meth c H1 locs arr hB hC h0 hP1 (sS_mk hS z1 o1) hL (List.forall_mem_cons.mpr ⟨trivial, hst⟩)
  rw [hn] at kk
  have e2 : (List.map (sE G) (.inr (.inl S.1.length) :: st)) = .ref H.size :: List.map (sE G) st := by
    rw [List.map_cons]
    congr 1
    show Value.ref (sAd G S.1.length) = _
    rw [had]
  rw [e2] at kk
  exact kk
theorem sj_anewa {n idx : Nat} (ct : sCert M) (hq : (sCd M)[i]? = some (pc, .anewarray idx, a, b)) (hlk : sIn (Cond.classLink M.1.cls idx "TermBench$Term") = true) (hby : n * 4 ≤ 536870912) (hn2 : n < 2147483648) (hx : S.2.2.2 = 0) (hκ : κ + 1 ≤ rm.cells) (hθ : θ + n ≤ rm.slots)
    (k : sJ l G M rm Q (κ + 1) (θ + n) (i + 1) ls (.inr (.inl S.1.length) :: st) (sMk S (3, n))) : sJ l G M rm Q κ θ i ls (.inl (n : Int) :: st) S := by
  have hc := ct i _ hq (by simp)
  intro p e s m args below meth c H locs arr hB hC h0 hP hS hL hst
  have hd := sCk_dec hc
  have hn := sCk_len hc (by simp [sLen])
  have hnr0 : sR (n : Int) := hst _ List.mem_cons_self
  have hcl : (Int32.ofInt n).toNatClampNeg = n := by rw [sR_cl hnr0]; rfl
  rw [sPc_at hq]
  refine W.anew hB.1 hB.2.1 hB.2.2.2.2.2.1 (hC.1 _ hlk args) (va_AO.use hC.2.2.2.2.2.1) rfl hd rfl (fun h => by
    rw [s0, sR_lt hnr0 sR_0] at h
    omega) (by rw [hcl]; exact hby) hκ (by rw [hcl]; exact hθ) fun cA kA comp f1 f2 f3 f4 => ?_
  generalize hH1 : H.push ({ cls := cA, slots := Array.replicate (Int32.ofInt n).toNatClampNeg .null, vm := .none } : Cell) = H1
  have z1 : H1.size = H.size + 1 := by rw [← hH1, Array.size_push]
  have e1 : H1[H.size]? = some (arrV cA (Int32.ofInt n).toNatClampNeg (fun _ => .null)) := by rw [← hH1, Array.getElem?_push_size, ← arrV_new]
  have o1 : ∀ q : Nat, q < H.size → H1[q]? = H[q]? := fun q hq => by rw [← hH1, Array.getElem?_push, if_neg (Nat.ne_of_lt hq)]
  have hcA : cA = G.2.2.2 3 := by
    obtain ⟨_, _, -, -, -, h9⟩ := (hC.2.1.2 3 (G.2.2.2 3, .object "TermBench$Term") rfl).2
    rw [f1] at h9
    exact Option.some.inj h9
  subst hcA
  rw [hcl] at e1 ⊢
  obtain ⟨hP1, had⟩ := sP_mk (q := (3, n)) hP hx hn2 z1 o1 (by show H1[H.size]? = some (vp_cell _ _); rw [e1]; rfl)
  have kk := k p e s m args below meth c H1 locs arr hB hC h0 hP1 (sS_mk hS z1 o1) hL (List.forall_mem_cons.mpr ⟨trivial, fun v hv => hst v (List.mem_cons_of_mem _ hv)⟩)
  rw [hn] at kk
  have e2 : (List.map (sE G) (.inr (.inl S.1.length) :: st)) = .ref H.size :: List.map (sE G) st := by
    rw [List.map_cons]
    congr 1
    show Value.ref (sAd G S.1.length) = _
    rw [had]
  rw [e2] at kk
  exact kk
end SAL2
section SAL3
variable {l : Launch} {G : sG} {M : sM} {rm : Room} {Q : sQ} {κ θ i : Nat} {ls : List (Option sV)} {st : List sV} {S : sS} {pc a b : Nat}
def sUF (RF : sF) (a : Nat) (j : Int) (y : Nat) : sF := fun b k => if b = a ∧ k = j then y else RF b k
theorem sUF_ne {RF : sF} {a : Nat} {j : Int} {y b : Nat} (h : b ≠ a) : sUF RF a j y b = RF b := by
  funext k
  unfold sUF
  rw [if_neg (fun q => h q.1)]
theorem sP_updF {s : State} {H H1 : Heap} {RF' : sF} {x' : Nat} (hP : sP G S s H) (hx : x' + 1 < S.1.length) (hz : H1.size = H.size) (ho : ∀ q, q ≠ G.1 + x' → H1[q]? = H[q]?) (hat : va_at G.2.2.1 classes (G.1 + x', sEn G (sKd S.1 (x' + 1)) RF' S.2.2.1 (x' + 1)) H1) (hI : ∀ b, b ≠ x' + 1 → RF' b = S.2.1 b) :
    sP G (S.1, RF', S.2.2.1, S.2.2.2) s H1 := by
  obtain ⟨hPw, hlen, hsz, hb0, hk0, hX, hR, hN⟩ := hP
  refine ⟨?_, hlen, by rw [hz]; exact hsz, hb0, hk0, hX.kept (ho _ (by omega)), hR, hN⟩
  have h1 := va_P.set hPw (sW_D G S) (sW_get hx) hat ho
  rw [sW_set (sh := S.1) (RF := S.2.1) (RF' := RF') (I := S.2.2.1) (I' := S.2.2.1) (x := S.2.2.2) (x' := S.2.2.2) hx rfl hI (fun _ _ => rfl)] at h1
  exact h1
theorem sFd_setF {c n : Nat} {RF : sF} {I : sI} {x k y : Nat} (hf : cFT c k = 2) (hy : y ≠ 0) : (sFd G c n RF I x).set k (.ref (sAd G y)) = sFd G c n (sUF RF x k y) I x := by
  apply List.ext_getElem?
  intro j
  by_cases hj : j < n
  · by_cases hjk : j = k
    · subst hjk
      rw [List.getElem?_set_self (by simp [sFd]; exact hj), sFd_get hj, if_pos hf]
      have e : sUF RF x j y x j = y := by unfold sUF; rw [if_pos ⟨rfl, rfl⟩]
      rw [e, sN_ref hy]
    · rw [List.getElem?_set_ne (Ne.symm hjk), sFd_get hj, sFd_get hj]
      have : ¬ (j : Int) = (k : Int) := by omega
      have e : sUF RF x k y x j = RF x j := by unfold sUF; rw [if_neg (fun q => this q.2)]
      rw [e]
  · rw [List.getElem?_eq_none (by simp [sFd]; omega), List.getElem?_eq_none (by simp [sFd]; omega)]
theorem sj_putR {idx x y : Nat} (ct : sCert M) (hq : (sCd M)[i]? = some (pc, .putfield idx, a, b)) (hf : cFT a b = 2) (hini : M.1.name = "<init>") (hown : ∃ q : vw_C, classes[a]? = some q ∧ q.1 = M.1.cls ∧ sIn (Cond.fieldLink M.1.cls idx (q.2.1 b).1 (q.2.1 b).2.1 (q.2.1 b).2.2.1) = true) (ho : sObj S.1 a x b) (hy : y ≠ 0)
    (k : sJ l G M rm Q κ θ (i + 1) ls st (S.1, sUF S.2.1 x b y, S.2.2.1, S.2.2.2)) : sJ l G M rm Q κ θ i ls (.inr (.inl y) :: .inr (.inl x) :: st) S := by
  have hc := ct i _ hq (by simp)
  intro p e s m args below meth c H locs arr hB hC h0 hP hS hL hst
  have hd := sCk_dec hc
  have hn := sCk_len hc (by simp [sLen])
  rw [sPc_at hq]
  obtain ⟨q, hcl, hbN, -⟩ := sLk_spec (sCk_pf hc)
  obtain ⟨q2, hcl2, hq2, hlk⟩ := hown
  cases hcl.symm.trans hcl2
  obtain ⟨x', rfl, hlt, hw⟩ := sP_obj hP ho.1 (cls_99 hcl)
  have hfin := cls_fin a _ hcl b hbN hf
  obtain ⟨hna, hfi⟩ := cFit (cRt_of hcl hbN (Nat.lt_of_lt_of_le hbN (cls_28 hcl))) hf (sAd G y)
  obtain ⟨C, T, N⟩ := q
  obtain ⟨hin0, hty, hnm, hfn, hdec⟩ := cls_ok a _ hcl
  have hin : ∀ w ∈ u_ws C T N, w ∈ u_ws C T N := fun w h => h
  have hts : ∀ w ∈ u_ws C T N, w.before args s = true := fun w h => hC.1 w (hin0 w h) args
  have hap := va_apart (own := M.1.cls) hts hin (cTy a) hty hnm hC.2.1 hcl
  obtain ⟨r, h1, cell, q1, q2', q3, q4⟩ := hP.1 x' _ hw
  have hr : r = (C, T, N) := Option.some.inj (h1.symm.trans hcl)
  subst hr
  obtain ⟨hSl, hfc, kC, hkC, hkind⟩ := hC.2.1.1 a _ hcl
  obtain ⟨cf, kf, fi, f, hi, hsl⟩ := hSl b hbN
  have hlay := hts _ (hin _ (u_in_lay hbN))
  unfold u_lay at hlay
  rw [if_pos hfin] at hlay
  have hstt := (u_facts hfc hkC (u_lays hts hin hbN) hi).1
  have hown2 := hB.2.2.2.2.2.1
  have hcf : m.cls = cf := by
    obtain ⟨_, _, c', _, _, _, -, -, hf', -, -, -, hown3, -⟩ := Cond.laysFinal_spec hlay
    have e1 : c' = cf := by have := hi.symm.trans hf'; simp at this; exact this.1.symm
    have hdd : (T b).1 = M.1.cls := (hdec b hbN).trans hq2
    rw [hdd] at hown3
    rw [← e1]; exact Option.some.inj (hown2.symm.trans hown3)
  have h6 := u_fits hfc hkC hkind (Or.inr hlay) hi (hty b hbN) hna hfi
  refine W.putFinK hB.1 hB.2.1 hown2 (hC.1 _ hlk args) hi hstt hcf (by rw [hB.2.2.2.2.2.2.2]; exact hini) (by rw [q2']; exact h6) q1 q3 (by rw [hsl]; exact k2_hasslot (q4 b hbN)) rfl rfl hd fun H' e1 e2 e3 => ?_
  rw [hsl] at e1 ⊢
  have hat : va_at G.2.2.1 classes (G.1 + x', sEn G (sKd S.1 (x' + 1)) (sUF S.2.1 (x' + 1) b y) S.2.2.1 (x' + 1)) H' := by
    unfold sEn
    rw [ho.1]
    show ∃ r : vw_C, classes[a]? = some r ∧ _
    rw [← sFd_setF hf hy]
    exact ⟨_, hcl, t_OB.to (V := updV (vp_V _) b (.ref (sAd G y))) ⟨_, e1, q2', q3, t_set q4 hap hbN _⟩ (fun j _ => vp_updV_set (by simp [sFd]; exact ho.2) _ j)⟩
  have kk := k p e s m args below meth c H' (locs ++ [⟨G.1 + x', (G.2.2.1.2 a b)⟩]) arr hB hC h0 (sP_updF hP hlt e2 e3 hat (fun b' hb' => sUF_ne hb')) (sS_put hS e2 e3) hL (fun v hv => hst v (List.mem_cons_of_mem _ (List.mem_cons_of_mem _ hv)))
  rw [hn] at kk
  exact kk
theorem sj_aast {x y : Nat} {j : Int} (ct : sCert M) (hq : (sCd M)[i]? = some (pc, .aastore, a, b)) (ho : sArr S.1 3 x j) (hx0 : x ≠ 0) (hyk : (sKd S.1 y).1 = 7) (hy : y ≠ 0)
    (k : sJ l G M rm Q κ θ (i + 1) ls st (S.1, sUF S.2.1 x j y, S.2.2.1, S.2.2.2)) : sJ l G M rm Q κ θ i ls (.inr (.inl y) :: .inl j :: .inr (.inl x) :: st) S := by
  have hc := ct i _ hq (by simp)
  intro p e s m args below meth c H locs arr hB hC h0 hP hS hL hst
  have hd := sCk_dec hc
  have hn := sCk_len hc (by simp [sLen])
  rw [sPc_at hq]
  have hjr : sR j := hst _ (List.mem_cons_of_mem _ List.mem_cons_self)
  have hin := sR_in ho.2.1 ho.2.2 (hP.2.2.2.2.2.2.2 x)
  have hcl := sR_cl hjr
  have hjn : ((j.toNat : Nat) : Int) = j := by have := ho.2.1; omega
  obtain ⟨x', rfl, hlt, hw⟩ := sP_arr hP hx0 (by rw [ho.1]; omega)
  have hw2 := hw
  have he : sEn G (sKd S.1 (x' + 1)) S.2.1 S.2.2.1 (x' + 1) = .inl (G.2.2.2 3, (sKd S.1 (x' + 1)).2, .inr (.inr (.inr (.inr (fun j => sN G (S.2.1 (x' + 1) j)))))) := by
    unfold sEn
    rw [ho.1]
  rw [he] at hw
  have hcls2 : classes[2]? = some (cR2, cF2, 3) := rfl
  obtain ⟨y', rfl, hlty, hwy⟩ := sP_obj (c := 2) hP hyk (by omega)
  have hlt2 : (Int32.ofInt j).toNatClampNeg < (sKd S.1 (x' + 1)).2 := Nat.not_le.mp fun q => hin (Or.inr q)
  have hi0 : ¬ Int32.ofInt j < 0 := fun q => hin (Or.inl q)
  obtain ⟨r', hr', cellV, g1, g2, g3, -⟩ := hP.1 y' _ hwy
  have hcls := (hC.2.1.1 2 _ hcls2).2
  obtain ⟨kA, comp, k1, k2, k3, -⟩ := (hC.2.1.2 3 (G.2.2.2 3, .object "TermBench$Term") rfl).2
  have hcomp : comp = G.2.2.1.1 2 := Option.some.inj (k3.symm.trans hcls.1)
  subst hcomp
  obtain ⟨kC, hkC, -⟩ := hcls.2
  refine W.aast hB.1 hB.2.1 (hP.1 x' _ hw) (fun q h => by cases h) (fun h => by cases h) k1 k2 rfl hkC ⟨hi0, by show _ < (arrV _ _ _).slots.size; rw [arrV_size]; exact hlt2⟩ g1 (fun q h => by rw [g3] at h; cases h) (by rw [g2]; exact hkC) (by rw [g2]; exact va_assign hcls) rfl rfl hd fun H1 e1 z oq => ?_
  have hat : va_at G.2.2.1 classes (G.1 + x', sEn G (sKd S.1 (x' + 1)) (sUF S.2.1 (x' + 1) j (y' + 1)) S.2.2.1 (x' + 1)) H1 := by
    have he2 : sEn G (sKd S.1 (x' + 1)) (sUF S.2.1 (x' + 1) j (y' + 1)) S.2.2.1 (x' + 1) = .inl (G.2.2.2 3, (sKd S.1 (x' + 1)).2, .inr (.inr (.inr (.inr (fun k => sN G (sUF S.2.1 (x' + 1) j (y' + 1) (x' + 1) k)))))) := by
      unfold sEn
      rw [ho.1]
    rw [he2]
    show H1[_]? = some (vp_cell _ _)
    rw [e1, vp_cell_q, vp_cell_q, arrV_store]
    congr 2
    funext q
    by_cases hq : q = (Int32.ofInt j).toNatClampNeg
    · subst hq
      have e : sUF S.2.1 (x' + 1) j (y' + 1) (x' + 1) (((Int32.ofInt j).toNatClampNeg : Nat) : Int) = y' + 1 := by
        unfold sUF
        rw [hcl, hjn, if_pos ⟨rfl, rfl⟩]
      rw [e]
      simp [updV, va_rf, sN]
    · have e : sUF S.2.1 (x' + 1) j (y' + 1) (x' + 1) (q : Int) = S.2.1 (x' + 1) q := by
        unfold sUF
        rw [if_neg (fun h => hq (by rw [hcl]; omega))]
      rw [e]
      simp [updV, hq]
  have kk := k p e s m args below meth c H1 _ arr hB hC h0 (sP_updF hP hlt z oq hat (fun b' hb' => sUF_ne hb')) (sS_put (k := (Int32.ofInt j).toNatClampNeg) hS z oq) hL (fun v hv => hst v (List.mem_cons_of_mem _ (List.mem_cons_of_mem _ (List.mem_cons_of_mem _ hv))))
  rw [hn] at kk
  exact kk
end SAL3
