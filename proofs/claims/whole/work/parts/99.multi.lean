/-! arrays of arrays -/
def mS (S : sS) (n k : Nat) : Nat → sS
  | 0 => sMk S (4, n)
  | i + 1 => ((sMk (mS S n k i) (0, k)).1, sUF (sMk (mS S n k i) (0, k)).2.1 S.1.length i (S.1.length + 1 + i), (sMk (mS S n k i) (0, k)).2.2.1, S.2.2.2)
theorem mS_len (S : sS) (n k : Nat) : ∀ i, (mS S n k i).1.length = S.1.length + 1 + i ∧ (mS S n k i).2.2.2 = S.2.2.2 := by
  intro i
  induction i with
  | zero => exact ⟨by show (S.1 ++ [(4, n)]).length = _; rw [List.length_append, List.length_singleton], rfl⟩
  | succ i ih => exact ⟨by show ((mS S n k i).1 ++ [(0, k)]).length = _; rw [List.length_append, List.length_singleton, ih.1]; omega, rfl⟩
theorem mS_kd (S : sS) (n k : Nat) : ∀ i, sKd (mS S n k i).1 S.1.length = (4, n) := by
  intro i
  induction i with
  | zero =>
    show sKd (S.1 ++ [(4, n)]) S.1.length = _
    unfold sKd
    rw [List.getD_eq_getElem?_getD, List.getElem?_append_right (Nat.le_refl _)]
    simp
  | succ i ih =>
    have hl := (mS_len S n k i).1
    show sKd ((mS S n k i).1 ++ [(0, k)]) S.1.length = _
    rw [← ih]
    unfold sKd
    rw [List.getD_eq_getElem?_getD, List.getD_eq_getElem?_getD, List.getElem?_append_left (by omega)]
theorem mS_rf (S : sS) (n k : Nat) : ∀ (i : Nat) (j : Nat), (mS S n k i).2.1 S.1.length j = if j < i then S.1.length + 1 + j else 0 := by
  intro i
  induction i with
  | zero =>
    intro j
    show (if S.1.length = S.1.length then 0 else _) = _
    rw [if_pos rfl, if_neg (by omega)]
  | succ i ih =>
    intro j
    have hl := (mS_len S n k i).1
    show sUF (sMk (mS S n k i) (0, k)).2.1 S.1.length i (S.1.length + 1 + i) S.1.length j = _
    unfold sUF
    by_cases hj : j = i
    · subst hj
      rw [if_pos ⟨rfl, rfl⟩, if_pos (by omega)]
    · rw [if_neg (fun h => hj (by omega))]
      show (if S.1.length = (mS S n k i).1.length then 0 else (mS S n k i).2.1 S.1.length j) = _
      rw [if_neg (by omega), ih j]
      by_cases hj2 : j < i
      · rw [if_pos hj2, if_pos (by omega)]
      · rw [if_neg hj2, if_neg (by omega)]

theorem outerC_arr (c : ClassId) (N h0 : Nat) : ∀ i, Jvm.Free.Multi.outerC c N h0 i = arrV c N (fun j => if j < i then .ref (h0 + 1 + j) else .null) := by
  intro i
  induction i with
  | zero =>
    show ({ cls := c, slots := Array.replicate N .null, vm := .none } : Cell) = _
    rw [arrV_new]
    congr 1
  | succ i ih =>
    show (Jvm.Free.Multi.outerC c N h0 i).setSlot i (.ref (h0 + 1 + i)) = _
    rw [ih, arrV_store]
    congr 1
    funext j
    unfold updV
    by_cases hj : j = i
    · rw [if_pos hj, if_pos (by omega), hj]
    · rw [if_neg hj]
      dsimp only
      by_cases hj2 : j < i
      · rw [if_pos hj2, if_pos (by omega)]
      · rw [if_neg hj2, if_neg (by omega)]
section SMU
variable {l : Launch} {G : sG} {M : sM} {rm : Room} {Q : sQ} {κ θ i : Nat} {ls : List (Option sV)} {st : List sV} {S : sS} {pc a b : Nat}
theorem mS_P {s T : State} {H : Heap} (hP : sP G S s H) (hx : S.2.2.2 = 0) (hT : T.heap = H) {n k : Nat} (hn : n < 2147483648) (hk : k < 2147483648) : ∀ i, i ≤ n → sP G (mS S n k i) s (Jvm.Free.Multi.fill T (G.2.2.2 4) (G.2.2.2 0) n k (.int 0) i).heap := by
  have hl := hP.2.1
  have hsz := hP.2.2.1.2 hx
  intro i
  induction i with
  | zero =>
    intro _
    have eh : (Jvm.Free.Multi.fill T (G.2.2.2 4) (G.2.2.2 0) n k (.int 0) 0).heap = H.push (Jvm.Free.Multi.outerC (G.2.2.2 4) n H.size 0) := by
      show (T.pushCell _).heap = _
      rw [hT]
      simp [State.pushCell, hT]
    rw [eh]
    refine (sP_mk (q := (4, n)) hP hx hn (by rw [Array.size_push]) (fun a ha => by rw [Array.getElem?_push, if_neg (Nat.ne_of_lt ha)]) ?_).1
    show (H.push _)[H.size]? = some (vp_cell _ _)
    rw [Array.getElem?_push_size, outerC_arr]
    rfl
  | succ i ih =>
    intro hi
    have P0 := ih (by omega)
    obtain ⟨f1, f2, f3, f4⟩ := Jvm.Free.Multi.fill_facts T (G.2.2.2 4) (G.2.2.2 0) n k (.int 0) i
    rw [hT] at f1 f2
    generalize hH : (Jvm.Free.Multi.fill T (G.2.2.2 4) (G.2.2.2 0) n k (.int 0) i) = U at P0 f1 f2
    have eh : (Jvm.Free.Multi.fill T (G.2.2.2 4) (G.2.2.2 0) n k (.int 0) (i + 1)) = (U.pushCell (Jvm.Free.Multi.innerC (G.2.2.2 0) k (.int 0))).setCell H.size (Jvm.Free.Multi.outerC (G.2.2.2 4) n H.size (i + 1)) := by
      show ((Jvm.Free.Multi.fill T (G.2.2.2 4) (G.2.2.2 0) n k (.int 0) i).pushCell _).setCell T.heap.size _ = _
      rw [hH, hT]
    rw [eh]
    obtain ⟨ml, mx⟩ := mS_len S n k i
    have ep : (U.pushCell (Jvm.Free.Multi.innerC (G.2.2.2 0) k (.int 0))).heap = U.heap.push (Jvm.Free.Multi.innerC (G.2.2.2 0) k (.int 0)) := by simp [State.pushCell]
    have P1 := (sP_mk (q := (0, k)) (H1 := U.heap.push (Jvm.Free.Multi.innerC (G.2.2.2 0) k (.int 0))) P0 (by rw [mx]; exact hx) hk (by rw [Array.size_push]) (fun a ha => by rw [Array.getElem?_push, if_neg (Nat.ne_of_lt ha)]) (by
      show (U.heap.push _)[U.heap.size]? = some (vp_cell _ _)
      rw [Array.getElem?_push_size]
      show some ({ cls := G.2.2.2 0, slots := Array.replicate k (.int 0), vm := .none } : Cell) = _
      rw [arrV_new]
      rfl)).1
    obtain ⟨x', hx'⟩ : ∃ x', S.1.length = x' + 1 := ⟨S.1.length - 1, by omega⟩
    have hh0 : H.size = G.1 + x' := by omega
    have h3 : ((U.pushCell (Jvm.Free.Multi.innerC (G.2.2.2 0) k (.int 0))).setCell H.size (Jvm.Free.Multi.outerC (G.2.2.2 4) n H.size (i + 1))).heap[H.size]? = some (Jvm.Free.Multi.outerC (G.2.2.2 4) n H.size (i + 1)) := State.heap_setCell_self (c := Jvm.Free.Multi.outerC (G.2.2.2 4) n H.size i) (by rw [ep, Array.getElem?_push, if_neg (by omega)]; exact f2)
    have P2 := sP_updF (S := sMk (mS S n k i) (0, k)) (RF' := sUF (sMk (mS S n k i) (0, k)).2.1 S.1.length i (S.1.length + 1 + i)) (x' := x') (H1 := ((U.pushCell (Jvm.Free.Multi.innerC (G.2.2.2 0) k (.int 0))).setCell H.size (Jvm.Free.Multi.outerC (G.2.2.2 4) n H.size (i + 1))).heap) P1 (by
      show x' + 1 < ((mS S n k i).1 ++ [(0, k)]).length
      rw [List.length_append, ml, List.length_singleton]
      omega) (by rw [State.heap_setCell, ep, Array.size_setIfInBounds]) (fun q hq => by rw [State.heap_setCell_other (show H.size ≠ q from fun h => hq (by omega)), ep]) (by
      have hkd : sKd (sMk (mS S n k i) (0, k)).1 (x' + 1) = (4, n) := by
        have := mS_kd S n k (i + 1)
        rw [← hx']
        exact this
      have hrf := mS_rf S n k (i + 1)
      rw [hkd]
      show ((U.pushCell _).setCell H.size _).heap[G.1 + x']? = some (vp_cell (G.2.2.2 4) (n, .inr (.inr (.inr (.inr (fun j => sN G (sUF (sMk (mS S n k i) (0, k)).2.1 S.1.length i (S.1.length + 1 + i) (x' + 1) j)))))))
      rw [← hh0, h3, outerC_arr, vp_cell_q]
      congr 2
      funext j
      have hj := hrf j
      change sUF (sMk (mS S n k i) (0, k)).2.1 S.1.length i (S.1.length + 1 + i) S.1.length j = _ at hj
      rw [hx'] at hj ⊢
      rw [hj]
      by_cases hji : j < i + 1
      · rw [if_pos hji, if_pos hji, show x' + 1 + 1 + j = (x' + 1 + j) + 1 by omega]
        have e9 : (H.size + 1 + j : Nat) = (G.1 + (x' + 1 + j) : Nat) := by omega
        exact congrArg Value.ref e9
      · rw [if_neg hji, if_neg hji]
        rfl) (fun b hb => sUF_ne (by rw [hx']; exact hb))
    have : (sMk (mS S n k i) (0, k)).2.2.2 = S.2.2.2 := mx
    rw [this] at P2
    exact P2
theorem mS_old {T : State} {H : Heap} {c1 c2 : ClassId} (hT : T.heap = H) (n k : Nat) : ∀ i x, x < H.size → (Jvm.Free.Multi.fill T c1 c2 n k (.int 0) i).heap[x]? = H[x]? := by
  intro i
  induction i with
  | zero =>
    intro x hx
    have eh : (Jvm.Free.Multi.fill T c1 c2 n k (.int 0) 0).heap = H.push (Jvm.Free.Multi.outerC c1 n H.size 0) := by
      show (T.pushCell _).heap = _
      rw [hT]
      simp [State.pushCell, hT]
    rw [eh, Array.getElem?_push, if_neg (Nat.ne_of_lt hx)]
  | succ i ih =>
    intro x hx
    obtain ⟨f1, f2, f3, f4⟩ := Jvm.Free.Multi.fill_facts T c1 c2 n k (.int 0) i
    rw [hT] at f1
    show (((Jvm.Free.Multi.fill T c1 c2 n k (.int 0) i).pushCell _).setCell T.heap.size _).heap[x]? = _
    rw [hT, State.heap_setCell_other (show H.size ≠ x from fun h => by omega), ← ih x hx]
    simp only [State.pushCell]
    rw [Array.getElem?_push, if_neg (by omega)]
theorem sj_multi {n k idx : Nat} (ct : sCert M) (hq : (sCd M)[i]? = some (pc, .multianewarray idx 2, a, b)) (hlk : sIn (Cond.classLink M.1.cls idx "[[I") = true) (har : sIn (Cond.arrayClass .int) = true) (hn2 : n * 4 ≤ 536870912) (hk2 : k * 4 ≤ 536870912) (hx : S.2.2.2 = 0) (hκ : κ + (1 + n) ≤ rm.cells) (hθ : θ + (n + n * k) ≤ rm.slots)
    (kj : sJ l G M rm Q (κ + 1 + n) (θ + n + n * k) (i + 1) ls (.inr (.inl S.1.length) :: st) (mS S n k n)) : sJ l G M rm Q κ θ i ls (.inl (k : Int) :: .inl (n : Int) :: st) S := by
  have hc := ct i _ hq (by simp)
  intro p e s m args below meth c H locs arr hB hC h0 hP hS hL hst
  have hd := sCk_dec hc
  have hn := sCk_len hc (by simp [sLen])
  have hkr : sR (k : Int) := hst _ List.mem_cons_self
  have hnr : sR (n : Int) := hst _ (List.mem_cons_of_mem _ List.mem_cons_self)
  have cn : (Int32.ofInt n).toNatClampNeg = n := by rw [sR_cl hnr]; rfl
  have ck : (Int32.ofInt k).toNatClampNeg = k := by rw [sR_cl hkr]; rfl
  rw [sPc_at hq]
  intro T hT X
  obtain ⟨vm₁, cA, comp, hW1, hfA, hfC, hO, hI, X1, step⟩ := X.multianewarray2F hB.1 (own := M.1.cls) (index := idx) (ty := .int) hB.2.2.2.2.2.1 (hC.1 _ hlk args) hC.2.2.2.2.2.2.1.2 (hC.1 _ har args) (g := F0 m pc arr (.int (Int32.ofInt k) :: .int (Int32.ofInt n) :: List.map (sE G) st)) rfl (by rw [hB.2.1]; exact hd) (n := Int32.ofInt n) (k := Int32.ofInt k) (rest := List.map (sE G) st) rfl (fun h => by
    rw [s0, sR_lt hnr sR_0] at h
    omega) (fun h => by
    rw [s0, sR_lt hkr sR_0] at h
    omega) (by rw [cn]; exact hn2) (by rw [ck]; exact hk2) (by rw [ck]; omega) rfl rfl (by rw [cn]; exact hκ) (by rw [cn, ck]; exact hθ)
  have hcA : cA = G.2.2.2 4 := by
    have h9 := (hC.2.1.2 4 (G.2.2.2 4, .array .int) rfl).2
    change s.vm.findClass ("[" ++ (FieldType.array .int).toString) = some _ at h9
    rw [hfA] at h9
    exact Option.some.inj h9
  have hcomp : comp = G.2.2.2 0 := by
    have h9 := (hC.2.1.2 0 (G.2.2.2 0, .int) rfl).2
    change s.vm.findClass ("[" ++ (FieldType.int).toString) = some _ at h9
    change s.vm.findClass ("[" ++ (FieldType.int).toString) = some _ at hfC
    rw [hfC] at h9
    exact Option.some.inj h9
  subst hcA
  subst hcomp
  rw [cn, ck] at X1 step
  have hTH : (T.setVm vm₁).heap = H := hT
  have P1 := mS_P (T := T.setVm vm₁) hP hx hTH (n := n) (k := k) (by omega) (by omega) n (Nat.le_refl _)
  obtain ⟨f1, f2, f3, f4⟩ := Jvm.Free.Multi.fill_facts (T.setVm vm₁) (G.2.2.2 4) (G.2.2.2 0) n k (.int 0) n
  have fo := mS_old (T := T.setVm vm₁) (c1 := G.2.2.2 4) (c2 := G.2.2.2 0) hTH n k n
  have hS1 : va_S (sA G) s.heap (Jvm.Free.Multi.fill (T.setVm vm₁) (G.2.2.2 4) (G.2.2.2 0) n k (.int 0) n).heap locs := by
    refine ⟨Nat.le_trans hS.1 (by rw [f1, hTH]; omega), fun x h1 h2 => ?_, hS.2.2⟩
    rw [fo x (Nat.lt_of_lt_of_le h1 hS.1)]
    exact hS.2.1 x h1 h2
  have kk := kj p e s m args below meth c _ locs arr hB hC h0 P1 hS1 hL (List.forall_mem_cons.mpr ⟨trivial, fun v hv => hst v (List.mem_cons_of_mem _ (List.mem_cons_of_mem _ hv))⟩)
  rw [hn] at kk
  have had : sAd G S.1.length = H.size := by
    have hsz := hP.2.2.1.2 hx
    have hl := hP.2.1
    obtain ⟨z, hz⟩ : ∃ z, S.1.length = z + 1 := ⟨S.1.length - 1, by omega⟩
    rw [hz, hsz, hz]
    rfl
  have e2 : (List.map (sE G) (.inr (.inl S.1.length) :: st)) = .ref T.heap.size :: List.map (sE G) st := by
    rw [List.map_cons, hT]
    exact congrArg (fun z => Value.ref z :: List.map (sE G) st) had
  rw [e2] at kk
  obtain ⟨t, a1, b1⟩ := kk (Jvm.Free.Multi.fill (T.setVm vm₁) (G.2.2.2 4) (G.2.2.2 0) n k (.int 0) n) rfl X1
  exact ⟨t, step t a1, b1⟩
end SMU
