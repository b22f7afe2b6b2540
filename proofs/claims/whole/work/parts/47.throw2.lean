/-! a throw of the small machine -/
def tNm : List String := ["java/lang/RuntimeException", "java/lang/Exception"]
theorem sP_grow {G : sG} {S : sS} {s : State} {H H1 : Heap} (h : sP G S s H) (hx : S.2.2.2 ≠ 0) (hz : H.size ≤ H1.size) (hq : ∀ q : Nat, q < H.size → H1[q]? = H[q]?) : sP G S s H1 := by
  obtain ⟨h1, h2, ⟨h3, h3'⟩, h4, h5, h6, h7⟩ := h
  refine ⟨h1.kept (fun k q hk => ?_), h2, ⟨Nat.le_trans h3 hz, fun e => absurd e hx⟩, h4, h5, h6.kept (hq _ (by omega)), h7⟩
  obtain ⟨hl, rfl⟩ := sW_at hk
  exact hq _ (by show G.1 + k < H.size; omega)
section TH
variable {l : Launch} {G : sG} {M : sM} {rm : Room} {Q : sQ} {κ θ i : Nat} {ls : List (Option sV)} {st : List sV} {S : sS} {pc pc1 pc2 pc3 pc4 a0 b0 a1 b1 a2 b2 a3 b3 a4 b4 : Nat}
theorem sj_throw {n ik is ic ix : Nat} {rx : ByteArray} {text : String} (ct : sCert M) (hl : l.stackTraces = false) (hM : M.1.cls = "TermBench") (hh : M.2.2.2.2.2 = [])
    (x0 : decode rx 0 = .ok (.aload_n 0, 1)) (x1 : decode rx 1 = .ok (.aload_n 1, 1)) (x2 : decode rx 2 = .ok (.invokespecial ix, 3)) (x5 : decode rx 5 = .ok (.return_, 1))
    (hq0 : (sCd M)[i]? = some (pc, .new ik, a0, b0)) (hq1 : (sCd M)[i + 1]? = some (pc1, .dup, a1, b1)) (hq2 : (sCd M)[i + 2]? = some (pc2, .ldc is, a2, b2)) (hq3 : (sCd M)[i + 3]? = some (pc3, .invokespecial ic, a3, b3)) (hq4 : (sCd M)[i + 4]? = some (pc4, .athrow, a4, b4))
    (htx : (is, text) ∈ sStr) (hws : (Cond.classLink "TermBench" ik (cX n) :: Cond.initialized (cX n) :: tAt "TermBench" ic (cX n) ix rx tNm).all sIn = true) (hot : (Cond.classLink "TermBench" ik (cX n) :: Cond.initialized (cX n) :: tAt "TermBench" ic (cX n) ix rx tNm).all vx_ot = true)
    (hcf : Bundle.fit (cX n) = true) (hnf : ∀ nm ∈ tNm, Bundle.fit nm = true)
    (hfr : 5 < rm.frames) (hlo : (st.map fun v => (sE G v).category).sum + 82 ≤ rm.locals) (hκ : κ + 1 ≤ rm.cells) (hθ : θ + 6 ≤ rm.slots) (hex : S.2.2.2 ≠ 0) (hQ : Q (.inr n) S) : sJ l G M rm Q κ θ i ls st S := by
  have c0 := ct i _ hq0 (by simp)
  have c1 := ct (i + 1) _ hq1 (by simp)
  have c2 := ct (i + 2) _ hq2 (by simp)
  have c3 := ct (i + 3) _ hq3 (by simp)
  have c4 := ct (i + 4) _ hq4 (by simp)
  have p1 : pc1 = pc + 3 := (sPc_at hq1).symm.trans (sCk_len c0 (by simp [sLen]))
  have p2 : pc2 = pc1 + 1 := (sPc_at hq2).symm.trans (sCk_len c1 (by simp [sLen]))
  have p3 : pc3 = pc2 + 2 := (sPc_at hq3).symm.trans (sCk_len c2 (by simp [sLen]))
  have p4 : pc4 = pc3 + 3 := (sPc_at hq4).symm.trans (sCk_len c3 (by simp [sLen]))
  have p2 : pc2 = pc + 4 := by omega
  have p3 : pc3 = pc + 6 := by omega
  have p4 : pc4 = pc + 9 := by omega
  have d0 := sCk_dec c0
  have d1 := sCk_dec c1
  have d2 := sCk_dec c2
  have d3 := sCk_dec c3
  have d4 := sCk_dec c4
  intro p e s m args below meth c H locs arr hB hC h0 hP hS hL hst
  rw [sPc_at hq0]
  obtain ⟨hexec, hb, hml, hret, hlocks, hown, htab, -⟩ := hB
  rw [hM] at hown
  rw [hh] at htab
  obtain ⟨sa, hstr⟩ := hC.2.2.1 _ htx
  have hU := hC.2.2.2.1
  have hN := hC.2.2.2.2.1
  have hwb : ∀ w ∈ Cond.classLink "TermBench" ik (cX n) :: Cond.initialized (cX n) :: tAt "TermBench" ic (cX n) ix rx tNm, w.before args s = true := fun w hw => hC.1 w (List.all_eq_true.mp hws w hw) args
  have hgood : ∀ w ∈ Cond.classLink "TermBench" ik (cX n) :: Cond.initialized (cX n) :: tAt "TermBench" ic (cX n) ix rx tNm, vx_ot w = true := fun w hw => List.all_eq_true.mp hot w hw
  intro T hT X
  have htr : e.platform.stackTraces = false := (show e.platform.stackTraces = l.stackTraces by rw [X.admits.platform]).trans hl
  have Y := vx_rebase X (R' := { frames := rm.frames, locals := rm.locals, cells := 1, slots := 6 }) (Nat.le_refl _) (Nat.le_refl _) hκ hθ
  obtain ⟨s', hA⟩ : ∃ z, z = (T.setVm s.vm).setFrames (.invoking m args :: below) := ⟨_, rfl⟩
  rw [← hA] at Y
  have hvm : s'.vm = s.vm := by rw [hA]; rfl
  have hhp : s'.heap = H := by rw [hA]; exact hT
  have hW0 : s.WarmedH s'.vm := by rw [hvm]; exact State.WarmedH.refl s
  have hwb' : ∀ w ∈ Cond.classLink "TermBench" ik (cX n) :: Cond.initialized (cX n) :: tAt "TermBench" ic (cX n) ix rx tNm, w.before args s' = true := fun w hw => vx_ot_at hW0 hvm.symm (hgood w hw) (hwb w hw)
  have hat' : ∀ w ∈ tAt "TermBench" ic (cX n) ix rx tNm, w.before args s' = true := fun w hw => hwb' w (List.mem_cons_of_mem _ (List.mem_cons_of_mem _ hw))
  have hk' := hwb' _ List.mem_cons_self
  have hini' := hwb' _ (List.mem_cons_of_mem _ List.mem_cons_self)
  have hU' : vx_Zq Bundle.tN "UNASSIGNED_STACK" Bundle.steD (sA G) s' s'.heap := by rw [hhp]; exact vx_Zq.moved hW0.alike (hU.kept hS.2.1)
  have hN' : vx_Zq Bundle.tN "SUPPRESSED_SENTINEL" Bundle.listD (sA G) s' s'.heap := by rw [hhp]; exact vx_Zq.moved hW0.alike (hN.kept hS.2.1)
  have h : ∀ w ∈ Bundle.ownAtomsX "TermBench" ic (cX n) ix rx tNm, w.before args s' = true := vx_own hat' (vx_isRefq hU'.1) (vx_isRefq hN'.1) hU'.2.word hN'.2.word
  have hown' : s'.vm.findClass "TermBench" = some m.cls := by rw [hvm]; exact hown
  have hins : (Cond.instantiable (cX n) 6).before args s' = true := h _ (by simp [Bundle.ownAtomsX])
  obtain ⟨vm₁, cXX, kX, hfX, hkX, -, -, X₁, st1⟩ := Y.newCold hexec (own := "TermBench") (C := cX n) (index := ik) (n := 6) hown' hk' hins hini'
    (g := F0 m pc arr (st.map (sE G))) rfl (by rw [hb]; exact d0) (Nat.le_refl _) (Nat.le_refl _)
  generalize hT1 : (T.setVm vm₁).pushCell { cls := cXX, slots := kX.instanceTypes.map defaultValue, vm := .none } = T1 at X₁ st1
  have hcat : (Value.ref T.heap.size).category = 1 := rfl
  have hlo' : ((st.map (sE G)).map fun v => v.category).sum + 82 ≤ rm.locals := by rw [List.map_map]; exact hlo
  have hcellA : T1.heap[T.heap.size]? = some (freshCell cXX kX) := by rw [← hT1]; exact State.heap_pushCell_size _ _
  have d1' : decode c.code (pc + 3) = .ok (.dup, 1) := by rw [hb, ← p1]; exact d1
  have d2' : decode c.code (pc + 4) = .ok (.ldc is, 2) := by rw [hb, ← p2]; exact d2
  have hstr' : vk_R "TermBench" is text sa s' := vk_R.warm hW0 hstr
  obtain ⟨U, hsteps, hrun, hend, hW, hsame, ce, hce, hO, hcl⟩ := tx_ctor X₁ hexec htr (own := "TermBench") (cls := cX n) (names := tNm) (ic := ic) x0 x1 x2 x5 hown' hcf hnf h (fun x hx => nomatch hx) hfX hkX hcellA (by rw [hhp, hT]; exact Nat.le_refl _) (msg := .ref sa) rfl
    (g := { method := m, pc := pc + 6, locals := arr, stack := .ref sa :: .ref T.heap.size :: .ref T.heap.size :: st.map (sE G), locked := none }) rfl (by rw [hml]; exact hL.1) rfl rfl (rest := st.map (sE G)) rfl
    (by rw [hb, ← p3]; exact d3) (by rw [hb]; show decode M.2.1 (pc + 9) = _; rw [← p4]; exact d4) (fun x hx => by rw [htab] at hx; cases hx) hfr (by simp only [List.map_cons, List.sum_cons, hcat, tNm, List.length_cons, List.length_nil, JFrame.monitorRoom]; first | omega | (simp; omega)) hlocks
  obtain ⟨f1, f2⟩ := vx_frame hsame
  rw [hhp] at f1 f2
  have f2' : ∀ q : Nat, q < H.size → U.heap[q]? = H[q]? := fun q hq => f2 q hq (fun z hz => nomatch hz)
  have hWs : s.WarmedH U.vm := State.WarmedH.trans hW0 hW
  rw [hvm] at hcl
  have hcl2 : U.vm.findClass (cX n) = some ce.cls := by rw [hWs.alike.findClass]; exact hcl
  have hGx : G.1 ≤ T.heap.size := by rw [hT]; have := hP.2.2.1.1; omega
  have hall : s.sameButNew ({ U with vm := s.vm } : State) locs rm.cells rm.slots := by
    subst hA
    obtain ⟨e1, e2⟩ := hsame
    rw [State.setFrames_setFrames] at e1
    have h2 : (T.setVm s.vm).sameButNew ({ U with vm := s.vm } : State) [] (0 + 1) (0 + 6) := ⟨e1, e2⟩
    have h3 := X.same.trans h2
    rw [List.append_nil] at h3
    exact h3.mono hκ hθ
  refine ⟨U, ?_, .threw T.heap.size, hrun, hend, ⟨⟨.inr n, S, ⟨T.heap.size, ce, rfl, hGx, hce, hO, hcl2⟩, hQ, sP_moved hWs.alike (sP_grow hP hex f1 f2')⟩, ?_⟩, locs, ⟨hWs, hall⟩, hS.2.2⟩
  · refine st1 _ ?_
    show Steps p.tables e below (T1.setTop { method := m, pc := pc + 3, locals := arr, stack := .ref T.heap.size :: st.map (sE G), locked := none }) _
    jvm_step X₁.here [X₁.here.top, hexec, d1', Value.category]
    exact X₁.ldcString hexec (own := "TermBench") (text := text) (index := is) (a := sa) hown' hstr'.1 hstr'.2
      (g := { method := m, pc := pc + 4, locals := arr, stack := .ref T.heap.size :: .ref T.heap.size :: st.map (sE G), locked := none }) rfl d2' _ hsteps
  · exact ⟨Nat.le_trans hS.1 f1, fun q hq hn => by rw [f2' q (Nat.lt_of_lt_of_le hq hS.1)]; exact hS.2.1 q hq hn⟩
end TH
