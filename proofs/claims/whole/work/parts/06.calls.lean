theorem sIn_good {w : Cond} (h : sIn w = true) : sGood w = true := by
  unfold sIn at h
  rw [Bool.and_eq_true] at h
  exact h.2
theorem sD_move {G : sG} {s U : State} (h : sD G s) (hW : s.WarmedH U.vm) (hq : ∀ q, q < G.1 → U.heap[q]? = s.heap[q]?) : sD G U := by
  obtain ⟨h1, h2, h3, h4, ⟨⟨k, h5, h6⟩, h7⟩, n1, n2, n3, n4, n5, n6⟩ := h
  have hal := hW.alike
  have hk : ∀ a : Nat, a < s.heap.size → ¬ sA G a → U.heap[a]? = s.heap[a]? := fun a _ h => hq a (Nat.not_le.mp h)
  obtain ⟨k', hk', he⟩ := hal.2.2 _ _ h5
  refine ⟨fun q hq' => ?_, (h2.kept hk).moved hal, (h3.kept hk).moved hal, h4.moved hal, ⟨⟨k', hk', by rw [he]; exact h6⟩, h7.moved hal⟩, n1.moved hal, n2.moved hal, n3.moved hal, n4.moved hal, n5.moved hal, n6.moved hal⟩
  obtain ⟨z, hz⟩ := h1 q hq'
  exact ⟨z, vk_R.warm hW hz⟩
theorem sC_move {G : sG} {s U : State} (h : sC G s) (hW : s.WarmedH U.vm) (hq : ∀ q, q < G.1 → U.heap[q]? = s.heap[q]?) : sC G U :=
  ⟨fun w hw => sGood_move (sIn_good hw) hW (h.1 w hw), va_K.moved hW.alike h.2.1, sD_move h.2.2 hW hq⟩
theorem sP_moved {G : sG} {S : sS} {s t : State} {H : Heap} (hvm : s.vm.Alike t.vm) (h : sP G S s H) : sP G S t H :=
  ⟨h.1, h.2.1, h.2.2.1, h.2.2.2.1, h.2.2.2.2.1, h.2.2.2.2.2.1.moved hvm, h.2.2.2.2.2.2⟩
theorem sW_mono {p : Program} {l : Launch} {e : Env} {R : Room} {s : State} {m : MethodId} {args : Array Value} {below : List Frame} {meth : Method} {c : Code} {H : Heap} {locs : List Loc} {cells slots : Nat} {Q Q' : State → Prop} {g : JFrame} (h : ∀ t, Q t → Q' t) (k : W p l e R s m args below meth c H locs cells slots Q g) : W p l e R s m args below meth c H locs cells slots Q' g := by
  intro T hT X
  obtain ⟨t, a, b⟩ := k T hT X
  exact ⟨t, a, h t b⟩
theorem sMQ_of {below : List Frame} {Qc : Array Value → State → Outcome → State → Prop} {a : Array Value} {s : State} {mc ms : Nat} {free : Addr → Prop} (t : State) (h : MQ below Qc a s mc ms free t) : sMQ below Qc a s mc ms free t := by
  obtain ⟨o, h1, h2, h3, L, h4, h5⟩ := h
  exact ⟨o, h1, h2, h3, L, h4.2, h5⟩
section SE
variable {l : Launch} {G : sG} {M : sM} {rm : Room} {Q : sQ} {κ θ i : Nat} {ls : List (Option sV)} {st : List sV} {S : sS} {pc a b : Nat}
theorem sj_iret {x : Int} (hq : (sCd M)[i]? = some (pc, .ireturn, a, b)) (hc : sCk M i (pc, .ireturn, a, b) = true) (hr : M.2.2.2.1 = some .int) (hκ : κ ≤ rm.cells) (hθ : θ ≤ rm.slots) (hQ : Q (.inl (some (.inl x))) S) : sJ l G M rm Q κ θ i ls [.inl x] S := by
  intro p e s m args below meth c H locs arr hB hC h0 hP hS hL hst
  have hd := sCk_dec hc
  rw [sPc_at hq]
  refine W.widen hκ hθ (sW_mono sMQ_of ?_)
  exact W.iret (v := Int32.ofInt x) hB.1 hB.2.1 (hB.2.2.2.1.trans hr) (fun t ht hW => ⟨⟨.inl (some (.inl x)), S, ⟨rfl, fun w hw => by cases hw; exact hst _ List.mem_cons_self⟩, hQ, by rw [ht]; exact sP_moved hW.alike hP⟩, hS.F ht⟩) hS.2.2 hd hB.2.2.2.2.1
theorem sj_zret {x : Int} (hq : (sCd M)[i]? = some (pc, .ireturn, a, b)) (hc : sCk M i (pc, .ireturn, a, b) = true) (hr : M.2.2.2.1 = some .boolean) (hx : x = 0 ∨ x = 1) (hκ : κ ≤ rm.cells) (hθ : θ ≤ rm.slots) (hQ : Q (.inl (some (.inl x))) S) : sJ l G M rm Q κ θ i ls [.inl x] S := by
  intro p e s m args below meth c H locs arr hB hC h0 hP hS hL hst
  have hd := sCk_dec hc
  rw [sPc_at hq]
  refine W.widen hκ hθ (sW_mono sMQ_of ?_)
  exact W.zret (v := Int32.ofInt x) (ty := .boolean) hB.1 hB.2.1 (hB.2.2.2.1.trans hr) (by rcases hx with rfl | rfl <;> decide) (fun t ht hW => ⟨⟨.inl (some (.inl x)), S, ⟨rfl, fun w hw => by cases hw; exact hst _ List.mem_cons_self⟩, hQ, by rw [ht]; exact sP_moved hW.alike hP⟩, hS.F ht⟩) hS.2.2 hd hB.2.2.2.2.1
theorem sj_vret (hq : (sCd M)[i]? = some (pc, .return_, a, b)) (hc : sCk M i (pc, .return_, a, b) = true) (hr : M.2.2.2.1 = none) (hκ : κ ≤ rm.cells) (hθ : θ ≤ rm.slots) (hQ : Q (.inl none) S) : sJ l G M rm Q κ θ i ls [] S := by
  intro p e s m args below meth c H locs arr hB hC h0 hP hS hL hst
  have hd := sCk_dec hc
  rw [sPc_at hq]
  refine W.widen hκ hθ (sW_mono sMQ_of ?_)
  exact W.vret hB.1 hB.2.1 (hB.2.2.2.1.trans hr) (fun t ht hW => ⟨⟨.inl none, S, ⟨rfl, fun w hw => by cases hw⟩, hQ, by rw [ht]; exact sP_moved hW.alike hP⟩, hS.F ht⟩) hS.2.2 hd hB.2.2.2.2.1
end SE
/-! a method's contract -/
def sWs (M : sM) : List Cond := match M.2.2.2.2.2 with
  | [] => [.code M.1 M.2.1 M.2.2.1 M.2.2.2.1]
  | h :: t => [.codeWith M.1 M.2.1 M.2.2.1 M.2.2.2.1 (h :: t)]
def sPcc (G : sG) (as : List sV) (S : sS) : Array Value → State → Prop := fun a U => a = (as.map (sE G)).toArray ∧ sC G U ∧ G.1 ≤ U.heap.size ∧ sP G S U U.heap
def sCall (l : Launch) (G : sG) (M : sM) (rm : Room) (as : List sV) (S : sS) (Q : sQ) : Prop :=
  MetFree l M.1 (headSpec (sWs M) rm) (sPcc G as S) (fun _ _ _ _ _ => True) (fun a st o t => sQc G Q a st o t ∧ ∃ L, sFE st t L rm.cells rm.slots ∧ ∀ q ∈ L, sA G q.base)
/-- what the word says of the method -/
theorem sWs_spec {M : sM} {args : Array Value} {s : State} {m : MethodId} (h : ∀ w ∈ sWs M, w.before args s = true) (hn : s.methodNamed? M.1 = some m) : ∃ meth c, s.vm.method? m = some meth ∧ meth.code = some c ∧ c.code = M.2.1 ∧ c.maxLocals = M.2.2.1 ∧ meth.sig.returnType = M.2.2.2.1 ∧ meth.locks = false ∧ c.exceptionTable.toList = tableOf M.2.2.2.2.2 ∧ parseMethodDescriptor M.1.desc = some meth.sig := by
  unfold sWs at h
  split at h
  · rename_i hh
    obtain ⟨meth, c, h1, h2, h3, h4, h5, h6, h7, h8⟩ := Cond.code_spec hn (h _ List.mem_cons_self)
    refine ⟨meth, c, h1, h2, h3, h4, h5, h6, ?_, h8⟩
    rw [hh]
    have h9 : c.exceptionTable.size = 0 := by simpa [Array.isEmpty] using h7
    exact List.eq_nil_of_length_eq_zero (by simpa using h9)
  · rename_i hd tl hh
    obtain ⟨m', meth, c, hn', h1, h2, h3, h4, h5, h6, h7, h8⟩ := Cond.codeWith_spec (h _ List.mem_cons_self)
    cases hn.symm.trans hn'
    refine ⟨meth, c, h1, h2, h3, h4, h6, h7, ?_, h8⟩
    rw [hh, ← h5, table_eq]
theorem sCall_of {l : Launch} {G : sG} {M : sM} {rm : Room} {Q : sQ} {as : List sV} {S : sS} (hy : plainName M.1.cls = true) (hn : as.length ≤ M.2.2.1) (h1 : ∀ v ∈ as, sV1 v) (hpc : sPc M 0 = 0)
    (k : sJ l G M rm Q 0 0 0 (as.map some ++ List.replicate (M.2.2.1 - as.length) none) [] S) : sCall l G M rm as S Q := by
  refine MetFree.of_bodyS (code := M.2.1) (maxLocals := M.2.2.1) (ret := M.2.2.2.1) hy ?_ ?_
  · intro args s m h hnm
    obtain ⟨meth, c, g1, g2, g3, g4, g5, g6, -, -⟩ := sWs_spec (M := M) (args := args) (s := s) (m := m) (fun w hw => atoms_spec (ws := sWs M) h w hw) hnm
    exact ⟨meth, c, g1, g2, g3, g4, g5, g6⟩
  · intro p e s m args below meth c s₁ B hml hv _
    obtain ⟨rfl, hC, h0, hP⟩ := hv
    obtain ⟨meth', c', g1, g2, g3, g4, g5, g6, g7, g8⟩ := sWs_spec (M := M) (m := m) (fun w hw => atoms_spec (ws := sWs M) B.pre w hw) B.named
    cases B.method.symm.trans g1
    have X := Stand.of_body B
    cases X.code.symm.trans g2
    have hB : sB M p s m meth c := ⟨B.exec, B.bytes, hml, B.returns, B.notSynchronized, findClass_of_methodNamed B.named, g7, (name_of_methodNamed B.named B.method).1⟩
    have hcat : ∀ v ∈ as.map (sE G), v.category = 1 := by
      intro v hv
      obtain ⟨w, hw, rfl⟩ := List.mem_map.mp hv
      exact sV1_c (h1 w hw)
    have hee := entry_eq m (as.map (sE G)) hcat M.2.2.1
    have hL : sL G (((as.map (sE G)).map Slot.val ++ List.replicate (M.2.2.1 - (as.map (sE G)).length) Slot.unset).toArray) M.2.2.1 (as.map some ++ List.replicate (M.2.2.1 - as.length) none) := by
      have hsz : (((as.map (sE G)).map Slot.val ++ List.replicate (M.2.2.1 - (as.map (sE G)).length) Slot.unset).toArray).size = M.2.2.1 := by simp; omega
      have hget : ∀ k : Nat, (((as.map (sE G)).map Slot.val ++ List.replicate (M.2.2.1 - (as.map (sE G)).length) Slot.unset).toArray)[k]? = if h : k < as.length then some (.val (sE G as[k])) else if k < M.2.2.1 then some .unset else none := by
        intro k
        rw [List.getElem?_toArray]
        by_cases hk : k < as.length
        · rw [dif_pos hk, List.getElem?_append_left (by simpa using hk), List.getElem?_map, List.getElem?_map, List.getElem?_eq_getElem hk]
          rfl
        · rw [dif_neg hk, List.getElem?_append_right (by simpa using hk), List.getElem?_replicate]
          simp only [List.length_map]
          by_cases hk2 : k < M.2.2.1
          · rw [if_pos (by omega), if_pos hk2]
          · rw [if_neg (by omega), if_neg hk2]
      refine ⟨hsz, ⟨fun k v hv hc2 => ?_, fun k hk => ?_⟩, by simp; omega, fun k v hk => ?_⟩
      · rw [hget k] at hv
        split at hv
        · rename_i hlt
          cases hv
          have := sV1_c (G := G) (h1 _ (List.getElem_mem hlt))
          omega
        · split at hv <;> cases hv
      · rw [hget k] at hk
        split at hk
        · cases hk
        · split at hk <;> cases hk
      · by_cases hlt : k < as.length
        · rw [List.getElem?_append_left (by simpa using hlt), List.getElem?_map, List.getElem?_eq_getElem hlt] at hk
          cases hk
          refine ⟨by rw [hget k, dif_pos hlt], h1 _ (List.getElem_mem hlt)⟩
        · rw [List.getElem?_append_right (by simpa using hlt), List.getElem?_replicate] at hk
          split at hk <;> cases hk
    have hh0 : s₁.heap = s.heap := by rw [B.state]; rfl
    have w := k p e s m (as.map (sE G)).toArray below meth c s.heap [] _ hB hC h0 hP va_S.rf hL (fun v hv => by cases hv)
    rw [hpc] at w
    obtain ⟨t, a1, o, b1, b2, b3⟩ := w s₁ hh0 X
    exact ⟨t, o, by rw [hee]; exact a1, b1, b2, b3⟩
section SRUN
variable {p : Program} {l : Launch} {e : Env} {R : Room} {s : State} {m : MethodId} {args : Array Value} {below : List Frame} {meth : Method} {c : Code} {T : State} {locs : List Loc} {cells slots : Nat}
/-- a call by contract: it comes back, or it throws -/
theorem s_run {G : sG} {M2 : sM} {rm2 : Room} {as : List sV} {S : sS} {Q2 : sQ} (hM : sCall l G M2 rm2 as S Q2) (X : Stand p l e R s m args below meth c T locs cells slots)
    {g : JFrame} (hg : g.method = m) (hsize : g.locals.size = c.maxLocals) {ig : Instr} (hdg : decode c.code g.pc = .ok (ig, 3)) (hst : 2 * g.monitorRoom + (g.stack.map fun v => v.category).sum ≤ 8)
    {mk : MethodId} (hnm : T.methodNamed? M2.1 = some mk) (hw : ∀ w ∈ sWs M2, w.before (as.map (sE G)).toArray T = true) (hini : (Cond.initialized M2.1.cls).before (as.map (sE G)).toArray T = true)
    (hfr : rm2.frames + 1 ≤ R.frames) (hlo : 8 + (M2.2.2.1 + 11) + rm2.locals ≤ R.locals) (hce : cells + rm2.cells ≤ R.cells) (hsl : slots + rm2.slots ≤ R.slots)
    (hC : sC G T) (h0 : G.1 ≤ T.heap.size) (hP : sP G S T T.heap) :
    ∃ (T' : State) (L : List Loc) (r : Option sV ⊕ Nat) (S' : sS), Stand p l e R s m args below meth c T' (locs ++ L) (cells + rm2.cells) (slots + rm2.slots) ∧ (∀ q ∈ L, sA G q.base) ∧ Q2 r S' ∧ sP G S' T' T'.heap ∧ va_F (sA G) T T' ∧ T.WarmedH T'.vm ∧
      ((∃ v, r = .inl v ∧ (∀ w, v = some w → sV1 w) ∧ Steps p.tables e below (doInvoke e (T.setTop g) [] mk (as.map (sE G)).toArray).1 (T'.setTop { g with pc := g.pc + 3, stack := (v.map (sE G)).toList ++ g.stack })) ∨
       (∃ n x cell, r = .inr n ∧ G.1 ≤ x ∧ T'.heap[x]? = some cell ∧ cell.vm = .none ∧ T'.vm.findClass (cX n) = some cell.cls ∧ Steps p.tables e below (doInvoke e (T.setTop g) [] mk (as.map (sE G)).toArray).1 ((T'.setTop g).pushFrame (.throwing x)))) := by
  obtain ⟨methY, cY, hmY, hcY, -, hlY, -, -, -, -⟩ := sWs_spec hw hnm
  obtain ⟨kY, hkY, -⟩ := className_of_methodNamed hnm
  have hinitY : kY.init = .initialized := Cond.initialized_spec (findClass_of_methodNamed hnm) hkY hini
  have h : At T g.method c below := by rw [hg]; exact X.here
  have happ : (headSpec (sWs M2) rm2).appliesLoose M2.1 e.platform (T.calling g mk (as.map (sE G)).toArray) = true :=
    Spec.appliesLoose_calling (g := g) h hdg hnm hkY hinitY (X.room_calling (g := g) (R' := rm2) hsize hmY hcY hfr (by rw [hlY]; omega) hce hsl) (atoms_intro hw)
  obtain ⟨mid, hmid⟩ := h.above
  have hfrm : (T.setTop g).frames = (.java g :: mid) ++ below := by rw [State.frames_setTop' g h.top, hmid]; rfl
  obtain ⟨o, s₂, hsteps, -, hend, hq⟩ := Steps.callFree hM p X.admits X.cas X.clock (acts := []) hfrm happ ⟨rfl, sC_move (U := (T.setTop g).pushFrame (.invoking mk (as.map (sE G)).toArray)) hC (State.WarmedH.refl T) (fun _ _ => rfl), h0, sP_moved (t := (T.setTop g).pushFrame (.invoking mk (as.map (sE G)).toArray)) (Vm.Alike.refl T.vm) hP⟩ trivial
  rw [State.frames_setTop' g h.top, X.tail] at hend
  obtain ⟨⟨⟨r, S', hout, hQ, hP'⟩, hF⟩, L, ⟨hW₂, hsame⟩, hL⟩ := hq
  cases r with
  | inl v =>
    obtain ⟨rfl, hv1⟩ := hout
    obtain ⟨T', X', hW', -, ht⟩ := X.outOf hg hdg hend hW₂ hsame
    refine ⟨T', L, .inl v, S', X', hL, hQ, ?_, ?_, hW', Or.inl ⟨v, rfl, hv1, ?_⟩⟩
    · rw [ht] at hP'
      exact hP'
    · rw [ht] at hF
      exact hF
    · rw [← ht]
      exact hsteps
  | inr n =>
    obtain ⟨x, cell, rfl, hx, hcell, hvm, hcls⟩ := hout
    obtain ⟨T', X', hW', -, ht⟩ := X.outOfThrown hg hend hW₂ hsame
    refine ⟨T', L, .inr n, S', X', hL, hQ, ?_, ?_, hW', Or.inr ⟨n, x, cell, rfl, hx, ?_, hvm, ?_, ?_⟩⟩
    · rw [ht] at hP'
      exact hP'
    · rw [ht] at hF
      exact hF
    · rw [ht] at hcell
      exact hcell
    · rw [ht] at hcls
      exact hcls
    · rw [← ht]
      exact hsteps
end SRUN
