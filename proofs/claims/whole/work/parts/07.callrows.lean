/-- what a call needs of the tables -/
def sLb (M2 : sM) : Bool := sIn (Cond.initialized M2.1.cls) && (sWs M2).all sIn && decide (M2.1.cls ≠ "java/lang/invoke/MethodHandle") && decide (M2.1.cls ≠ "java/lang/invoke/VarHandle")
def sLm (own : String) (idx : Nat) (M2 : sM) : Bool := sIn (Cond.methodLink own idx M2.1) || sIn (Cond.methodLinkNest own idx M2.1 "TermBench")
def sLv (n : Nat) (M2 : sM) : Bool := sLb M2 && sIn (Cond.instanceMethod M2.1) && sIn (Cond.selects M2.1.cls M2.1 M2.1) && decide ((parseMethodDescriptor M2.1.desc).map (fun d => d.parameters.length) = some n)
def sLs (n : Nat) (M2 : sM) : Bool := sLb M2 && sIn (Cond.static M2.1) && decide ((parseMethodDescriptor M2.1.desc).map (fun d => d.parameters.length) = some n)
def sLi (n : Nat) (M2 : sM) : Bool := sLb M2 && sIn (Cond.instanceMethod M2.1) && decide (M2.1.name = "<init>") && decide ((parseMethodDescriptor M2.1.desc).map (fun d => d.parameters.length) = some n)
section SC
variable {l : Launch} {G : sG} {M M2 : sM} {rm rm2 : Room} {Q Q2 : sQ} {κ θ i : Nat} {ls : List (Option sV)} {st : List sV} {S : sS} {pc a b : Nat}
theorem sS_call {s T T' : State} {H : Heap} {locs L : List Loc} (hS : va_S (sA G) s.heap H locs) (hT : T.heap = H) (hF : va_F (sA G) T T') (hL : ∀ q ∈ L, sA G q.base) : va_S (sA G) s.heap T'.heap (locs ++ L) := by
  refine ⟨Nat.le_trans hS.1 (by rw [← hT]; exact hF.1), fun q h1 h2 => ?_, fun q hq => ?_⟩
  · rw [hF.2 q (by rw [hT]; exact Nat.lt_of_lt_of_le h1 hS.1) h2, hT]
    exact hS.2.1 q h1 h2
  · rcases List.mem_append.mp hq with h | h
    · exact hS.2.2 q h
    · exact hL q h
/-- behind a call -/
theorem s_back {p : Program} {e : Env} {s : State} {m : MethodId} {args : Array Value} {below : List Frame} {meth : Method} {c : Code} {T U : State} {locs : List Loc} {arr : Array Slot} {as rest : List sV} {ig : Instr} {mk : MethodId}
    (hB : sB M p s m meth c) (hC : sC G s) (h0 : G.1 ≤ s.heap.size) (hP : sP G S s U.heap) (hS : va_S (sA G) s.heap U.heap locs) (hL : sL G arr M.2.2.1 ls) (hr : ∀ v ∈ rest, sVr v)
    (hcall : sCall l G M2 rm2 as S Q2) (X : Stand p l e rm s m args below meth c U locs κ θ) (hdg : decode c.code pc = .ok (ig, 3)) (hnx : sPc M (i + 1) = pc + 3)
    (hb : sLb M2 = true) (hnm : U.methodNamed? M2.1 = some mk) (hcat : (rest.map fun v => (sE G v).category).sum ≤ 8)
    (hfr : rm2.frames + 1 ≤ rm.frames) (hlo : 8 + (M2.2.2.1 + 11) + rm2.locals ≤ rm.locals) (hce : κ + rm2.cells ≤ rm.cells) (hsl : θ + rm2.slots ≤ rm.slots)
    (kr : ∀ v S', Q2 (.inl v) S' → sJ l G M rm Q (κ + rm2.cells) (θ + rm2.slots) (i + 1) ls (v.toList ++ rest) S')
    (kx : ∀ n S', Q2 (.inr n) S' → (M.2.2.2.2.2 = [] ∧ Q (.inr n) S'))
    (hst : ∀ t, Steps p.tables e below (doInvoke e (U.setTop (F0 m pc arr (rest.map (sE G)))) [] mk (as.map (sE G)).toArray).1 t → Steps p.tables e below T t) :
    ∃ t, Steps p.tables e below T t ∧ sMQ below (sQc G Q) args s rm.cells rm.slots (sA G) t := by
  have hCU : sC G U := sC_move hC X.warmed (fun q hq => hS.2.1 q (Nat.lt_of_lt_of_le hq h0) (Nat.not_le.mpr hq))
  unfold sLb at hb
  simp only [Bool.and_eq_true, decide_eq_true_eq, List.all_eq_true] at hb
  obtain ⟨⟨⟨hini, hws⟩, -⟩, -⟩ := hb
  obtain ⟨T', L, r, S', X', hLL, hQ2, hP', hF, hW', hres⟩ := s_run hcall X (g := F0 m pc arr (rest.map (sE G))) rfl (by rw [hB.2.2.1]; exact hL.1) hdg (by show 2 * 0 + _ ≤ 8; rw [List.map_map]; exact Nat.le_trans (Nat.le_of_eq (Nat.zero_add _)) hcat) hnm
    (fun w hw => hCU.1 w (hws w hw) _) (hCU.1 _ hini _) hfr hlo hce hsl hCU (Nat.le_trans h0 hS.1) (sP_moved X.warmed.alike hP)
  have hS' := sS_call hS rfl hF hLL
  have hPs : sP G S' s T'.heap := sP_moved X'.warmed.alike.symm hP'
  rcases hres with ⟨v, rfl, hv1, hsteps⟩ | ⟨n, x, cell, rfl, hx, hcell, hvm, hcls, hsteps⟩
  · have w := kr v S' hQ2 p e s m args below meth c T'.heap (locs ++ L) arr hB hC h0 hPs hS' hL (by
      intro z hz
      rcases List.mem_append.mp hz with h | h
      · cases v with
        | none => cases h
        | some y =>
          have : z = y := by simpa using h
          subst this
          exact sV1_r (hv1 _ rfl)
      · exact hr z h)
    rw [hnx] at w
    obtain ⟨t, a1, b1⟩ := w T' rfl X'
    refine ⟨t, hst t (hsteps.trans ?_), b1⟩
    have e1 : (v.toList ++ rest).map (sE G) = (v.map (sE G)).toList ++ rest.map (sE G) := by cases v <;> simp
    rw [e1] at a1
    exact a1
  · obtain ⟨hno, hQn⟩ := kx n S' hQ2
    have X2 := stand_widen X' hce hsl
    obtain ⟨hwalk, hrun, hended, hWU, hsame⟩ := X2.leaveThrown x (g := F0 m pc arr (rest.map (sE G))) rfl rfl rfl (by rw [hB.2.2.2.2.2.2.1, hno]; intro y hy; cases hy) hB.2.2.2.2.1
    refine ⟨_, hst _ (hsteps.trans hwalk), .threw x, hrun, hended, ⟨⟨.inr n, S', ⟨x, cell, rfl, hx, hcell, hvm, hcls⟩, hQn, hP'⟩, hS'.1, fun q h1 h2 => hS'.2.1 q h1 h2⟩, locs ++ L, ⟨hWU, hsame⟩, hS'.2.2⟩
theorem sj_callV {idx x cc : Nat} {as rest : List sV} (hq : (sCd M)[i]? = some (pc, .invokevirtual idx, a, b)) (hc : sCk M i (pc, .invokevirtual idx, a, b) = true) (hlk : sLv as.length M2 = true) (hlm : sLm M.1.cls idx M2 = true) (hcl : ∃ q : vw_C, classes[cc]? = some q ∧ q.1 = M2.1.cls) (hx : (sKd S.1 x).1 = cc + 5)
    (hcall : sCall l G M2 rm2 (.inr (.inl x) :: as) S Q2) (hcat : (rest.map fun v => (sE G v).category).sum ≤ 8)
    (hfr : rm2.frames + 1 ≤ rm.frames) (hlo : 8 + (M2.2.2.1 + 11) + rm2.locals ≤ rm.locals) (hce : κ + rm2.cells ≤ rm.cells) (hsl : θ + rm2.slots ≤ rm.slots)
    (kr : ∀ v S', Q2 (.inl v) S' → sJ l G M rm Q (κ + rm2.cells) (θ + rm2.slots) (i + 1) ls (v.toList ++ rest) S')
    (kx : ∀ n S', Q2 (.inr n) S' → (M.2.2.2.2.2 = [] ∧ Q (.inr n) S')) : sJ l G M rm Q κ θ i ls (as.reverse ++ .inr (.inl x) :: rest) S := by
  intro p e s m args below meth c H locs arr hB hC h0 hP hS hL hst
  have hd := sCk_dec hc
  have hn := sCk_len hc (by simp [sLen])
  rw [sPc_at hq]
  unfold sLv at hlk
  simp only [Bool.and_eq_true, decide_eq_true_eq] at hlk
  obtain ⟨⟨⟨hb, hins⟩, hsel⟩, hlen⟩ := hlk
  intro T hT X
  have hb2 := hb
  unfold sLb at hb2
  simp only [Bool.and_eq_true, decide_eq_true_eq, List.all_eq_true] at hb2
  obtain ⟨⟨⟨hini, hws⟩, hy1⟩, hy2⟩ := hb2
  obtain ⟨q, hcl, hqn⟩ := hcl
  obtain ⟨x', rfl, hlt, hw⟩ := sP_obj hP hx (cls_99 hcl)
  obtain ⟨cell, hcell, hnst, hclsB⟩ := va_recv hC.2.1 hP.1 hcl hw
  obtain ⟨mk, methM, hnamed, hmethM, hstM, habM⟩ := Cond.instanceMethod_spec (hC.1 _ hins args)
  obtain ⟨methM', cM, hmethM', -, -, -, -, -, -, hsigM⟩ := sWs_spec (M := M2) (fun w hw => hC.1 w (hws w hw) args) hnamed
  cases hmethM.symm.trans hmethM'
  obtain ⟨c2, r2, m2, q1, q2, q3, q4, kP, hkP, hkPi⟩ := Cond.selects_spec (hC.1 _ hsel args)
  rw [hqn] at hclsB
  cases hclsB.symm.trans q1
  cases (State.methodFound?_of_named hnamed ⟨hy1, hy2⟩).symm.trans q2
  cases hnamed.symm.trans q3
  have hselP : selectMethod e.platform s.vm cell.cls mk = .method mk := by rw [Launch.admits_selectMethod X.admits]; exact q4
  have hln : (as.map (sE G)).length = methM.sig.parameters.length := by
    rw [hsigM] at hlen
    simpa using hlen.symm
  have hstk : (as.reverse ++ .inr (.inl (x' + 1)) :: rest).map (sE G) = (as.map (sE G)).reverse ++ .ref (G.1 + x') :: rest.map (sE G) := by simp [sE, sAd]
  have fin : ∀ vm₁ : Vm, Stand p l e rm s m args below meth c (T.setVm vm₁) locs κ θ → (∀ target, (∀ acts, Steps p.tables e below (doInvoke e ((T.setVm vm₁).setTop (F0 m pc arr (rest.map (sE G)))) acts mk (Value.ref (G.1 + x') :: as.map (sE G)).toArray).1 target) → Steps p.tables e below (T.setTop (F0 m pc arr ((as.reverse ++ .inr (.inl (x' + 1)) :: rest).map (sE G)))) target) →
      ∃ t, Steps p.tables e below (T.setTop (F0 m pc arr ((as.reverse ++ .inr (.inl (x' + 1)) :: rest).map (sE G)))) t ∧ sMQ below (sQc G Q) args s rm.cells rm.slots (sA G) t := fun vm₁ X₁ hstep₁ =>
    s_back (U := T.setVm vm₁) (mk := mk) hB hC h0 (by rw [show (T.setVm vm₁).heap = H from hT]; exact hP) (by rw [show (T.setVm vm₁).heap = H from hT]; exact hS) hL (fun v hv => hst v (List.mem_append_right _ (List.mem_cons_of_mem _ hv))) hcall X₁ (by rw [hB.2.1]; exact hd) hn hb (X₁.named hnamed) hcat hfr hlo hce hsl kr kx
      (fun t ht => hstep₁ t fun acts => by rw [doInvoke_state]; exact ht)
  unfold sLm at hlm
  rw [Bool.or_eq_true] at hlm
  rcases hlm with hlm | hlm
  · obtain ⟨vm₁, X₁, hstep₁⟩ := X.invokevirtual hB.1 hB.2.2.2.2.2.1 (hC.1 _ hlm args) hnamed hmethM hstM hkP hkPi ⟨hy1, hy2⟩ (a := G.1 + x') (cell := cell) (by rw [hT]; exact hcell)
      (fun z h => by rw [h] at hnst; cases hnst) hselP hmethM habM hkP hkPi (g := F0 m pc arr ((as.reverse ++ .inr (.inl (x' + 1)) :: rest).map (sE G))) rfl (argsL := as.map (sE G)) (rest := rest.map (sE G)) hln hstk (by rw [hB.2.1]; exact hd)
    exact fin vm₁ X₁ hstep₁
  · obtain ⟨vm₁, X₁, hstep₁⟩ := X.invokevirtualNest hB.1 hB.2.2.2.2.2.1 (hC.1 _ hlm args) hnamed hmethM hstM hkP hkPi ⟨hy1, hy2⟩ (a := G.1 + x') (cell := cell) (by rw [hT]; exact hcell)
      (fun z h => by rw [h] at hnst; cases hnst) hselP hmethM habM hkP hkPi (g := F0 m pc arr ((as.reverse ++ .inr (.inl (x' + 1)) :: rest).map (sE G))) rfl (argsL := as.map (sE G)) (rest := rest.map (sE G)) hln hstk (by rw [hB.2.1]; exact hd)
    exact fin vm₁ X₁ hstep₁
theorem sj_callS {idx : Nat} {as rest : List sV} (hq : (sCd M)[i]? = some (pc, .invokestatic idx, a, b)) (hc : sCk M i (pc, .invokestatic idx, a, b) = true) (hlk : sLs as.length M2 = true) (hlm : sLm M.1.cls idx M2 = true) 
    (hcall : sCall l G M2 rm2 (as) S Q2) (hcat : (rest.map fun v => (sE G v).category).sum ≤ 8)
    (hfr : rm2.frames + 1 ≤ rm.frames) (hlo : 8 + (M2.2.2.1 + 11) + rm2.locals ≤ rm.locals) (hce : κ + rm2.cells ≤ rm.cells) (hsl : θ + rm2.slots ≤ rm.slots)
    (kr : ∀ v S', Q2 (.inl v) S' → sJ l G M rm Q (κ + rm2.cells) (θ + rm2.slots) (i + 1) ls (v.toList ++ rest) S')
    (kx : ∀ n S', Q2 (.inr n) S' → (M.2.2.2.2.2 = [] ∧ Q (.inr n) S')) : sJ l G M rm Q κ θ i ls (as.reverse ++ rest) S := by
  intro p e s m args below meth c H locs arr hB hC h0 hP hS hL hst
  have hd := sCk_dec hc
  have hn := sCk_len hc (by simp [sLen])
  rw [sPc_at hq]
  unfold sLs at hlk
  simp only [Bool.and_eq_true, decide_eq_true_eq] at hlk
  obtain ⟨⟨hb, hsta⟩, hlen⟩ := hlk
  intro T hT X
  have hb2 := hb
  unfold sLb at hb2
  simp only [Bool.and_eq_true, decide_eq_true_eq, List.all_eq_true] at hb2
  obtain ⟨⟨⟨hini, hws⟩, hy1⟩, hy2⟩ := hb2
  have hcw : ∃ mk, s.methodNamed? M2.1 = some mk := by
    have h1 := fun w hw => hC.1 w (hws w hw) args
    unfold sWs at h1
    split at h1
    · exact Cond.code_named (h1 _ List.mem_cons_self)
    · obtain ⟨m', _, _, hn', -⟩ := Cond.codeWith_spec (h1 _ List.mem_cons_self)
      exact ⟨m', hn'⟩
  obtain ⟨mk, hnamed⟩ := hcw
  obtain ⟨methM, cM, hmethM, -, -, -, -, -, -, hsigM⟩ := sWs_spec (M := M2) (fun w hw => hC.1 w (hws w hw) args) hnamed
  have hstatic : methM.isStatic = true := Cond.static_spec hnamed hmethM (hC.1 _ hsta args)
  obtain ⟨kP, hkP, -⟩ := className_of_methodNamed hnamed
  have hinitP : kP.init = .initialized := Cond.initialized_spec (findClass_of_methodNamed hnamed) hkP (hC.1 _ hini args)
  have hln : (as.map (sE G)).length = methM.sig.parameters.length := by
    rw [hsigM] at hlen
    simpa using hlen.symm
  have hstk : (as.reverse ++ rest).map (sE G) = (as.map (sE G)).reverse ++ rest.map (sE G) := by simp
  have fin : ∀ vm₁ : Vm, Stand p l e rm s m args below meth c (T.setVm vm₁) locs κ θ → (∀ target, (∀ acts, Steps p.tables e below (doInvoke e ((T.setVm vm₁).setTop (F0 m pc arr (rest.map (sE G)))) acts mk (as.map (sE G)).toArray).1 target) → Steps p.tables e below (T.setTop (F0 m pc arr ((as.reverse ++ rest).map (sE G)))) target) →
      ∃ t, Steps p.tables e below (T.setTop (F0 m pc arr ((as.reverse ++ rest).map (sE G)))) t ∧ sMQ below (sQc G Q) args s rm.cells rm.slots (sA G) t := fun vm₁ X₁ hstep₁ =>
    s_back (U := T.setVm vm₁) (mk := mk) hB hC h0 (by rw [show (T.setVm vm₁).heap = H from hT]; exact hP) (by rw [show (T.setVm vm₁).heap = H from hT]; exact hS) hL (fun v hv => hst v (List.mem_append_right _ hv)) hcall X₁ (by rw [hB.2.1]; exact hd) hn hb (X₁.named hnamed) hcat hfr hlo hce hsl kr kx
      (fun t ht => hstep₁ t fun acts => by rw [doInvoke_state]; exact ht)
  unfold sLm at hlm
  rw [Bool.or_eq_true] at hlm
  rcases hlm with hlm | hlm
  · obtain ⟨vm₁, X₁, hstep₁⟩ := X.invokestatic hB.1 hB.2.2.2.2.2.1 (hC.1 _ hlm args) hnamed hmethM hstatic hkP hinitP ⟨hy1, hy2⟩ (g := F0 m pc arr ((as.reverse ++ rest).map (sE G))) rfl (argsL := as.map (sE G)) (rest := rest.map (sE G)) hln hstk (by rw [hB.2.1]; exact hd)
    exact fin vm₁ X₁ hstep₁
  · obtain ⟨vm₁, X₁, hstep₁⟩ := X.invokestaticNest hB.1 hB.2.2.2.2.2.1 (hC.1 _ hlm args) hnamed hmethM hstatic hkP hinitP ⟨hy1, hy2⟩ (g := F0 m pc arr ((as.reverse ++ rest).map (sE G))) rfl (argsL := as.map (sE G)) (rest := rest.map (sE G)) hln hstk (by rw [hB.2.1]; exact hd)
    exact fin vm₁ X₁ hstep₁
theorem sj_callI {idx x : Nat} {as rest : List sV} (hq : (sCd M)[i]? = some (pc, .invokespecial idx, a, b)) (hc : sCk M i (pc, .invokespecial idx, a, b) = true) (hlk : sLi as.length M2 = true) (hlm : sLm M.1.cls idx M2 = true) (hnh : M2.2.2.2.2.2 = []) (hrn : M2.2.2.2.1 = none) (hx0 : x ≠ 0)
    (hcall : sCall l G M2 rm2 (.inr (.inl x) :: as) S Q2) (hcat : (rest.map fun v => (sE G v).category).sum ≤ 8)
    (hfr : rm2.frames + 1 ≤ rm.frames) (hlo : 8 + (M2.2.2.1 + 11) + rm2.locals ≤ rm.locals) (hce : κ + rm2.cells ≤ rm.cells) (hsl : θ + rm2.slots ≤ rm.slots)
    (kr : ∀ v S', Q2 (.inl v) S' → sJ l G M rm Q (κ + rm2.cells) (θ + rm2.slots) (i + 1) ls (v.toList ++ rest) S')
    (kx : ∀ n S', Q2 (.inr n) S' → (M.2.2.2.2.2 = [] ∧ Q (.inr n) S')) : sJ l G M rm Q κ θ i ls (as.reverse ++ .inr (.inl x) :: rest) S := by
  intro p e s m args below meth c H locs arr hB hC h0 hP hS hL hst
  have hd := sCk_dec hc
  have hn := sCk_len hc (by simp [sLen])
  rw [sPc_at hq]
  unfold sLi at hlk
  simp only [Bool.and_eq_true, decide_eq_true_eq] at hlk
  obtain ⟨⟨⟨hb, hins⟩, hnm1⟩, hlen⟩ := hlk
  intro T hT X
  have hb2 := hb
  unfold sLb at hb2
  simp only [Bool.and_eq_true, decide_eq_true_eq, List.all_eq_true] at hb2
  obtain ⟨⟨⟨hini, hws⟩, hy1⟩, hy2⟩ := hb2
  obtain ⟨x', rfl⟩ : ∃ x', x = x' + 1 := ⟨x - 1, by omega⟩
  have hcode : (Cond.code M2.1 M2.2.1 M2.2.2.1 none).before args s = true := by
    have h1 := fun w hw => hC.1 w (hws w hw) args
    unfold sWs at h1
    rw [hnh, hrn] at h1
    exact h1 _ List.mem_cons_self
  have hpl : e.platform.magicAccessors = ({} : Platform).magicAccessors := by rw [X.admits.platform]
  have hln : ∀ sig, parseMethodDescriptor M2.1.desc = some sig → (as.map (sE G)).length = sig.parameters.length := by
    intro sig hsig
    rw [hsig] at hlen
    simpa using hlen.symm
  have hstk : (as.reverse ++ .inr (.inl (x' + 1)) :: rest).map (sE G) = (as.map (sE G)).reverse ++ .ref (G.1 + x') :: rest.map (sE G) := by simp [sE, sAd]
  unfold sLm at hlm
  rw [Bool.or_eq_true] at hlm
  rcases hlm with hlm | hlm
  · obtain ⟨mk, methM, cM, kP, vm₁, hnamed, hmethM, hcodeM, -, hlocalsM, -, hkP, -, hW₁, hstep₁⟩ := Steps.initColdArgs (e := e) X.here hB.1 X.warmed hpl hB.2.2.2.2.2.1 hnm1 ⟨hy1, hy2⟩ (hC.1 _ hlm args) (hC.1 _ hins args) hcode (f := F0 m pc arr ((as.reverse ++ .inr (.inl (x' + 1)) :: rest).map (sE G))) rfl hln hstk (by rw [hB.2.1]; exact hd)
    have X₁ := X.noted hW₁
    exact s_back (U := T.setVm vm₁) (mk := mk) hB hC h0 (by rw [show (T.setVm vm₁).heap = H from hT]; exact hP) (by rw [show (T.setVm vm₁).heap = H from hT]; exact hS) hL (fun v hv => hst v (List.mem_append_right _ (List.mem_cons_of_mem _ hv))) hcall X₁ (by rw [hB.2.1]; exact hd) hn hb (X₁.named hnamed) hcat hfr hlo hce hsl kr kx
      (fun t ht => hstep₁ t fun acts => by rw [doInvoke_state]; exact ht)
  · obtain ⟨mk, methM, cM, kP, vm₁, hnamed, hmethM, hcodeM, -, hlocalsM, -, hkP, -, hW₁, hstep₁⟩ := Steps.initColdArgsNest (e := e) X.here hB.1 X.warmed hpl hB.2.2.2.2.2.1 hnm1 ⟨hy1, hy2⟩ (hC.1 _ hlm args) (hC.1 _ hins args) hcode (f := F0 m pc arr ((as.reverse ++ .inr (.inl (x' + 1)) :: rest).map (sE G))) rfl hln hstk (by rw [hB.2.1]; exact hd)
    have X₁ := X.noted hW₁
    exact s_back (U := T.setVm vm₁) (mk := mk) hB hC h0 (by rw [show (T.setVm vm₁).heap = H from hT]; exact hP) (by rw [show (T.setVm vm₁).heap = H from hT]; exact hS) hL (fun v hv => hst v (List.mem_append_right _ (List.mem_cons_of_mem _ hv))) hcall X₁ (by rw [hB.2.1]; exact hd) hn hb (X₁.named hnamed) hcat hfr hlo hce hsl kr kx
      (fun t ht => hstep₁ t fun acts => by rw [doInvoke_state]; exact ht)
end SC
