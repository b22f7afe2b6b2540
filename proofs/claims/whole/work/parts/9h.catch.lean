/-! a throw that the method itself catches -/
def sHo (M : sM) (pc n ih : Nat) (x : Nat × Nat × Nat × Nat) : Bool := covers ⟨x.1, x.2.1, x.2.2.1, x.2.2.2⟩ pc && decide (x.2.2.2 ≠ 0) && decide (sPc M ih = x.2.2.1) && sIn (Cond.classLink M.1.cls x.2.2.2 (cX n)) && sIn (Cond.castable (cX n) (cX n))
def sHp (M : sM) (n : Nat) (x : Nat × Nat × Nat × Nat) : Bool := decide (x.2.2.2 ≠ 0) && ((decide (n ≠ 0) && sIn (Cond.classLink M.1.cls x.2.2.2 (cX 0))) || (decide (n ≠ 1) && sIn (Cond.classLink M.1.cls x.2.2.2 (cX 1))) || (decide (n ≠ 2) && sIn (Cond.classLink M.1.cls x.2.2.2 (cX 2))))
def sHd (M : sM) (pc n ih : Nat) : Bool := decide (n < 3) && (match M.2.2.2.2.2 with
  | [x] => sHo M pc n ih x
  | [x, y] => sHo M pc n ih x || (sHp M n x && sHo M pc n ih y)
  | _ => false)
theorem sHd_spec {M : sM} {pc n ih : Nat} (h : sHd M pc n ih = true) : n < 3 ∧ ∃ pre x suf, M.2.2.2.2.2 = pre ++ x :: suf ∧ (∀ z ∈ pre, sHp M n z = true) ∧ sHo M pc n ih x = true := by
  unfold sHd at h
  rw [Bool.and_eq_true, decide_eq_true_eq] at h
  obtain ⟨h1, h2⟩ := h
  refine ⟨h1, ?_⟩
  split at h2
  · rename_i x hx
    exact ⟨[], x, [], hx, (fun z hz => by cases hz), h2⟩
  · rename_i x y hx
    rw [Bool.or_eq_true, Bool.and_eq_true] at h2
    rcases h2 with h2 | ⟨h2, h3⟩
    · exact ⟨[], x, [y], hx, (fun z hz => by cases hz), h2⟩
    · exact ⟨[x], y, [], hx, (fun z hz => by rw [List.mem_singleton] at hz; rw [hz]; exact h2), h3⟩
  · cases h2
theorem sHp_spec {G : sG} {M : sM} {s : State} {n : Nat} {x : Nat × Nat × Nat × Nat} (hC : sC G s) (hn : n < 3) (h : sHp M n x = true) (args : Array Value) : x.2.2.2 ≠ 0 ∧ ∃ nm : String, (Cond.classLink M.1.cls x.2.2.2 nm).before args s = true ∧ va_Nc (cX n) nm s := by
  obtain ⟨-, -, -, -, -, n1, n2, n3, n4, n5, n6⟩ := hC.2.2
  unfold sHp at h
  simp only [Bool.and_eq_true, Bool.or_eq_true, decide_eq_true_eq] at h
  obtain ⟨h0, h1⟩ := h
  refine ⟨h0, ?_⟩
  have hc : n = 0 ∨ n = 1 ∨ n = 2 := by omega
  rcases h1 with (⟨g1, g2⟩ | ⟨g1, g2⟩) | ⟨g1, g2⟩
  · refine ⟨cX 0, hC.1 _ g2 args, ?_⟩
    rcases hc with rfl | rfl | rfl
    · exact absurd rfl g1
    · exact n3
    · exact n5
  · refine ⟨cX 1, hC.1 _ g2 args, ?_⟩
    rcases hc with rfl | rfl | rfl
    · exact n1
    · exact absurd rfl g1
    · exact n6
  · refine ⟨cX 2, hC.1 _ g2 args, ?_⟩
    rcases hc with rfl | rfl | rfl
    · exact n2
    · exact n4
    · exact absurd rfl g1
section SCH
variable {l : Launch} {G : sG} {M M2 : sM} {rm rm2 : Room} {Q Q2 : sQ} {κ θ i : Nat} {ls : List (Option sV)} {st : List sV} {S : sS} {pc a b : Nat}
/-- behind a call -/
theorem s_backH {p : Program} {e : Env} {s : State} {m : MethodId} {args : Array Value} {below : List Frame} {meth : Method} {c : Code} {T U : State} {locs : List Loc} {arr : Array Slot} {as rest : List sV} {ig : Instr} {mk : MethodId}
    (hB : sB M p s m meth c) (hC : sC G s) (h0 : G.1 ≤ s.heap.size) (hP : sP G S s U.heap) (hS : va_S (sA G) s.heap U.heap locs) (hL : sL G arr M.2.2.1 ls) (hr : ∀ v ∈ rest, sVr v)
    (hcall : sCall l G M2 rm2 as S Q2) (X : Stand p l e rm s m args below meth c U locs κ θ) (hdg : decode c.code pc = .ok (ig, 3)) (hnx : sPc M (i + 1) = pc + 3)
    (hb : sLb M2 = true) (hnm : U.methodNamed? M2.1 = some mk) (hcat : (rest.map fun v => (sE G v).category).sum ≤ 8)
    (hfr : rm2.frames + 1 ≤ rm.frames) (hlo : 8 + (M2.2.2.1 + 11) + rm2.locals ≤ rm.locals) (hce : κ + rm2.cells ≤ rm.cells) (hsl : θ + rm2.slots ≤ rm.slots)
    (kr : ∀ v S', Q2 (.inl v) S' → sJ l G M rm Q (κ + rm2.cells) (θ + rm2.slots) (i + 1) ls (v.toList ++ rest) S')
    (kx : ∀ n S', Q2 (.inr n) S' → ∃ ih, sHd M pc n ih = true ∧ ∀ y : Nat, sJ l G M rm Q (κ + rm2.cells) (θ + rm2.slots) ih ls [.inr (.inl y)] S')
    (hst : ∀ t, Steps p.tables e below (doInvoke e (U.setTop (F0 m pc arr (rest.map (sE G)))) [] mk (as.map (sE G)).toArray).1 t → Steps p.tables e below T t) :
    ∃ t, Steps p.tables e below T t ∧ sMQ below (sQc G Q) args s rm.cells rm.slots (sA G) t := by
  have hCU : sC G U := sC_move hC X.warmed (fun q hq => hS.2.1 q (Nat.lt_of_lt_of_le hq h0) (Nat.not_le.mpr hq))
  unfold sLb at hb
  simp only [Bool.and_eq_true, decide_eq_true_eq, List.all_eq_true] at hb
  obtain ⟨⟨⟨hini, hws⟩, -⟩, -⟩ := hb
  obtain ⟨T', L, r, S', X', hLL, hQ2, hP', hF, hW', hres⟩ := s_run hcall X (g := F0 m pc arr (rest.map (sE G))) rfl (by rw [hB.2.2.1]; exact hL.1) hdg (by show 2 * 0 + _ ≤ 8; rw [List.map_map]; exact Nat.le_trans (Nat.le_of_eq (Nat.zero_add _)) hcat) hnm
    (fun w hw => hCU.1 w (hws w hw) _) (hCU.1 _ hini _) hfr hlo hce hsl hCU (Nat.le_trans h0 hS.1) (sP_moved X.warmed.alike hP)
  have hS' := sS_call hS rfl hF hLL
  have hPs : sP G S' s T'.heap := sP_moved X'.warmed.alike.symm hP'
  rcases hres with ⟨v, rfl, hv1, hsteps⟩ | ⟨n, x, cell, rfl, hx, hcell, hvm, hcls, hsteps⟩
  · have w := kr v S' hQ2 p e s m args below meth c T'.heap (locs ++ L) arr hB hC h0 hPs hS' hL (by
      intro z hz
      rcases List.mem_append.mp hz with h | h
      · cases v with
        | none => cases h
        | some y =>
          have : z = y := by simpa using h
          subst this
          exact sV1_r (hv1 _ rfl)
      · exact hr z h)
    rw [hnx] at w
    obtain ⟨t, a1, b1⟩ := w T' rfl X'
    refine ⟨t, hst t (hsteps.trans ?_), b1⟩
    have e1 : (v.toList ++ rest).map (sE G) = (v.map (sE G)).toList ++ rest.map (sE G) := by cases v <;> simp
    rw [e1] at a1
    exact a1
  · obtain ⟨ih, hhd, kk⟩ := kx n S' hQ2
    obtain ⟨hn3, pre, z, suf, hsp, hpre, hz⟩ := sHd_spec hhd
    unfold sHo at hz
    simp only [Bool.and_eq_true, decide_eq_true_eq] at hz
    obtain ⟨⟨⟨⟨hz1, hz2⟩, hz3⟩, hz4⟩, hz5⟩ := hz
    have w := kk (x - G.1 + 1) p e s m args below meth c T'.heap (locs ++ L) arr hB hC h0 hPs hS' hL (fun v hv => by rw [List.mem_singleton] at hv; rw [hv]; trivial)
    have e1 : List.map (sE G) [.inr (.inl (x - G.1 + 1))] = [.ref x] := by
      show [Value.ref (G.1 + (x - G.1))] = _
      rw [Nat.add_sub_cancel' hx]
    rw [e1, hz3] at w
    have hcl : s.vm.findClass (cX n) = some cell.cls := by rw [← hcls]; exact (X'.warmed.alike.findClass _ _).symm
    obtain ⟨t, a1, b1⟩ := vx_catch (pc := pc) (rest := rest.map (sE G)) hB.2.2.2.2.2.1 (tableOf pre) ⟨z.1, z.2.1, z.2.2.1, z.2.2.2⟩ (tableOf suf) (by rw [hB.2.2.2.2.2.2.1, hsp]; unfold tableOf; rw [List.map_append, List.map_cons]) (fun u hu => by
      unfold tableOf at hu
      obtain ⟨u', hu', rfl⟩ := List.mem_map.mp hu
      exact Or.inr (sHp_spec hC hn3 (hpre u' hu') args)) (by simpa [covers] using hz1) hz2 (hC.1 _ hz4 args) (hC.1 _ hz5 args) hcell hvm hcl w T' rfl X'
    exact ⟨t, hst t (hsteps.trans a1), b1⟩
theorem sj_callVH {idx x cc : Nat} {as rest : List sV} (hq : (sCd M)[i]? = some (pc, .invokevirtual idx, a, b)) (hc : sCk M i (pc, .invokevirtual idx, a, b) = true) (hlk : sLv as.length M2 = true) (hlm : sLm M.1.cls idx M2 = true) (hcl : ∃ q : vw_C, classes[cc]? = some q ∧ q.1 = M2.1.cls) (hx : (sKd S.1 x).1 = cc + 5)
    (hcall : sCall l G M2 rm2 (.inr (.inl x) :: as) S Q2) (hcat : (rest.map fun v => (sE G v).category).sum ≤ 8)
    (hfr : rm2.frames + 1 ≤ rm.frames) (hlo : 8 + (M2.2.2.1 + 11) + rm2.locals ≤ rm.locals) (hce : κ + rm2.cells ≤ rm.cells) (hsl : θ + rm2.slots ≤ rm.slots)
    (kr : ∀ v S', Q2 (.inl v) S' → sJ l G M rm Q (κ + rm2.cells) (θ + rm2.slots) (i + 1) ls (v.toList ++ rest) S')
    (kx : ∀ n S', Q2 (.inr n) S' → ∃ ih, sHd M pc n ih = true ∧ ∀ y : Nat, sJ l G M rm Q (κ + rm2.cells) (θ + rm2.slots) ih ls [.inr (.inl y)] S') : sJ l G M rm Q κ θ i ls (as.reverse ++ .inr (.inl x) :: rest) S := by
  intro p e s m args below meth c H locs arr hB hC h0 hP hS hL hst
  have hd := sCk_dec hc
  have hn := sCk_len hc (by simp [sLen])
  rw [sPc_at hq]
  unfold sLv at hlk
  simp only [Bool.and_eq_true, decide_eq_true_eq] at hlk
  obtain ⟨⟨⟨hb, hins⟩, hsel⟩, hlen⟩ := hlk
  intro T hT X
  have hb2 := hb
  unfold sLb at hb2
  simp only [Bool.and_eq_true, decide_eq_true_eq, List.all_eq_true] at hb2
  obtain ⟨⟨⟨hini, hws⟩, hy1⟩, hy2⟩ := hb2
  obtain ⟨q, hcl, hqn⟩ := hcl
  obtain ⟨x', rfl, hlt, hw⟩ := sP_obj hP hx (cls_99 hcl)
  obtain ⟨cell, hcell, hnst, hclsB⟩ := va_recv hC.2.1 hP.1 hcl hw
  obtain ⟨mk, methM, hnamed, hmethM, hstM, habM⟩ := Cond.instanceMethod_spec (hC.1 _ hins args)
  obtain ⟨methM', cM, hmethM', -, -, -, -, -, -, hsigM⟩ := sWs_spec (M := M2) (fun w hw => hC.1 w (hws w hw) args) hnamed
  cases hmethM.symm.trans hmethM'
  obtain ⟨c2, r2, m2, q1, q2, q3, q4, kP, hkP, hkPi⟩ := Cond.selects_spec (hC.1 _ hsel args)
  rw [hqn] at hclsB
  cases hclsB.symm.trans q1
  cases (State.methodFound?_of_named hnamed ⟨hy1, hy2⟩).symm.trans q2
  cases hnamed.symm.trans q3
  have hselP : selectMethod e.platform s.vm cell.cls mk = .method mk := by rw [Launch.admits_selectMethod X.admits]; exact q4
  have hln : (as.map (sE G)).length = methM.sig.parameters.length := by
    rw [hsigM] at hlen
    simpa using hlen.symm
  have hstk : (as.reverse ++ .inr (.inl (x' + 1)) :: rest).map (sE G) = (as.map (sE G)).reverse ++ .ref (G.1 + x') :: rest.map (sE G) := by simp [sE, sAd]
  have fin : ∀ vm₁ : Vm, Stand p l e rm s m args below meth c (T.setVm vm₁) locs κ θ → (∀ target, (∀ acts, Steps p.tables e below (doInvoke e ((T.setVm vm₁).setTop (F0 m pc arr (rest.map (sE G)))) acts mk (Value.ref (G.1 + x') :: as.map (sE G)).toArray).1 target) → Steps p.tables e below (T.setTop (F0 m pc arr ((as.reverse ++ .inr (.inl (x' + 1)) :: rest).map (sE G)))) target) →
      ∃ t, Steps p.tables e below (T.setTop (F0 m pc arr ((as.reverse ++ .inr (.inl (x' + 1)) :: rest).map (sE G)))) t ∧ sMQ below (sQc G Q) args s rm.cells rm.slots (sA G) t := fun vm₁ X₁ hstep₁ =>
    s_backH (U := T.setVm vm₁) (mk := mk) hB hC h0 (by rw [show (T.setVm vm₁).heap = H from hT]; exact hP) (by rw [show (T.setVm vm₁).heap = H from hT]; exact hS) hL (fun v hv => hst v (List.mem_append_right _ (List.mem_cons_of_mem _ hv))) hcall X₁ (by rw [hB.2.1]; exact hd) hn hb (X₁.named hnamed) hcat hfr hlo hce hsl kr kx
      (fun t ht => hstep₁ t fun acts => by rw [doInvoke_state]; exact ht)
  unfold sLm at hlm
  rw [Bool.or_eq_true] at hlm
  rcases hlm with hlm | hlm
  · obtain ⟨vm₁, X₁, hstep₁⟩ := X.invokevirtual hB.1 hB.2.2.2.2.2.1 (hC.1 _ hlm args) hnamed hmethM hstM hkP hkPi ⟨hy1, hy2⟩ (a := G.1 + x') (cell := cell) (by rw [hT]; exact hcell)
      (fun z h => by rw [h] at hnst; cases hnst) hselP hmethM habM hkP hkPi (g := F0 m pc arr ((as.reverse ++ .inr (.inl (x' + 1)) :: rest).map (sE G))) rfl (argsL := as.map (sE G)) (rest := rest.map (sE G)) hln hstk (by rw [hB.2.1]; exact hd)
    exact fin vm₁ X₁ hstep₁
  · obtain ⟨vm₁, X₁, hstep₁⟩ := X.invokevirtualNest hB.1 hB.2.2.2.2.2.1 (hC.1 _ hlm args) hnamed hmethM hstM hkP hkPi ⟨hy1, hy2⟩ (a := G.1 + x') (cell := cell) (by rw [hT]; exact hcell)
      (fun z h => by rw [h] at hnst; cases hnst) hselP hmethM habM hkP hkPi (g := F0 m pc arr ((as.reverse ++ .inr (.inl (x' + 1)) :: rest).map (sE G))) rfl (argsL := as.map (sE G)) (rest := rest.map (sE G)) hln hstk (by rw [hB.2.1]; exact hd)
    exact fin vm₁ X₁ hstep₁
end SCH
section HRH
variable {l : Launch} {G : sG} {M M2 : sM} {Q : sQ} {κ i : Nat} {ls : List (Option sV)} {rest : List sV} {pc a b d1 k1 d2 k2 : Nat} {L x : Nat} {I : sI}
theorem sc_vH {idx y cc : Nat} {as : List sV} {P : Int ⊕ Nat → sI → Prop} (ct : sCert M) (hlk : sLv as.length M2 = true) (hlm : sLm M.1.cls idx M2 = true)
    (hcall : sCall l G M2 (sRm d2 k2) (.inr (.inl y) :: as) (hS L x I) (qO L x P)) (hx : (sKd (hSh L) y).1 = cc + 5)
    (kr : ∀ v I', P (.inl v) I' → sJ l G M (sRm d1 k1) Q (κ + k2) (6 * (κ + k2)) (i + 1) ls (.inl v :: rest) (hS L x I'))
    (kx : ∀ n I', P (.inr n) I' → ∃ ih, sHd M pc n ih = true ∧ ∀ y : Nat, sJ l G M (sRm d1 k1) Q (κ + k2) (6 * (κ + k2)) ih ls [.inr (.inl y)] (hS L x I')) (hq : (sCd M)[i]? = some (pc, .invokevirtual idx, a, b) := by rfl) (hcl : ∃ q : vw_C, classes[cc]? = some q ∧ q.1 = M2.1.cls := by exact ⟨_, rfl, rfl⟩) (hcat : (rest.map fun v => (sE G v).category).sum ≤ 8 := by exact Nat.le_of_ble_eq_true rfl)
    (hd : d2 < d1 := by omega) (hml : M2.2.2.1 ≤ 21 := by decide) (hk : κ + k2 ≤ k1 := by omega) : sJ l G M (sRm d1 k1) Q κ (6 * κ) i ls (as.reverse ++ .inr (.inl y) :: rest) (hS L x I) :=
  sj_callVH hq (ct i _ hq (by simp)) hlk hlm hcl hx hcall hcat hd (by show 8 + (M2.2.2.1 + 11) + (40 * d2 + 100) ≤ 40 * d1 + 100; omega) hk (by show 6 * κ + 6 * k2 ≤ 6 * k1; omega) (fun w S' h => by
      obtain ⟨I', rfl, h | h⟩ := h
      · obtain ⟨v, h1, h2⟩ := h
        cases h1
        rw [← Nat.mul_add]
        exact kr v I' h2
      · obtain ⟨n, h1, -⟩ := h
        cases h1) (fun n S' h => by
      obtain ⟨I', rfl, h | h⟩ := h
      · obtain ⟨v, h1, -⟩ := h
        cases h1
      · obtain ⟨n', h1, h2⟩ := h
        cases h1
        obtain ⟨ih, g1, g2⟩ := kx n I' h2
        exact ⟨ih, g1, fun y => by rw [← Nat.mul_add]; exact g2 y⟩)
end HRH
