/-! the law's start: what the tables say of the kinds, and the script -/
theorem sL_entry {G : sG} {as : List sV} {M : sM} (hn : as.length ≤ M.2.2.1) (h1 : ∀ v ∈ as, sV1 v) : sL G (((as.map (sE G)).map Slot.val ++ List.replicate (M.2.2.1 - (as.map (sE G)).length) Slot.unset).toArray) M.2.2.1 (as.map some ++ List.replicate (M.2.2.1 - as.length) none) := by
  have hsz : (((as.map (sE G)).map Slot.val ++ List.replicate (M.2.2.1 - (as.map (sE G)).length) Slot.unset).toArray).size = M.2.2.1 := by simp; omega
  have hget : ∀ k : Nat, (((as.map (sE G)).map Slot.val ++ List.replicate (M.2.2.1 - (as.map (sE G)).length) Slot.unset).toArray)[k]? = if h : k < as.length then some (.val (sE G as[k])) else if k < M.2.2.1 then some .unset else none := by
    intro k
    rw [List.getElem?_toArray]
    by_cases hk : k < as.length
    · rw [dif_pos hk, List.getElem?_append_left (by simpa using hk), List.getElem?_map, List.getElem?_map, List.getElem?_eq_getElem hk]
      rfl
    · rw [dif_neg hk, List.getElem?_append_right (by simpa using hk), List.getElem?_replicate]
      simp only [List.length_map]
      by_cases hk2 : k < M.2.2.1
      · rw [if_pos (by omega), if_pos hk2]
      · rw [if_neg (by omega), if_neg hk2]
  refine ⟨hsz, ⟨fun k v hv hc2 => ?_, fun k hk => ?_⟩, by simp; omega, fun k v hk => ?_⟩
  · rw [hget k] at hv
    split at hv
    · rename_i hlt
      cases hv
      have := sV1_c (G := G) (h1 _ (List.getElem_mem hlt))
      omega
    · split at hv <;> cases hv
  · rw [hget k] at hk
    split at hk
    · cases hk
    · split at hk <;> cases hk
  · by_cases hlt : k < as.length
    · rw [List.getElem?_append_left (by simpa using hlt), List.getElem?_map, List.getElem?_eq_getElem hlt] at hk
      cases hk
      refine ⟨by rw [hget k, dif_pos hlt], h1 _ (List.getElem_mem hlt)⟩
    · rw [List.getElem?_append_right (by simpa using hlt), List.getElem?_replicate] at hk
      split at hk <;> cases hk
theorem sGood_any {w : Cond} {s : State} {A : Array Value} (h : sGood w = true) (hb : w.before A s = true) : ∀ a, w.before a s = true := by
  intro a
  unfold sGood at h
  rw [Bool.or_eq_true, Bool.or_eq_true] at h
  rcases h with (h | h) | h
  · exact word_at (State.WarmedH.refl s) (good_of_word h) hb
  · cases w <;> first | exact absurd h Bool.false_ne_true | exact va_tabs rfl rfl hb
  · cases w <;> first | exact absurd h Bool.false_ne_true | exact va_tabs rfl rfl hb
theorem sBn {s t : State} {L : List Loc} {k n : Nat} (h : s.sameButNew t L k n) (hL : ∀ q ∈ L, s.heap.size ≤ q.base) : s.sameButNew t [] k n := by
  obtain ⟨h1, h2, h3, h4, h5, h6⟩ := h
  refine ⟨h1, h2, h3, h4, h5, fun a c ha => ?_⟩
  obtain ⟨c', g1, g2, g3, g4⟩ := h6 a c ha
  refine ⟨c', g1, g2, g3, fun i _ => g4 i (fun hm => ?_)⟩
  have h7 := hL _ hm
  have h8 : a < s.heap.size := (Array.getElem?_eq_some_iff.mp ha).1
  exact absurd h7 (Nat.not_le.mpr h8)
theorem tb_strs : sStr.all (fun q => decide (Cond.stringRef "TermBench" q.1 q.2 ∈ lw_tbl)) = true := by decide +kernel
theorem tb_ao : Cond.arrayOver (.object "TermBench$Term") ∈ lw_tbl := by decide +kernel
theorem tb_ai : Cond.arrayOver (.array .int) ∈ lw_tbl := by decide +kernel
theorem tb_lu : Cond.laysStatic Bundle.tN "UNASSIGNED_STACK" Bundle.steD ∈ lw_tbl := by decide +kernel
theorem tb_ln : Cond.laysStatic Bundle.tN "SUPPRESSED_SENTINEL" Bundle.listD ∈ lw_tbl := by decide +kernel
theorem tb_it : Cond.initialized Bundle.tN ∈ lw_tbl := by decide +kernel
def preW : List Cond := [.isRef (.static Bundle.tN "UNASSIGNED_STACK" Bundle.steD), .isRef (.static Bundle.tN "SUPPRESSED_SENTINEL" Bundle.listD), .not (.castable (cX 0) (cX 1)), .not (.castable (cX 0) (cX 2)), .not (.castable (cX 1) (cX 0)), .not (.castable (cX 1) (cX 2)), .not (.castable (cX 2) (cX 0)), .not (.castable (cX 2) (cX 1))] ++ sStr.map (fun q => .exactly (.string "TermBench" q.1) "java/lang/String")
/-- the kinds are there -/
theorem sC_start {s : State} {A : Array Value} {b : Nat} (hts : ∀ w ∈ lw_tbl, w.before A s = true) (hp : ∀ w ∈ preW, w.before A s = true) : ∃ G : sG, G.1 = s.heap.size ∧ G.2.1 = b ∧ sC G s := by
  have hin : ∀ w, sIn w = true → ∀ a, w.before a s = true := fun w hw => by
    have hg := sIn_good hw
    unfold sIn at hw
    rw [Bool.and_eq_true, decide_eq_true_eq] at hw
    exact sGood_any hg (hts w hw.1)
  have hk : ∀ c : Nat, ∃ d : ClassId × (Nat → Nat), ∀ q : vw_C, classes[c]? = some q → u_Kn s q.1 q.2.1 q.2.2 d.1 d.2 := by
    intro c
    by_cases hc : ∃ q, classes[c]? = some q
    · obtain ⟨q, hq⟩ := hc
      have hok := (cls_ok c q hq).1
      obtain ⟨C, T, N⟩ := q
      have hi : ∃ n, (Cond.instantiable C n).before #[] s = true := by
        have hl := cls_lt hq
        match c, hl, hq with
        | 0, _, h => cases h; exact ⟨13, hin _ in_B #[]⟩
        | 1, _, h => cases h; exact ⟨3, hin _ in_A #[]⟩
        | 2, _, h => cases h; exact ⟨3, hin _ in_T #[]⟩
        | 3, _, h => cases h; exact ⟨1, hin _ in_V #[]⟩
        | 4, _, h => cases h; exact ⟨1, hin _ in_O #[]⟩
        | 5, _, h => cases h; exact ⟨9, hin _ in_U #[]⟩
        | 6, _, h => cases h; exact ⟨28, hin _ in_M #[]⟩
      obtain ⟨n, hi⟩ := hi
      obtain ⟨cC, iS, hu⟩ := u_known (ws := u_ws C T N) (T := T) (N := N) (fun w hw => hin w (hok w hw) #[]) (fun w hw => hw) hi
      exact ⟨(cC, iS), fun q' hq' => by
        have e := hq.symm.trans hq'
        cases e
        exact hu⟩
    · exact ⟨(0, fun _ => 0), fun q hq => absurd ⟨q, hq⟩ hc⟩
  obtain ⟨D, hD⟩ := Classical.axiomOfChoice hk
  obtain ⟨c0, k0, p0, a1, a2, a3⟩ := Cond.arrayClass_spec (hin _ ac_int #[])
  obtain ⟨c1, k1, p1, b1, b2, b3⟩ := Cond.arrayClass_spec (hin _ ac_bool #[])
  obtain ⟨c2, k2, p2, d1, d2, d3⟩ := Cond.arrayClass_spec (hin _ ac_long #[])
  obtain ⟨p3, c3, k3, e1, -, e2, e3, e4⟩ := Cond.arrayOver_spec (hts _ tb_ao)
  obtain ⟨p4, c4, k4, f1, -, f2, f3, f4⟩ := arrayOverA_spec (hts _ tb_ai)
  have h40 : p4 = c0 := by
    have : s.vm.findClass (FieldType.array .int).toString = some c0 := a1
    rw [f1] at this
    exact Option.some.inj this
  subst h40
  have hheap : ∀ a : Nat, a < s.heap.size → ¬ s.heap.size ≤ a := fun a h => Nat.not_le.mpr h
  refine ⟨(s.heap.size, b, (fun c => (D c).1, fun c => (D c).2), fun k => match k with | 0 => p4 | 1 => c1 | 2 => c2 | 3 => c3 | _ => c4), rfl, rfl, hin, ⟨fun c q hq => hD c q hq, fun k q hkq => ?_⟩, ⟨fun q hq => ?_, ?_, ?_, hts _ tb_ao, ⟨⟨k4, f2, f3⟩, hts _ tb_ai⟩, ?_⟩⟩
  · match k, hkq with
    | 0, h => cases h; exact ⟨fun n z => ⟨fun k h => (by cases h), k0, a2, p0, a3⟩, a1⟩
    | 1, h => cases h; exact ⟨fun n z => ⟨fun k h => (by cases h), k1, b2, p1, b3⟩, b1⟩
    | 2, h => cases h; exact ⟨fun n z => ⟨fun k h => (by cases h), k2, d2, p2, d3⟩, d1⟩
    | 3, h => cases h; exact ⟨fun n z => ⟨fun k h => (by cases h), k3, e2, p3, e3⟩, k3, p3, e2, e3, e1, e4⟩
    | 4, h => cases h; exact ⟨fun n z => ⟨fun k h => (by cases h), k4, f2, p4, f3⟩, f4⟩
  · have h1 := List.all_eq_true.mp tb_strs q hq
    have h2 := hp (.exactly (.string "TermBench" q.1) "java/lang/String") (List.mem_append_right _ (List.mem_map.mpr ⟨q, hq, rfl⟩))
    obtain ⟨z, _, _, _, g1, -⟩ := Cond.exactly_spec h2
    exact ⟨z, vk_R.of (hts _ (of_decide_eq_true h1)) g1⟩
  · exact vx_Zqof (hts _ tb_lu) (hts _ tb_it) (hp _ (by simp [preW])) hheap
  · exact vx_Zqof (hts _ tb_ln) (hts _ tb_it) (hp _ (by simp [preW])) hheap
  · exact ⟨va_Nc.of (hp _ (by simp [preW])), va_Nc.of (hp _ (by simp [preW])), va_Nc.of (hp _ (by simp [preW])), va_Nc.of (hp _ (by simp [preW])), va_Nc.of (hp _ (by simp [preW])), va_Nc.of (hp _ (by simp [preW]))⟩
/-- the script as whole numbers -/
def I_s (xs : Nat → Int32) : sI := fun a j => if a = 0 then (xs j.toNat).toInt else 0
theorem sP_start {G : sG} {s : State} {b L : Nat} {xs : Nat → Int32} {RF : sF} (hG : G.1 = s.heap.size) (hb : G.2.1 = b) (hL : L ≤ 2560) (hbl : b < s.heap.size) (hX : va_X b L xs s s.heap) : sP G ([(0, L)], RF, I_s xs, 0) s s.heap := by
  refine ⟨fun k q hq => ?_, by show 0 < 1; decide, ⟨by show G.1 + 0 ≤ _; omega, fun _ => by show _ = G.1 + 0; omega⟩, by omega, rfl, ?_, fun a j => ?_, fun a => ?_⟩
  · have : (sW G ([(0, L)], RF, I_s xs, 0)) = [] := rfl
    rw [this] at hq
    simp at hq
  · rw [hb]
    have e : (fun j : Nat => Int32.ofInt (I_s xs 0 j)) = xs := by
      funext j
      show Int32.ofInt (if 0 = 0 then (xs ((j : Int)).toNat).toInt else 0) = _
      rw [if_pos rfl, sR_of]
      rfl
    show va_X b L (fun j : Nat => Int32.ofInt (I_s xs 0 j)) s s.heap
    rw [e]
    exact hX
  · show sR (if a = 0 then (xs j.toNat).toInt else 0)
    split
    · exact sR_to _
    · exact sR_0
  · cases a with
    | zero => show L < 2147483648; omega
    | succ a =>
      show (sKd [(0, L)] (a + 1)).2 < _
      unfold sKd
      simp
