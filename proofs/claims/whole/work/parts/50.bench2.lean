/-! TermBench: code, order -/
theorem lm_B_rs_104 : sLm "TermBench" 104 mB_requireSlot = true := by decide +kernel
theorem lm_B_rp_165 : sLm "TermBench" 165 mB_requirePlace = true := by decide +kernel
theorem lm_B_ia_117 : sLm "TermBench" 117 mT_isAt = true := by decide +kernel
theorem lm_B_ig_121 : sLm "TermBench" 121 mO_isGreater = true := by decide +kernel
/-- the end of a call of the bench: a number, or refused -/
def qO (L x : Nat) (P : Int ⊕ Nat → sI → Prop) : sQ := fun r S => ∃ I, S = hS L x I ∧ ((∃ v, r = .inl (some (.inl v)) ∧ P (.inl v) I) ∨ ∃ n, r = .inr n ∧ P (.inr n) I)
def okS (a : Int) : Prop := 0 ≤ a ∧ a < 16
def cOkc (I : sI) (cs : List Int) : Prop := ∀ c ∈ cs, -6 ≤ c ∧ c < I 2 2
/-- the sixteen slots -/
def hSl (I : sI) (sl : Int → List Int) : Prop := ∀ a, okS a → tw I (6 + 3 * a.toNat) (sl a) ∧ cOkc I (sl a)
def ordV (ar : Int → Nat) (s t : List Int) (v : Int) : Prop := (v = 3 ∧ s = t) ∨ (v = 1 ∧ s ≠ t ∧ gt ar s t) ∨ (v = 2 ∧ s ≠ t ∧ ¬ gt ar s t ∧ gt ar t s) ∨ (v = 0 ∧ s ≠ t ∧ ¬ gt ar s t ∧ ¬ gt ar t s)
section CB2
variable {l : Launch} {G : sG} {L x d : Nat} {I : sI}
section RS
variable {M : sM} {Q : sQ} {κ i d1 k1 : Nat} {ls : List (Option sV)} {rest : List sV} {pc a0 b0 : Nat}
/-- a slot is asked for -/
theorem sc_rs {a : Int} (ct : sCert M) (hl : l.stackTraces = false) (hx : x ≠ 0) (ha : sR a) (hn : ¬ okS a → Q (.inr 0) (hS L x I)) (k : okS a → sJ l G M (sRm d1 k1) Q (κ + 1) (6 * (κ + 1)) (i + 1) ls rest (hS L x I))
    (hq : (sCd M)[i]? = some (pc, .invokestatic 104, a0, b0) := by rfl) (hcl : M.1.cls = "TermBench" := by rfl) (hh : M.2.2.2.2.2 = [] := by rfl) (hcat : (rest.map fun v => (sE G v).category).sum ≤ 8 := by exact Nat.le_of_ble_eq_true rfl) (hd : 6 < d1 := by omega) (hk : κ + 1 ≤ k1 := by omega) : sJ l G M (sRm d1 k1) Q κ (6 * κ) i ls (.inl a :: rest) (hS L x I) :=
  sc_s (as := [.inl a]) (rest := rest) (M2 := mB_requireSlot) (d2 := 6) (k2 := 1) ct lk_B_requireSlot (by rw [hcl]; exact lm_B_rs_104) (c_B_rs (d := 0) hl hx ha) (fun w S' h => by
    obtain ⟨rfl, h | h⟩ := h
    · obtain ⟨h1, h2⟩ := h
      cases h1
      exact k h2
    · exact absurd h.1 (by simp)) (fun n S' h => by
    obtain ⟨rfl, h | h⟩ := h
    · exact absurd h.1 (by simp)
    · obtain ⟨h1, h2⟩ := h
      cases h1
      exact ⟨hh, hn h2⟩) hq hcat hd (by decide) hk
end RS
theorem c_B_code (hl : l.stackTraces = false) (hx : x ≠ 0) {sl : Int → List Int} (hs : hSl I sl) {a p : Int} (ha : sR a) (hp : sR p) : sCall l G mB_code (sRm (d + 7) 2) [.inr (.inl 1), .inl a, .inl p] (hS L x I) (qO L x (fun r I' => I' = I ∧ ((r = .inr 0 ∧ ¬ (okS a ∧ 0 ≤ p ∧ p < (sl a).length)) ∨ (okS a ∧ ∃ h : 0 ≤ p ∧ p < (sl a).length, r = .inl ((sl a)[p.toNat]'(by omega)))))) := by
  refine sCall_of (by decide) (Nat.le_of_ble_eq_true rfl) (sV1s_c trivial (sV1s_c ha (sV1s_c hp sV1s_n))) rfl ?_
  show sJ l G mB_code (sRm (d + 7) 2) _ 0 (6 * 0) 0 [some (.inr (.inl 1)), some (.inl a), some (.inl p)] [] (hSh L, hRF, I, x)
  refine sg_B_co_0 (k := ?_)
  refine sc_rs ct_B_code hl hx ha (fun h => ⟨_, rfl, Or.inr ⟨0, rfl, rfl, Or.inl ⟨rfl, fun h2 => h h2.1⟩⟩⟩) (fun hok => ?_)
  have hok' := hok
  unfold okS at hok'
  have ht := hT_slot hok'.1 hok'.2
  have hw := (hs a hok).1
  have hwt := hw.1.1
  have h100 := hw.1.2.1
  refine sg_B_co_1 (k := ?_)
  refine sc_s (as := [.inr (.inl _), .inl p]) (rest := []) (M2 := mB_requirePlace) (d2 := 6) (k2 := 1) ct_B_code lk_B_requirePlace lm_B_rp_165 (c_B_rp (d := 0) hl hx ht hp) (fun w S' h => ?_) (fun n S' h => ?_)
  · obtain ⟨rfl, h | h⟩ := h
    · obtain ⟨h1, h2⟩ := h
      cases h1
      rw [hwt] at h2
      refine sg_B_co_2 (k := ?_)
      refine sc_ret ct_B_code ⟨_, rfl, Or.inl ⟨_, rfl, rfl, Or.inr ⟨hok, h2, ?_⟩⟩⟩
      rw [← tm_get hw.1 h2.1 h2.2]
    · exact absurd h.1 (by simp)
  · obtain ⟨rfl, h | h⟩ := h
    · exact absurd h.1 (by simp)
    · obtain ⟨h1, h2⟩ := h
      cases h1
      rw [hwt] at h2
      exact ⟨rfl, _, rfl, Or.inr ⟨0, rfl, rfl, Or.inl ⟨rfl, fun h9 => h2 h9.2⟩⟩⟩
theorem c_B_order (hl : l.stackTraces = false) (hx : x ≠ 0) {sl : Int → List Int} (hs : hSl I sl) {a b : Int} (ha : sR a) (hb : sR b) : sCall l G mB_order (sRm (d + 7) 2) [.inr (.inl 1), .inl a, .inl b] (hS L x I) (qO L x (fun r I' => (r = .inr 0 ∧ I' = I ∧ ¬ (okS a ∧ okS b)) ∨ (nz I I' ∧ okS a ∧ okS b ∧ ∃ v, r = .inl v ∧ ordV (hArt I) (sl a) (sl b) v))) := by
  refine sCall_of (by decide) (Nat.le_of_ble_eq_true rfl) (sV1s_c trivial (sV1s_c ha (sV1s_c hb sV1s_n))) rfl ?_
  show sJ l G mB_order (sRm (d + 7) 2) _ 0 (6 * 0) 0 [some (.inr (.inl 1)), some (.inl a), some (.inl b), none, none] [] (hSh L, hRF, I, x)
  refine sg_B_or_0 (k := ?_)
  refine sc_rs ct_B_order hl hx ha (fun h => ⟨_, rfl, Or.inr ⟨0, rfl, Or.inl ⟨rfl, rfl, fun h2 => h h2.1⟩⟩⟩) (fun hoka => ?_)
  refine sg_B_or_1 (k := ?_)
  refine sc_rs ct_B_order hl hx hb (fun h => ⟨_, rfl, Or.inr ⟨0, rfl, Or.inl ⟨rfl, rfl, fun h2 => h h2.2⟩⟩⟩) (fun hokb => ?_)
  have hoka' := hoka
  have hokb' := hokb
  unfold okS at hoka' hokb'
  have hta := hT_slot hoka'.1 hoka'.2
  have htb := hT_slot hokb'.1 hokb'.2
  have hwa := (hs a hoka).1
  have hwb := (hs b hokb).1
  have hl1 := hT_lt hta
  have hl2 := hT_lt htb
  have ka0 : 0 < (sl a).length := List.length_pos_iff.mpr (f_wf_ne _ hwa.2.2)
  have kb0 : 0 < (sl b).length := List.length_pos_iff.mpr (f_wf_ne _ hwb.2.2)
  have c6a : ∀ c ∈ sl a, -6 ≤ c := fun c hc => ((hs a hoka).2 c hc).1
  have c6b : ∀ c ∈ sl b, -6 ≤ c := fun c hc => ((hs b hokb).2 c hc).1
  have fa : f_s (hArt I) (sl a) 0 = sl a := f_s_0 _ hwa.2.2
  have fb : f_s (hArt I) (sl b) 0 = sl b := f_s_0 _ hwb.2.2
  refine sg_B_or_2 (k := ?_)
  refine sc_vE (as := [.inl _, .inr (.inl _), .inl _]) (rest := []) (cc := 2) ct_B_order lk_T_isAt lm_B_ia_117 (c_T_isAtW (d := d) hta htb hwa hwb (by omega) (by omega) (by omega) (by omega)) (by rw [(hT_k L hta).1]) (fun r I1 hr => ?_)
  obtain ⟨rfl, hr⟩ := hr
  rw [show (0 : Int).toNat = 0 from rfl, fa, fb] at hr
  by_cases he : sl a = sl b
  · rw [if_pos he] at hr
    subst hr
    refine sg_B_or_s (k := ?_)
    exact sc_ret ct_B_order ⟨_, rfl, Or.inl ⟨_, rfl, Or.inr ⟨fun _ _ => rfl, hoka, hokb, 3, rfl, Or.inl ⟨rfl, he⟩⟩⟩⟩
  · rw [if_neg he] at hr
    subst hr
    refine sg_B_or_3 (k := ?_)
    refine sc_vE (as := [.inr (.inl _), .inl _, .inr (.inl _)]) (rest := []) (cc := 4) ct_B_order lk_O_isGreater lm_B_ig_121 (c_O_ig (d := d) hta htb hwa hwb c6a c6b (by omega) (by omega)) rfl (fun r2 I2 hr2 => ?_)
    obtain ⟨hI2, hr2⟩ := hr2
    rw [show (0 : Int).toNat = 0 from rfl, fa] at hr2
    rcases hr2 with ⟨rfl, hg⟩ | ⟨rfl, hg⟩
    · refine sg_B_or_f (k := ?_)
      exact sc_ret ct_B_order ⟨_, rfl, Or.inl ⟨_, rfl, Or.inr ⟨hI2, hoka, hokb, 1, rfl, Or.inr (Or.inl ⟨rfl, he, hg⟩)⟩⟩⟩
    · refine sg_B_or_4 (k := ?_)
      have hwa2 : tw I2 (6 + 3 * a.toNat) (sl a) := tw_upd hwa (hI2 _ (by omega)) (hI2 _ (by omega)) (hI2 _ (by omega)) (hI2 _ (by omega))
      have hwb2 : tw I2 (6 + 3 * b.toNat) (sl b) := tw_upd hwb (hI2 _ (by omega)) (hI2 _ (by omega)) (hI2 _ (by omega)) (hI2 _ (by omega))
      have har : hArt I2 = hArt I1 := hArt_eq (hI2 3 (by omega))
      refine sc_vE (as := [.inr (.inl _), .inl _, .inr (.inl _)]) (rest := []) (cc := 4) ct_B_order lk_O_isGreater lm_B_ig_121 (c_O_ig (d := d) htb hta hwb2 hwa2 c6b c6a (by omega) (by omega)) rfl (fun r3 I3 hr3 => ?_)
      obtain ⟨hI3, hr3⟩ := hr3
      rw [har, show (0 : Int).toNat = 0 from rfl, fb] at hr3
      have hI : nz I1 I3 := fun z hz => by rw [hI3 z hz, hI2 z hz]
      rcases hr3 with ⟨rfl, hg3⟩ | ⟨rfl, hg3⟩
      · refine sg_B_or_g (k := ?_)
        exact sc_ret ct_B_order ⟨_, rfl, Or.inl ⟨_, rfl, Or.inr ⟨hI, hoka, hokb, 2, rfl, Or.inr (Or.inr (Or.inl ⟨rfl, he, hg, hg3⟩))⟩⟩⟩
      · refine sg_B_or_n (k := ?_)
        exact sc_ret ct_B_order ⟨_, rfl, Or.inl ⟨_, rfl, Or.inr ⟨hI, hoka, hokb, 0, rfl, Or.inr (Or.inr (Or.inr ⟨rfl, he, hg, hg3⟩))⟩⟩⟩
end CB2
