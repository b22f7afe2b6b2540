/-! Values: find -/
section CV2
variable {l : Launch} {G : sG} {L x d : Nat} {I : sI}
theorem hPr_eq {I I' : sI} (h : I' 4 = I 4) : hPr I' = hPr I := by unfold hPr; rw [h]
theorem hArt_eq {I I' : sI} (h : I' 3 = I 3) : hArt I' = hArt I := by unfold hArt; rw [h]
def fndP (I : sI) (ss ps : List Int) (pl : Nat) : Int → sI → Prop := fun v I' => (∀ b, b ≠ 67 → I' b = I b) ∧ ((v = 0 ∧ mf (hArt I) (hPr I) ss ps pl (fun _ => -1) = none) ∨ (v = 1 ∧ ∃ a b, mf (hArt I) (hPr I) ss ps pl (fun _ => -1) = some (a, b) ∧ bOk b ss.length ∧ ∀ k, 0 ≤ k → k < 6 → I' 67 k = b k))
theorem c_V_find {p s : Nat} {pl : Int} {ps ss : List Int} (hp : hT p) (hs : hT s) (hpm : tm I p ps) (hp6 : ∀ c ∈ ps, -6 ≤ c) (hw : tw I s ss) (h0 : 0 ≤ pl) (h1 : pl < ss.length) :
    sCall l G mV_find (sRm (d + 4) 0) [.inr (.inl 66), .inr (.inl p), .inr (.inl s), .inl pl, .inr (.inl 2)] (hS L x I) (qE L x (fndP I ss ps pl.toNat)) := by
  have h100 := hw.1.2.1
  refine sCall_of (by decide) (Nat.le_of_ble_eq_true rfl) (sV1s_c trivial (sV1s_c trivial (sV1s_c trivial (sV1s_c (sV1_i (by omega) (by omega)) (sV1s_c trivial sV1s_n))))) rfl ?_
  show sJ l G mV_find (sRm (d + 4) 0) _ 0 (6 * 0) 0 [some (.inr (.inl 66)), some (.inr (.inl p)), some (.inr (.inl s)), some (.inl pl), some (.inr (.inl 2)), none, none, none] [] (hSh L, hRF, I, x)
  have hl1 := hT_lt hp
  have hl2 := hT_lt hs
  obtain ⟨hpm1, hpm2, hpm3, hpm4⟩ := hpm
  -- the second loop
  have loop2 : ∀ (n i : Nat) (a : Nat) (b : Int → Int) (I' : sI) (o7 : Option sV), n = ps.length - i → i ≤ ps.length → (∀ z, z ≠ 67 → I' z = I z) → (∀ k, 0 ≤ k → k < 6 → I' 67 k = b k) → bOk b ss.length → a ≤ ss.length →
      mf (hArt I) (hPr I) ss ps pl.toNat (fun _ => -1) = mf (hArt I) (hPr I) ss (ps.drop i) a b →
      sJ l G mV_find (sRm (d + 4) 0) (qE L x (fndP I ss ps pl.toNat)) 0 (6 * 0) 16 [some (.inr (.inl 66)), some (.inr (.inl p)), some (.inr (.inl s)), some (.inl pl), some (.inr (.inl 2)), some (.inl a), some (.inl i), o7] [] (hSh L, hRF, I', x) := by
    intro n
    induction n with
    | zero =>
      intro i a b I' o7 hn hi hI hb hbo ha hmf
      have hil : i = ps.length := by omega
      have e0 : I' p 2 = ps.length := by rw [hI p (by omega)]; exact hpm1
      refine sg_V_find_x (k := ?_)
      refine sc_retZ ct_V_find ⟨_, _, rfl, rfl, hI, Or.inr ⟨rfl, a, b, ?_, hbo, hb⟩⟩
      rw [hmf, hil, List.drop_length]
      rfl
    | succ n ih =>
      intro i a b I' o7 hn hi hI hb hbo ha hmf
      have hil : i < ps.length := by omega
      have e0 : I' p 2 = ps.length := by rw [hI p (by omega)]; exact hpm1
      have e1 : I' s 2 = ss.length := by rw [hI s (by omega)]; exact hw.1.1
      have ec : I' (p + 1) i = ps[i] := by rw [hI (p + 1) (by omega)]; exact hpm3 i hil
      have hc6 := hp6 _ (List.getElem_mem hil)
      have hc12 := hpm4 _ (List.getElem_mem hil)
      have hw' : tw I' s ss := tw_upd hw (hI _ (by omega)) (hI _ (by omega)) (hI _ (by omega)) (hI _ (by omega))
      have har : hArt I' = hArt I := hArt_eq (hI 3 (by omega))
      have hpr : hPr I' = hPr I := hPr_eq (hI 4 (by omega))
      rw [List.drop_eq_getElem_cons hil] at hmf
      by_cases hal : a < ss.length
      · have hsa : I' (s + 1) a = ss[a] := by
          have := tm_get hw'.1 (p := (a : Int)) (by omega) (by omega)
          simpa using this
        simp only [mf, dif_pos hal] at hmf
        by_cases hcn : ps[i] < 0
        · rw [if_pos hcn] at hmf
          refine sg_V_find_v (k := ?_)
          rw [ec]
          have hbo' : bOk (I' 67) ss.length := fun k k0 k1 => by rw [hb k k0 k1]; exact hbo k k0 k1
          refine sc_vE (as := [.inl _, .inr (.inl _), .inl _, .inr (.inl _)]) (rest := []) (cc := 3) ct_V_find lk_V_take lm_V_take_30 (c_V_take (d := d) hs hw' (by omega) (by omega) (by omega) (by omega) hbo') rfl (fun r I'' hr => ?_)
          have hbv : I' 67 (-1 - ps[i]) = b (-1 - ps[i]) := hb _ (by omega) (by omega)
          have hpos := f_s_pos (hArt I) hw.2.2 hal
          have hend : I' (s + 2) a = a + f_tk (hArt I) 1 (ss.drop a) := by
            have := hw'.2.1 a hal
            rw [har] at this
            exact this
          rw [hbv] at hr
          by_cases hb1 : b (-1 - ps[i]) = -1
          · rw [if_pos hb1] at hr hmf
            obtain ⟨rfl, hr⟩ := hr
            rw [hpr] at hr
            have ean : ss[(a : Int).toNat]'(by omega) = ss[a] := rfl
            rw [ean] at hr
            by_cases hpp : hPr I ss[a] = true
            · rw [if_pos hpp] at hr hmf
              subst hr
              refine sg_V_find_f (k := ?_)
              exact sc_retZ ct_V_find ⟨_, _, rfl, rfl, fun z hz => by rw [sU_ne hz]; exact hI z hz, Or.inl ⟨rfl, hmf⟩⟩
            · rw [if_neg hpp] at hr hmf
              subst hr
              refine sg_V_find_t (k := ?_)
              rw [sU_ne (show s + 2 ≠ 67 by omega), hend]
              have := ih (i + 1) (a + f_tk (hArt I) 1 (ss.drop a)) (bU b (-1 - ps[i]) a) (sU I' 67 (-1 - ps[i]) a) (some (.inl ps[i])) (by omega) (by omega) (fun z hz => by rw [sU_ne hz]; exact hI z hz) (fun k k0 k1 => by
                unfold sU bU
                by_cases hk : k = -1 - ps[i]
                · rw [if_pos ⟨rfl, hk⟩, if_pos hk]
                · rw [if_neg (fun h => hk h.2), if_neg hk]
                  exact hb k k0 k1) (fun k k0 k1 => by
                unfold bU
                by_cases hk : k = -1 - ps[i]
                · rw [if_pos hk]
                  right
                  omega
                · rw [if_neg hk]
                  exact hbo k k0 k1) (by omega) hmf
              exact this
          · rw [if_neg hb1] at hr hmf
            obtain ⟨rfl, hr⟩ := hr
            rw [har] at hr
            have ean : (a : Int).toNat = a := rfl
            rw [ean] at hr
            by_cases hpp : f_s (hArt I) ss (b (-1 - ps[i])).toNat = f_s (hArt I) ss a
            · rw [if_pos hpp] at hr hmf
              subst hr
              refine sg_V_find_t (k := ?_)
              rw [hend]
              exact ih (i + 1) (a + f_tk (hArt I) 1 (ss.drop a)) b _ _ (by omega) (by omega) hI hb hbo (by omega) hmf
            · rw [if_neg hpp] at hr hmf
              subst hr
              refine sg_V_find_f (k := ?_)
              exact sc_retZ ct_V_find ⟨_, _, rfl, rfl, hI, Or.inl ⟨rfl, hmf⟩⟩
        · rw [if_neg hcn] at hmf
          by_cases hcc : ss[a] = ps[i]
          · rw [if_pos hcc] at hmf
            refine sg_V_find_e (k := ?_)
            exact ih (i + 1) (a + 1) b I' _ (by omega) (by omega) hI hb hbo (by omega) hmf
          · rw [if_neg hcc] at hmf
            refine sg_V_find_d (k := ?_)
            exact sc_retZ ct_V_find ⟨_, _, rfl, rfl, hI, Or.inl ⟨rfl, hmf⟩⟩
      · simp only [mf, dif_neg hal] at hmf
        refine sg_V_find_o (k := ?_)
        exact sc_retZ ct_V_find ⟨_, _, rfl, rfl, hI, Or.inl ⟨rfl, hmf⟩⟩
  have loop1 : ∀ (n : Nat) (kk : Int) (I' : sI), n = (6 - kk).toNat → 0 ≤ kk → kk ≤ 6 → (∀ z, z ≠ 67 → I' z = I z) → (∀ k, 0 ≤ k → k < kk → I' 67 k = -1) →
      sJ l G mV_find (sRm (d + 4) 0) (qE L x (fndP I ss ps pl.toNat)) 0 (6 * 0) 2 [some (.inr (.inl 66)), some (.inr (.inl p)), some (.inr (.inl s)), some (.inl pl), some (.inr (.inl 2)), some (.inl kk), none, none] [] (hSh L, hRF, I', x) := by
    intro n
    induction n with
    | zero =>
      intro kk I' hn hk0 hk1 hI hb
      have : kk = 6 := by omega
      subst this
      refine sg_V_find_m (k := ?_)
      have := loop2 ps.length 0 pl.toNat (fun _ => -1) I' none rfl (Nat.zero_le _) hI hb (fun _ _ _ => Or.inl rfl) (by omega) rfl
      rw [show ((pl.toNat : Nat) : Int) = pl by omega] at this
      exact this
    | succ n ih =>
      intro kk I' hn hk0 hk1 hI hb
      refine sg_V_find_l (k := ?_)
      refine ih (kk + 1) _ (by omega) (by omega) (by omega) (fun z hz => by rw [sU_ne hz]; exact hI z hz) (fun k k0 k1 => ?_)
      unfold sU
      by_cases hk : k = kk
      · rw [if_pos ⟨rfl, hk⟩]
      · rw [if_neg (fun h => hk h.2)]
        exact hb k k0 (by omega)
  refine sg_V_find_0 (k := ?_)
  exact loop1 6 0 I rfl (by omega) (by omega) (fun _ _ => rfl) (fun k k0 k1 => by omega)
end CV2
